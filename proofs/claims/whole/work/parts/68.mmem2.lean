/-! ===== L2: the reference reads members: each sort ===== -/
theorem RT.setK {G : GG} {m m1 : MM} {d tt len : Nat} {B : Nat → Int32} {K K1 X : List Ko} {Q : List Enm} {E E1 : Enm} {l l1 : List Tok} (h : RT G m d tt len B K Q E l) (eK : K1 = K ++ X) (hX : ∀ q ∈ X, q.1.1 ≠ 14) (h1 : RE G m1 d tt len B Q.length (aK K1) [] l1 none) (o : EO m m1 d (8 * tt + Q.length)) (hg : ∀ i, 24 ≤ i → i ≤ 29 → m1.1 (d + i) = m.1 (d + i)) (hq : QE m1 d tt B K1 Q.length E1) (hB : E1.1 < 4096 ∧ EB E1.2.1 E1.2.2) (hl : l1.length ≤ l.length) (hK1 : K1.length + l1.length ≤ 2001) : RT G m1 d tt len B K1 Q E1 l1 := by
  obtain ⟨a1, a2, a3, a4, a5⟩ := h
  subst eK
  refine ⟨h1, a2.app.last o a4 hq, (a3.app hX).eq hg, ⟨?_, fun E' hE' => ?_⟩, ?_, hK1⟩
  · have := a4.1
    rw [List.length_append] at this ⊢
    exact this
  · rw [List.mem_append, List.mem_singleton] at hE'
    rcases hE' with z | z
    · exact a4.2 E' (by simp [z])
    · exact z ▸ hB
  · have : gvi 0 (K ++ X) = gvi 0 K := by rw [gvi_app, gvi_none X _ hX, List.append_nil]
    rw [this]
    omega
theorem ex_no14 {en so c : Nat} {ops : List Op} (h : ∀ o ∈ ops, opB o) : ∀ q ∈ ops.map (kox en so c) ++ [stK en so c], q.1.1 ≠ 14 := fun q hq => by
  rw [List.mem_append, List.mem_singleton] at hq
  rcases hq with hq | hq
  · obtain ⟨o, ho, rfl⟩ := List.mem_map.mp hq
    have := (h o ho).2.1
    show o.1 ≠ 14
    omega
  · rw [hq]
    show 0 ≠ 14
    decide
theorem QM.set {m m1 : MM} {d ge : Nat} {B : Nat → Int32} {K X : List Ko} {ms : List Mem} {q : Mem} (h : QM m d B ge K ms) (h7 : gI m1 (d + 7) ge = nI ((mbs ms).length + 1)) (ht : q.1 = 5 ∨ q.1 = 6) (ho : ∀ o j, 15 ≤ o → o ≤ 18 → j ≠ 8 * ge + (mbs ms).length → gI m1 (d + o) j = gI m (d + o) j) (h1 : gI m1 (d + 15) (8 * ge + (mbs ms).length) = nI q.2.1) (h2 : gI m1 (d + 16) (8 * ge + (mbs ms).length) = nI (nl B q.2.1)) (h3 : q.1 = 5 → gI m1 (d + 17) (8 * ge + (mbs ms).length) = -1) (h4 : q.1 = 6 → ∃ s, SG (K ++ X) q.2.2.2 s ∧ gI m1 (d + 17) (8 * ge + (mbs ms).length) = nI (ct (K ++ X) q.2.2.2) ∧ gI m1 (d + 18) (8 * ge + (mbs ms).length) = nI (ct (K ++ X) q.2.2.2 + s.length)) : QM m1 d B ge (K ++ X) (ms ++ [q]) := by
  refine ⟨by rw [h7, mbs_in ht, List.length_append]; rfl, fun i x hx => ?_⟩
  rw [mbs_in ht] at hx
  rcases ap_get hx with ⟨a, b⟩ | ⟨a, b⟩
  · obtain ⟨c1, c2, c3, c4⟩ := (h.app (X := X)).2 i x b
    refine ⟨by rw [ho _ _ (by omega) (by omega) (by omega)]; exact c1, by rw [ho _ _ (by omega) (by omega) (by omega)]; exact c2, fun z => by rw [ho _ _ (by omega) (by omega) (by omega)]; exact c3 z, fun z => ?_⟩
    obtain ⟨s, x1, x2, x3⟩ := c4 z
    exact ⟨s, x1, by rw [ho _ _ (by omega) (by omega) (by omega)]; exact x2, by rw [ho _ _ (by omega) (by omega) (by omega)]; exact x3⟩
  · subst a
    subst b
    exact ⟨h1, h2, h3, h4⟩
theorem QF.set {m m1 : MM} {d ge : Nat} {B : Nat → Int32} {K X : List Ko} {ms : List Mem} {q : Mem} (h : QF m d B ge K ms) (h7 : gI m1 (d + 8) ge = nI ((fls ms).length + 1)) (ht : q.1 = 7 ∨ q.1 = 8) (ho : ∀ o j, 19 ≤ o → o ≤ 23 → j ≠ 6 * ge + (fls ms).length → gI m1 (d + o) j = gI m (d + o) j) (h1 : gI m1 (d + 19) (6 * ge + (fls ms).length) = nI q.2.1) (h2 : gI m1 (d + 20) (6 * ge + (fls ms).length) = nI (nl B q.2.1)) (h3 : q.1 = 8 → gI m1 (d + 22) (6 * ge + (fls ms).length) = -1 ∧ gI m1 (d + 21) (6 * ge + (fls ms).length) = nI q.2.2.1) (h4 : q.1 = 7 → ∃ s, SG (K ++ X) q.2.2.2 s ∧ gI m1 (d + 22) (6 * ge + (fls ms).length) = nI (ct (K ++ X) q.2.2.2) ∧ gI m1 (d + 23) (6 * ge + (fls ms).length) = nI (ct (K ++ X) q.2.2.2 + s.length)) : QF m1 d B ge (K ++ X) (ms ++ [q]) := by
  refine ⟨by rw [h7, fls_in ht, List.length_append]; rfl, fun i x hx => ?_⟩
  rw [fls_in ht] at hx
  rcases ap_get hx with ⟨a, b⟩ | ⟨a, b⟩
  · obtain ⟨c1, c2, c3, c4⟩ := (h.app (X := X)).2 i x b
    refine ⟨by rw [ho _ _ (by omega) (by omega) (by omega)]; exact c1, by rw [ho _ _ (by omega) (by omega) (by omega)]; exact c2, fun z => ⟨by rw [ho _ _ (by omega) (by omega) (by omega)]; exact (c3 z).1, by rw [ho _ _ (by omega) (by omega) (by omega)]; exact (c3 z).2⟩, fun z => ?_⟩
    obtain ⟨s, x1, x2, x3⟩ := c4 z
    exact ⟨s, x1, by rw [ho _ _ (by omega) (by omega) (by omega)]; exact x2, by rw [ho _ _ (by omega) (by omega) (by omega)]; exact x3⟩
  · subst a
    subst b
    exact ⟨h1, h2, h3, h4⟩
theorem mfin {G : GG} {m m1 : MM} {d tt len e : Nat} {B : Nat → Int32} {A : List Ko} {l : List Tok} (h : RE G m1 d tt len B e A [] l none) : (hd l = 59 → ∃ m2, (bd (M_X11_need G d 59 m1) fun _ m_3 => some ((), m_3)) = some ((), m2) ∧ RE G m2 d tt len B e A [] l.tail none ∧ OE m1 m2 d tt ∧ l.tail.length + 1 = l.length) ∧ (hd l ≠ 59 → ∃ m2, (bd (M_X11_need G d 59 m1) fun _ m_3 => some ((), m_3)) = some ((), m2) ∧ RE G m2 d tt len B e A [] l (some (plc l)) ∧ OE m1 m2 d tt) := by
  obtain ⟨n1, n2⟩ := h.need (w := 59) (by omega)
  refine ⟨fun z => ?_, fun z => ?_⟩
  · obtain ⟨m2, e1, e2, e3, e4, e5⟩ := n1 z
    rw [show (59 : Int32) = nI 59 from rfl, bd_e e1]
    exact ⟨m2, rfl, e2, e3, e5⟩
  · obtain ⟨m2, e1, e2, e3⟩ := n2 z
    rw [show (59 : Int32) = nI 59 from rfl, bd_e e1]
    exact ⟨m2, rfl, e2, e3⟩
/-- a member: its name, then nothing or an exp -/
theorem mb_mem {G : GG} {m : MM} {d tt len p tk : Nat} {B : Nat → Int32} {K : List Ko} {Q : List Enm} {cs : List Con} {ms : List Mem} {l0 l : List Tok} (h : RT G m d tt len B K Q (p, cs, ms) l) (el : l0.tail = l) (htk : tk = 21 ∨ tk = 22) : (∀ ms1 K1 r, (if tk = 21 then pAbs ms K l0 else pDef Q.length ms K l0) = (some (ms1, K1), r) → RG G m d tt len B (B_X11_readMember_189 G d (nI tk) 0 m) K1 Q (p, cs, ms1) r) ∧ ∀ r, (if tk = 21 then pAbs ms K l0 else pDef Q.length ms K l0) = (none, r) → RB G m d tt len B (B_X11_readMember_189 G d (nI tk) 0 m) Q.length r := by
  obtain ⟨b1, b2, b3, b4⟩ := h.eb
  have hm8 : (mbs ms).length ≤ 8 := b2.2.1
  have hf6 : (fls ms).length ≤ 6 := b2.2.2.1
  have hL := h.1.1
  obtain ⟨t, rs, e0, z2, c1, c2, c3, c4⟩ := h.1.tok
  subst e0
  obtain ⟨-, d1, -⟩ := tc_all t.1 c1
  obtain ⟨q1, q2, q3, q4, q5, q6⟩ := h.2.1.cur
  have h48 := h.1.2.2.2.2.2.2.2.1
  have cg : (nI (8 * tt + Q.length)).toNatClampNeg = 8 * tt + Q.length := nI_clamp (by omega)
  unfold B_X11_readMember_189 pAbs pDef
  rw [z2.2.1, el]
  obtain ⟨mS, s1, s2, s3⟩ := h.1.stop
  have stp : (bd (M_X11_stop G d m) fun _ m_53 => some ((), m_53)) = some ((), mS) := by rw [bd_e s1]
  have badS : ∀ r, r = t :: rs → RB G m d tt len B (some ((), mS)) Q.length r := fun r e => by
    rw [e]
    exact ⟨mS, _, _, rfl, (s3.oh (by simp)).H, s2⟩
  by_cases q : ¬ t.1 = 128
  · have hn : ¬ (hd (t :: rs) = 128 ∧ (mbs ms).length < 8) := fun z => q z.1
    rw [if_neg (fun z => q (d1.mp z)), stp, if_neg hn, if_neg hn, ite_self]
    exact ⟨fun ms1 K1 r z => by simp at z, fun r z => by cases z; exact badS _ rfl⟩
  have q : t.1 = 128 := Decidable.not_not.mp q
  rw [if_pos (d1.mpr q), if_pos rfl, nb_e (mr_10 hL), mz_10 hL, h48, ib_n (by omega) (by omega), cg, q4.1]
  by_cases q8 : ¬ (mbs ms).length < 8
  · have hn : ¬ (hd (t :: rs) = 128 ∧ (mbs ms).length < 8) := fun z => q8 z.2
    rw [if_pos (show nI (mbs (p, cs, ms).2.2).length = 8 by show nI (mbs ms).length = 8; rw [show (mbs ms).length = 8 by omega]; rfl), stp, if_neg hn, if_neg hn, ite_self]
    exact ⟨fun ms1 K1 r z => by simp at z, fun r z => by cases z; exact badS _ rfl⟩
  have q8 : (mbs ms).length < 8 := Decidable.not_not.mp q8
  have hy : hd (t :: rs) = 128 ∧ (mbs ms).length < 8 := ⟨q, q8⟩
  rw [if_neg (show ¬ nI (mbs (p, cs, ms).2.2).length = 8 from k_ne (a := (mbs ms).length) 8 8 rfl (by omega) (by omega) (by omega)), if_pos hy, if_pos hy]
  unfold B_X11_readMember_238
  have ek : (8 : Int32) * nI (8 * tt + Q.length) + nI (mbs (p, cs, ms).2.2).length = nI (8 * (8 * tt + Q.length) + (mbs ms).length) := by rw [show (8 : Int32) = nI 8 from rfl, pk_mul, nI_add]
  have ek6 : (6 : Int32) * nI (8 * tt + Q.length) + nI (fls (p, cs, ms).2.2).length = nI (6 * (8 * tt + Q.length) + (fls ms).length) := by rw [show (6 : Int32) = nI 6 from rfl, pk_mul, nI_add]
  have ck : (nI (8 * (8 * tt + Q.length) + (mbs ms).length)).toNatClampNeg = 8 * (8 * tt + Q.length) + (mbs ms).length := nI_clamp (by omega)
  rw [nb_e (mr_10 hL), mz_10 hL, h48, ib_n (by omega) (by omega), nb_e (mr_11 hL), mz_11 hL, ib_n (by omega) (by omega), if_pos rfl, cg, q4.1, q5.1, ek, ek6]
  simp only [ck, gR_sI]
  rw [nb_e (mr_18 hL), mz_18 hL, ib_n (by omega) (by omega), nb_e (mr_19 hL), mz_19 hL, ib_n (by omega) (by omega), nb_e (mr_20 hL), mz_20 hL, ib_n (by omega) (by omega), nb_e (mr_10 hL), mz_10 hL]
  have gg : ∀ (mz : MM) (o k j : Nat) (v : Int32), gI (sI mz (d + (o + 1)) k v) d j = gI mz d j := fun mz o k j v => gI_sI_ne (Or.inl (by omega))
  have g7 : ∀ (mz : MM) (o k j : Nat) (v : Int32), gI (sI mz (d + (o + 15)) k v) (d + 7) j = gI mz (d + 7) j := fun mz o k j v => gI_sI_ne (Or.inl (by omega))
  simp only [gg _ 14, gg _ 15, gg _ 16, h48, cg, g7 _ 0, g7 _ 1, g7 _ 2, q4.1, z2.1, z2.2.2.2.2 (Or.inl q), nI_1]
  rw [ib_n (by omega) (by omega), ib_n (by omega) (by omega)]
  obtain ⟨mA, eA⟩ : ∃ mA, sI (sI (sI (sI m (d + 15) (8 * (8 * tt + Q.length) + (mbs ms).length) (nI t.2.1)) (d + 16) (8 * (8 * tt + Q.length) + (mbs ms).length) (nI (nl B t.2.1))) (d + 17) (8 * (8 * tt + Q.length) + (mbs ms).length) (-1)) (d + 7) (8 * tt + Q.length) (nI ((mbs ms).length + 1)) = mA := ⟨_, rfl⟩
  rw [show (mbs (p, cs, ms).2.2).length = (mbs ms).length from rfl, eA]
  have hA : RE G mA d tt len B Q.length (aK K) [] (t :: rs) none := by
    rw [← eA]
    exact (((h.1.wr (by omega) (by omega)).wr (by omega) (by omega)).wr (by omega) (by omega)).wr (by omega) (by omega)
  have eoA : EO m mA d (8 * tt + Q.length) := by
    rw [← eA]
    exact (((EO.w (by omega)).tr (EO.w (by omega))).tr (EO.w (by omega))).tr (EO.w (by omega))
  have ohA : OH m mA d tt := by
    rw [← eA]
    exact (((OH.m (by omega) b3 q8).tr (OH.m (by omega) b3 q8)).tr (OH.m (by omega) b3 q8)).tr (OH.e (by omega) b3)
  have offA : ∀ i, i ≠ 15 → i ≠ 16 → i ≠ 17 → i ≠ 7 → mA.1 (d + i) = m.1 (d + i) := fun i i1 i2 i3 i4 => by
    rw [← eA, (sI_off (show d + i ≠ d + 7 by omega)).1, (sI_off (show d + i ≠ d + 17 by omega)).1, (sI_off (show d + i ≠ d + 16 by omega)).1, (sI_off (show d + i ≠ d + 15 by omega)).1]
  have vA : ∀ o j, 15 ≤ o → o ≤ 18 → j ≠ 8 * (8 * tt + Q.length) + (mbs ms).length → gI mA (d + o) j = gI m (d + o) j := fun o j o1 o2 hj => by
    rw [← eA]
    have : o ≠ 7 := by omega
    simp [gI_sI, hj, this]
  have xA15 : gI mA (d + 15) (8 * (8 * tt + Q.length) + (mbs ms).length) = nI t.2.1 := by rw [← eA]; simp [gI_sI]
  have xA16 : gI mA (d + 16) (8 * (8 * tt + Q.length) + (mbs ms).length) = nI (nl B t.2.1) := by rw [← eA]; simp [gI_sI]
  have xA17 : gI mA (d + 17) (8 * (8 * tt + Q.length) + (mbs ms).length) = -1 := by rw [← eA]; simp [gI_sI]
  have xA7 : gI mA (d + 7) (8 * tt + Q.length) = nI ((mbs ms).length + 1) := by rw [← eA, gI_sI_eq]
  unfold B_X11_readMember_361
  obtain ⟨mB, e1, e2, e3, e4⟩ := hA.next (show t.1 ≠ 130 by omega)
  have oeB : OE mA mB d tt := e3.oh (by simp)
  rw [bd_e e1, show (t :: rs).tail = rs from rfl, show plc (t :: rs) = t.2.1 from rfl]
  have htl : (t :: rs).tail = rs := rfl
  rw [htl] at e2 e4
  by_cases k21 : tk = 21
  · rw [if_pos (show nI tk = 21 by rw [k21]; rfl), if_pos k21]
    obtain ⟨n1, n2⟩ := mfin (m := m) e2
    by_cases q59 : hd rs = 59
    · obtain ⟨mC, f1, f2, f3, f5⟩ := n1 q59
      rw [f1, if_pos q59]
      refine ⟨fun ms1 K1 r z => ?_, fun r z => by simp at z⟩
      cases z
      have oe := oeB.tr f3
      refine ⟨mC, rfl, ohA.tr oe.H, h.setK (X := []) (by simp) (by simp) f2 (eoA.tr oe.eo) (fun i i1 i2 => by rw [oe.2.2.1 (d + i) (by omega), offA i (by omega) (by omega) (by omega) (by omega)]) ?_ ⟨b1, b2.mem ⟨by simp, by simp, c2, by simp, by simp⟩ (fun _ => q8) (fun z => by simp at z)⟩ (by simp; omega) (by have := h.2.2.2.2.2; simp only [List.length_cons] at this; omega)⟩
      have g : ∀ o j, (3 ≤ o ∧ o ≤ 29) ∨ o = 38 → gI mC (d + o) j = gI mA (d + o) j := fun o j ho => oe.arr (by omega) (by omega) j
      have gA : ∀ o j, o ≠ 15 → o ≠ 16 → o ≠ 17 → o ≠ 7 → gI mA (d + o) j = gI m (d + o) j := fun o j i1 i2 i3 i4 => congrFun (offA o i1 i2 i3 i4) j
      have ea : ∀ os : List Nat, (∀ o ∈ os, (3 ≤ o ∧ o ≤ 29 ∨ o = 38) ∧ o ≠ 15 ∧ o ≠ 16 ∧ o ≠ 17 ∧ o ≠ 7) → EQA m mC d os := fun os hos o ho => by
        obtain ⟨x0, x1, x2, x3, x4⟩ := hos o ho
        rw [oe.2.2.1 (d + o) (by omega), offA o x1 x2 x3 x4]
      refine ⟨by rw [g _ _ (by omega), gA _ _ (by omega) (by omega) (by omega) (by omega)]; exact q1, by rw [g _ _ (by omega), gA _ _ (by omega) (by omega) (by omega) (by omega)]; exact q2, q3.eq (ea _ (by simp)), ?_, ?_, ?_⟩
      · have := QM.set (X := []) (q := (5, t.2.1, 0, 0)) (m1 := mC) q4 (by rw [g _ _ (by omega)]; exact xA7) (Or.inl rfl) (fun o j o1 o2 hj => by rw [g _ _ (by omega)]; exact vA o j o1 o2 hj) (by rw [g _ _ (by omega)]; exact xA15) (by rw [g _ _ (by omega)]; exact xA16) (fun _ => by rw [g _ _ (by omega)]; exact xA17) (fun z => by simp at z)
        simpa using this
      · have := q5.eq (ea _ (by simp))
        exact ⟨by rw [fls_out (by simp)]; exact this.1, fun i x hx => this.2 i x (by rw [fls_out (by simp)] at hx; exact hx)⟩
      · have := q6.eq (ea _ (by simp))
        rw [mks_out (by simp)]
        exact this
    · obtain ⟨mC, f1, f2, f3⟩ := n2 q59
      rw [f1, if_neg q59]
      refine ⟨fun ms1 K1 r z => by simp at z, fun r z => ?_⟩
      cases z
      exact ⟨mC, _, _, rfl, (ohA.tr oeB.H).tr f3.H, f2⟩
  · have k22 : tk = 22 := by omega
    rw [if_neg (show ¬ nI tk = 21 by rw [k22]; decide), if_neg k21]
    obtain ⟨mC, mD, f1, f2, f3, f4, f5, f6, f7, f8⟩ := mx_eq (c := 0) e2
    rw [show (61 : Int32) = nI 61 from rfl, bd_e f1, nb_e (mr_33 f5), mz_33 f5, f6, ib_n (by omega) (by omega), if_neg (show ¬ nI tk = 24 by rw [k22]; decide), bd_e f2, if_pos rfl, nI_clamp (show tt < 2 ^ 31 by omega), f7]
    have oe := (oeB.tr f3).tr f4
    rcases f8 with ⟨p61, pb, pr, po, pl⟩ | ⟨A1, l1, r, pr, pe⟩
    · -- an exp
      have hM := pr.1
      have h4 := pr.2.1.1
      have w1 := pr.wr (o := 17) (k := 8 * (8 * tt + Q.length) + (mbs ms).length) (v := nI (aK K).length) (by omega) (by omega)
      rw [nb_e (mr_20 hM), mz_20 hM, ib_n (by omega) (by omega)]
      simp only [gR_sI, ck]
      rw [nb_e (mr_21 hM), mz_21 hM, nb_e (mr_33 hM), mz_33 hM, gI_sI_ne (Or.inl (by omega)), h4, ib_n (by omega) (by omega), ib_n (by omega) (by omega), nI_clamp (show tt < 2 ^ 31 by omega), gI_sI_ne (Or.inl (by omega)), pr.2.2.2.2.1.1]
      have w2 := w1.wr (o := 18) (k := 8 * (8 * tt + Q.length) + (mbs ms).length) (v := nI (aK K ++ (pX rs.tail).2.1.map (kox Q.length 0 0)).length) (by omega) (by omega)
      obtain ⟨mE, eE⟩ : ∃ mE, sI (sI mD (d + 17) (8 * (8 * tt + Q.length) + (mbs ms).length) (nI (aK K).length)) (d + 18) (8 * (8 * tt + Q.length) + (mbs ms).length) (nI (aK K ++ (pX rs.tail).2.1.map (kox Q.length 0 0)).length) = mE := ⟨_, rfl⟩
      rw [eE] at w2 ⊢
      have ohE : OH mD mE d tt := by rw [← eE]; exact (OH.m (by omega) b3 q8).tr (OH.m (by omega) b3 q8)
      have eoE : EO mD mE d (8 * tt + Q.length) := by rw [← eE]; exact (EO.w (by omega)).tr (EO.w (by omega))
      obtain ⟨n1, n2⟩ := mfin (m := m) w2
      unfold pEx
      rw [if_pos p61, pb, if_pos rfl]
      by_cases q59 : hd (pX rs.tail).2.2 = 59
      · obtain ⟨mF, i1, i2, i3, i5⟩ := n1 q59
        rw [i1, if_pos q59]
        refine ⟨fun ms1 K1 r z => ?_, fun r z => by simp at z⟩
        cases z
        have eK : K ++ (pX rs.tail).2.1.map (kox Q.length 0 0) ++ [stK Q.length 0 0] = K ++ ((pX rs.tail).2.1.map (kox Q.length 0 0) ++ [stK Q.length 0 0]) := by simp
        have g : ∀ o j, (3 ≤ o ∧ o ≤ 29) ∨ o = 38 → o ≠ 17 → o ≠ 18 → gI mF (d + o) j = gI mA (d + o) j := fun o j ho h17 h18 => by
          rw [i3.arr (by omega) (by omega), ← eE, gI_sI_ne (Or.inl (by omega)), gI_sI_ne (Or.inl (by omega)), oe.arr (by omega) (by omega)]
        have off : ∀ i, (3 ≤ i ∧ i ≤ 29) ∨ i = 38 → i ≠ 15 → i ≠ 16 → i ≠ 17 → i ≠ 18 → i ≠ 7 → mF.1 (d + i) = m.1 (d + i) := fun i i0 i1' i2' i3' i5' i4' => by
          rw [i3.2.2.1 (d + i) (by omega), ← eE, (sI_off (show d + i ≠ d + 18 by omega)).1, (sI_off (show d + i ≠ d + 17 by omega)).1, oe.2.2.1 (d + i) (by omega), offA i i1' i2' i3' i4']
        have v17 : ∀ j, gI mF (d + 17) j = if j = 8 * (8 * tt + Q.length) + (mbs ms).length then nI (aK K).length else gI mA (d + 17) j := fun j => by
          rw [i3.arr (by omega) (by omega), ← eE, gI_sI_ne (Or.inl (by omega)), gI_sI]
          simp only [true_and]
          rw [oe.arr (by omega) (by omega)]
        have v18 : ∀ j, gI mF (d + 18) j = if j = 8 * (8 * tt + Q.length) + (mbs ms).length then nI (aK K ++ (pX rs.tail).2.1.map (kox Q.length 0 0)).length else gI mA (d + 18) j := fun j => by
          rw [i3.arr (by omega) (by omega), ← eE, gI_sI]
          simp only [true_and]
          rw [gI_sI_ne (Or.inl (by omega)), oe.arr (by omega) (by omega)]
        have hKl : K.length ≤ 2000 := by have := h.2.2.2.2.2; simp only [List.length_cons] at this; omega
        have hcnt := pX_cnt rs.tail
        have h62 := h.2.2.2.2.2
        have hrl : rs.tail.length + 1 = rs.length := by cases rs with | nil => simp [hd] at p61 | cons a b => simp
        refine ⟨mF, rfl, ((ohA.tr oe.H).tr ohE).tr i3.H, h.setK eK (ex_no14 po) (by rw [aK_ex po]; exact i2) (((eoA.tr oe.eo).tr eoE).tr i3.eo) (fun i i1' i2' => off i (by omega) (by omega) (by omega) (by omega) (by omega) (by omega)) ?_ ⟨b1, b2.mem ⟨by simp, by simp, c2, by simp, hKl⟩ (fun _ => q8) (fun z => by simp at z)⟩ (by simp; omega) (by simp only [List.length_append, List.length_map, List.length_singleton, List.length_cons, List.length_nil] at h62 ⊢; omega)⟩
        have ea : ∀ os : List Nat, (∀ o ∈ os, (3 ≤ o ∧ o ≤ 29 ∨ o = 38) ∧ o ≠ 15 ∧ o ≠ 16 ∧ o ≠ 17 ∧ o ≠ 18 ∧ o ≠ 7) → EQA m mF d os := fun os hos o ho => by
          obtain ⟨x0, x1, x2, x3, x4, x5⟩ := hos o ho
          exact off o x0 x1 x2 x3 x4 x5
        refine ⟨by rw [show gI mF (d + 4) _ = gI m (d + 4) _ from congrFun (off 4 (by omega) (by omega) (by omega) (by omega) (by omega) (by omega)) _]; exact q1, by rw [show gI mF (d + 5) _ = gI m (d + 5) _ from congrFun (off 5 (by omega) (by omega) (by omega) (by omega) (by omega) (by omega)) _]; exact q2, q3.eq (ea _ (by simp)), ?_, ?_, ?_⟩
        · rw [eK]
          refine QM.set (q := (6, t.2.1, 0, K.length)) (m1 := mF) q4 (by rw [g _ _ (by omega) (by omega) (by omega)]; exact xA7) (Or.inr rfl) (fun o j o1 o2 hj => ?_) (by rw [g _ _ (by omega) (by omega) (by omega)]; exact xA15) (by rw [g _ _ (by omega) (by omega) (by omega)]; exact xA16) (fun z => by simp at z) (fun _ => ⟨_, by rw [← eK]; exact SG_ex po, by rw [v17, if_pos rfl, ct_len], by rw [v18, if_pos rfl, ct_len, List.length_append, List.length_map]⟩)
          by_cases h17 : o = 17
          · subst h17
            rw [v17, if_neg hj]
            exact vA 17 j o1 o2 hj
          · by_cases h18 : o = 18
            · subst h18
              rw [v18, if_neg hj]
              exact vA 18 j o1 o2 hj
            · rw [g _ _ (by omega) h17 h18]
              exact vA o j o1 o2 hj
        · have := (q5.eq (ea _ (by simp))).app (X := (pX rs.tail).2.1.map (kox Q.length 0 0) ++ [stK Q.length 0 0])
          rw [eK]
          exact ⟨by rw [fls_out (by simp)]; exact this.1, fun i x hx => this.2 i x (by rw [fls_out (by simp)] at hx; exact hx)⟩
        · have := (q6.eq (ea _ (by simp))).app (X := (pX rs.tail).2.1.map (kox Q.length 0 0) ++ [stK Q.length 0 0])
          rw [mks_out (by simp), eK]
          exact this
      · obtain ⟨mF, i1, i2, i3⟩ := n2 q59
        rw [i1, if_neg q59]
        refine ⟨fun ms1 K1 r z => by simp at z, fun r z => ?_⟩
        cases z
        exact ⟨mF, _, _, rfl, ((ohA.tr oe.H).tr ohE).tr i3.H, i2⟩
    · have hM := pr.1
      have h4 := pr.2.1.1
      have w1 := pr.wr (o := 17) (k := 8 * (8 * tt + Q.length) + (mbs ms).length) (v := nI (aK K).length) (by omega) (by omega)
      rw [nb_e (mr_20 hM), mz_20 hM, ib_n (by omega) (by omega)]
      simp only [gR_sI, ck]
      rw [nb_e (mr_21 hM), mz_21 hM, nb_e (mr_33 hM), mz_33 hM, gI_sI_ne (Or.inl (by omega)), h4, ib_n (by omega) (by omega), ib_n (by omega) (by omega), nI_clamp (show tt < 2 ^ 31 by omega), gI_sI_ne (Or.inl (by omega)), pr.2.2.2.2.1.1]
      have w2 := w1.wr (o := 18) (k := 8 * (8 * tt + Q.length) + (mbs ms).length) (v := nI A1.length) (by omega) (by omega)
      rw [bd_e w2.needB, pe]
      refine ⟨fun ms1 K1 r z => by simp at z, fun r' z => ?_⟩
      cases z
      exact ⟨_, _, _, rfl, (ohA.tr oe.H).tr ((OH.m (by omega) b3 q8).tr (OH.m (by omega) b3 q8)), w2⟩
