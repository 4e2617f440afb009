/-! ===== L2: the reference reads fields ===== -/
theorem mb_fld {G : GG} {m : MM} {d tt len p tk : Nat} {B : Nat → Int32} {K : List Ko} {Q : List Enm} {cs : List Con} {ms : List Mem} {l0 l : List Tok} (h : RT G m d tt len B K Q (p, cs, ms) l) (el : l0.tail = l) (htk : tk = 23 ∨ tk = 24) : (∀ ms1 K1 r, (if tk = 23 then pFld Q.length ms K l0 else pCst ms K l0) = (some (ms1, K1), r) → RG G m d tt len B (B_X11_readMember_189 G d (nI tk) 1 m) K1 Q (p, cs, ms1) r) ∧ ∀ r, (if tk = 23 then pFld Q.length ms K l0 else pCst ms K l0) = (none, r) → RB G m d tt len B (B_X11_readMember_189 G d (nI tk) 1 m) Q.length r := by
  obtain ⟨b1, b2, b3, b4⟩ := h.eb
  have hm8 : (mbs ms).length ≤ 8 := b2.2.1
  have hf6 : (fls ms).length ≤ 6 := b2.2.2.1
  have hL := h.1.1
  obtain ⟨t, rs, e0, z2, c1, c2, c3, c4⟩ := h.1.tok
  subst e0
  obtain ⟨-, d1, -⟩ := tc_all t.1 c1
  obtain ⟨q1, q2, q3, q4, q5, q6⟩ := h.2.1.cur
  have h48 := h.1.2.2.2.2.2.2.2.1
  have cg : (nI (8 * tt + Q.length)).toNatClampNeg = 8 * tt + Q.length := nI_clamp (by omega)
  unfold B_X11_readMember_189 pFld pCst
  rw [z2.2.1, el]
  obtain ⟨mS, s1, s2, s3⟩ := h.1.stop
  have stp : (bd (M_X11_stop G d m) fun _ m_53 => some ((), m_53)) = some ((), mS) := by rw [bd_e s1]
  have badS : ∀ r, r = t :: rs → RB G m d tt len B (some ((), mS)) Q.length r := fun r e => by
    rw [e]
    exact ⟨mS, _, _, rfl, (s3.oh (by simp)).H, s2⟩
  by_cases q : ¬ t.1 = 128
  · have hn : ¬ (hd (t :: rs) = 128 ∧ (fls ms).length < 6) := fun z => q z.1
    rw [if_neg (fun z => q (d1.mp z)), stp, if_neg hn, if_neg hn, ite_self]
    exact ⟨fun ms1 K1 r z => by simp at z, fun r z => by cases z; exact badS _ rfl⟩
  have q : t.1 = 128 := Decidable.not_not.mp q
  rw [if_pos (d1.mpr q), if_neg (show ¬ (1 : Int32) = 0 by decide), nb_e (mr_11 hL), mz_11 hL, h48, ib_n (by omega) (by omega), cg, q5.1]
  by_cases q8 : ¬ (fls ms).length < 6
  · have hn : ¬ (hd (t :: rs) = 128 ∧ (fls ms).length < 6) := fun z => q8 z.2
    rw [if_pos (show nI (fls (p, cs, ms).2.2).length = 6 by show nI (fls ms).length = 6; rw [show (fls ms).length = 6 by omega]; rfl), stp, if_neg hn, if_neg hn, ite_self]
    exact ⟨fun ms1 K1 r z => by simp at z, fun r z => by cases z; exact badS _ rfl⟩
  have q8 : (fls ms).length < 6 := Decidable.not_not.mp q8
  have hy : hd (t :: rs) = 128 ∧ (fls ms).length < 6 := ⟨q, q8⟩
  rw [if_neg (show ¬ nI (fls (p, cs, ms).2.2).length = 6 from k_ne (a := (fls ms).length) 6 6 rfl (by omega) (by omega) (by omega)), if_pos hy, if_pos hy]
  unfold B_X11_readMember_238
  have ek : (8 : Int32) * nI (8 * tt + Q.length) + nI (mbs (p, cs, ms).2.2).length = nI (8 * (8 * tt + Q.length) + (mbs ms).length) := by rw [show (8 : Int32) = nI 8 from rfl, pk_mul, nI_add]
  have ek6 : (6 : Int32) * nI (8 * tt + Q.length) + nI (fls (p, cs, ms).2.2).length = nI (6 * (8 * tt + Q.length) + (fls ms).length) := by rw [show (6 : Int32) = nI 6 from rfl, pk_mul, nI_add]
  have ck : (nI (6 * (8 * tt + Q.length) + (fls ms).length)).toNatClampNeg = 6 * (8 * tt + Q.length) + (fls ms).length := nI_clamp (by omega)
  rw [nb_e (mr_10 hL), mz_10 hL, h48, ib_n (by omega) (by omega), nb_e (mr_11 hL), mz_11 hL, ib_n (by omega) (by omega), if_neg (show ¬ (1 : Int32) = 0 by decide), cg, q4.1, q5.1, ek, ek6]
  simp only [ck, gR_sI]
  rw [nb_e (mr_22 hL), mz_22 hL, ib_n (by omega) (by omega), nb_e (mr_23 hL), mz_23 hL, ib_n (by omega) (by omega), nb_e (mr_11 hL), mz_11 hL]
  have gg : ∀ (mz : MM) (o k j : Nat) (v : Int32), gI (sI mz (d + (o + 1)) k v) d j = gI mz d j := fun mz o k j v => gI_sI_ne (Or.inl (by omega))
  have g7 : ∀ (mz : MM) (o k j : Nat) (v : Int32), gI (sI mz (d + (o + 15)) k v) (d + 8) j = gI mz (d + 8) j := fun mz o k j v => gI_sI_ne (Or.inl (by omega))
  simp only [gg _ 18, gg _ 19, h48, cg, g7 _ 4, g7 _ 5, q5.1, z2.1, z2.2.2.2.2 (Or.inl q), nI_1]
  rw [ib_n (by omega) (by omega), ib_n (by omega) (by omega)]
  obtain ⟨X, eX⟩ : ∃ X, X = 6 * (8 * tt + Q.length) + (fls ms).length := ⟨_, rfl⟩
  have hX1 : 6 * (8 * tt + Q.length) ≤ X ∧ X < 6 * (8 * tt + Q.length) + 6 := by omega
  have hX2 : X < 96 := by omega
  rw [← eX] at ck ⊢
  obtain ⟨mA, eA⟩ : ∃ mA, sI (sI (sI m (d + 19) X (nI t.2.1)) (d + 20) X (nI (nl B t.2.1))) (d + 8) (8 * tt + Q.length) (nI ((fls ms).length + 1)) = mA := ⟨_, rfl⟩
  rw [show (fls (p, cs, ms).2.2).length = (fls ms).length from rfl, eA]
  have hA : RE G mA d tt len B Q.length (aK K) [] (t :: rs) none := by
    rw [← eA]
    exact ((h.1.wr (by omega) (by omega)).wr (by omega) (by omega)).wr (by omega) (by omega)
  have eoA : EO m mA d (8 * tt + Q.length) := by
    rw [← eA]
    exact ((EO.w (by omega)).tr (EO.w (by omega))).tr (EO.w (by omega))
  have ohX : ∀ (mz : MM) (o : Nat) (v : Int32), 19 ≤ o → o ≤ 23 → OH mz (sI mz (d + o) X v) d tt := fun mz o v o1 o2 => by rw [eX]; exact OH.fl ⟨o1, o2⟩ b3 q8
  have ohA : OH m mA d tt := by
    rw [← eA]
    exact ((ohX _ 19 _ (by omega) (by omega)).tr (ohX _ 20 _ (by omega) (by omega))).tr (OH.e (by omega) b3)
  have offA : ∀ i, i ≠ 19 → i ≠ 20 → i ≠ 8 → mA.1 (d + i) = m.1 (d + i) := fun i i1 i2 i4 => by
    rw [← eA, (sI_off (show d + i ≠ d + 8 by omega)).1, (sI_off (show d + i ≠ d + 20 by omega)).1, (sI_off (show d + i ≠ d + 19 by omega)).1]
  have vA : ∀ o j, 19 ≤ o → o ≤ 23 → j ≠ X → gI mA (d + o) j = gI m (d + o) j := fun o j o1 o2 hj => by
    rw [← eA]
    have : o ≠ 8 := by omega
    simp [gI_sI, hj, this]
  have xA19 : gI mA (d + 19) X = nI t.2.1 := by rw [← eA]; simp [gI_sI]
  have xA20 : gI mA (d + 20) X = nI (nl B t.2.1) := by rw [← eA]; simp [gI_sI]
  have xA8 : gI mA (d + 8) (8 * tt + Q.length) = nI ((fls ms).length + 1) := by rw [← eA, gI_sI_eq]
  unfold B_X11_readMember_361
  obtain ⟨mB, e1, e2, e3, e4⟩ := hA.next (show t.1 ≠ 130 by omega)
  have oeB : OE mA mB d tt := e3.oh (by simp)
  rw [bd_e e1, show (t :: rs).tail = rs from rfl, show plc (t :: rs) = t.2.1 from rfl]
  have htl : (t :: rs).tail = rs := rfl
  rw [htl] at e2 e4
  rw [if_neg (show ¬ nI tk = 21 by rcases htk with z | z <;> rw [z] <;> decide), show (61 : Int32) = nI 61 from rfl]
  have h62 := h.2.2.2.2.2
  rw [List.length_cons] at h62
  -- the whole from the arrays' numbers
  have fin : ∀ (mF : MM) (Y : List Ko) (qq : Mem) (l1 : List Tok), (qq.1 = 7 ∨ qq.1 = 8) → qq.2.1 = t.2.1 → qq.2.2.1 < 1000000000 → qq.2.2.2 ≤ 2000 → (∀ z ∈ Y, z.1.1 ≠ 14) → RE G mF d tt len B Q.length (aK (K ++ Y)) [] l1 none → EO mA mF d (8 * tt + Q.length) → (∀ i, (3 ≤ i ∧ i ≤ 29) ∨ i = 38 → i ≠ 21 → i ≠ 22 → i ≠ 23 → mF.1 (d + i) = mA.1 (d + i)) → (∀ o j, 21 ≤ o → o ≤ 23 → j ≠ X → gI mF (d + o) j = gI mA (d + o) j) → (qq.1 = 8 → gI mF (d + 22) X = -1 ∧ gI mF (d + 21) X = nI qq.2.2.1) → (qq.1 = 7 → ∃ s, SG (K ++ Y) qq.2.2.2 s ∧ gI mF (d + 22) X = nI (ct (K ++ Y) qq.2.2.2) ∧ gI mF (d + 23) X = nI (ct (K ++ Y) qq.2.2.2 + s.length)) → l1.length ≤ rs.length → (K ++ Y).length + l1.length ≤ 2001 → RT G mF d tt len B (K ++ Y) Q (p, cs, ms ++ [qq]) l1 := by
    intro mF Y qq l1 hq0 hq1 hq2 hq3 hY hre heo hoff hv h8 h7 hl hKl
    have off : ∀ i, (3 ≤ i ∧ i ≤ 29) ∨ i = 38 → i ≠ 8 → i ≠ 19 → i ≠ 20 → i ≠ 21 → i ≠ 22 → i ≠ 23 → mF.1 (d + i) = m.1 (d + i) := fun i i0 i8 i19 i20 i21 i22 i23 => by rw [hoff i i0 i21 i22 i23, offA i i19 i20 i8]
    have ea : ∀ os : List Nat, (∀ o ∈ os, ((3 ≤ o ∧ o ≤ 29) ∨ o = 38) ∧ o ≠ 8 ∧ o ≠ 19 ∧ o ≠ 20 ∧ o ≠ 21 ∧ o ≠ 22 ∧ o ≠ 23) → EQA m mF d os := fun os hos o ho => by
      obtain ⟨x0, x1, x2, x3, x4, x5, x6⟩ := hos o ho
      exact off o x0 x1 x2 x3 x4 x5 x6
    have n56 : qq.1 ≠ 5 ∧ qq.1 ≠ 6 := by omega
    have n9 : qq.1 ≠ 9 := by omega
    refine h.setK rfl hY hre (eoA.tr heo) (fun i i1 i2 => off i (by omega) (by omega) (by omega) (by omega) (by omega) (by omega) (by omega)) ⟨by rw [show gI mF (d + 4) _ = gI m (d + 4) _ from congrFun (off 4 (by omega) (by omega) (by omega) (by omega) (by omega) (by omega) (by omega)) _]; exact q1, by rw [show gI mF (d + 5) _ = gI m (d + 5) _ from congrFun (off 5 (by omega) (by omega) (by omega) (by omega) (by omega) (by omega) (by omega)) _]; exact q2, q3.eq (ea _ (by simp)), ?_, ?_, ?_⟩ ⟨b1, b2.mem ⟨by omega, by omega, by rw [hq1]; exact c2, hq2, hq3⟩ (fun z => by omega) (fun _ => q8)⟩ (by simp; omega) hKl
    · have := (q4.eq (ea _ (by simp))).app (X := Y)
      exact ⟨by rw [mbs_out n56]; exact this.1, fun i x hx => this.2 i x (by rw [mbs_out n56] at hx; exact hx)⟩
    · have g19 : ∀ o j, o = 19 ∨ o = 20 ∨ o = 8 → gI mF (d + o) j = gI mA (d + o) j := fun o j ho => congrFun (hoff o (by omega) (by omega) (by omega) (by omega)) j
      refine QF.set (q := qq) (m1 := mF) q5 (by rw [g19 _ _ (by omega)]; exact xA8) hq0 (fun o j o1 o2 hj => ?_) (by rw [← eX, g19 _ _ (by omega), hq1]; exact xA19) (by rw [← eX, g19 _ _ (by omega), hq1]; exact xA20) (fun z => by rw [← eX]; exact h8 z) (fun z => by rw [← eX]; exact h7 z)
      rw [← eX] at hj
      by_cases ho : o = 19 ∨ o = 20
      · rw [g19 _ _ (by omega)]
        exact vA o j o1 o2 hj
      · rw [hv o j (by omega) o2 hj]
        exact vA o j o1 o2 hj
    · have := (q6.eq (ea _ (by simp))).app (X := Y)
      rw [mks_out n9]
      exact this
  by_cases k23 : tk = 23
  · rw [if_pos k23]
    obtain ⟨mC, mD, f1, f2, f3, f4, f5, f6, f7, f8⟩ := mx_eq (c := 0) e2
    rw [bd_e f1, nb_e (mr_33 f5), mz_33 f5, f6, ib_n (by omega) (by omega), if_neg (show ¬ nI tk = 24 by rw [k23]; decide), bd_e f2, if_neg (show ¬ (1 : Int32) = 0 by decide), nI_clamp (show tt < 2 ^ 31 by omega), f7]
    have oe := (oeB.tr f3).tr f4
    rcases f8 with ⟨p61, pb, pr, po, pl⟩ | ⟨A1, l1, r, pr, pe⟩
    · have hM := pr.1
      have h4 := pr.2.1.1
      have w1 := pr.wr (o := 22) (k := X) (v := nI (aK K).length) (by omega) (by omega)
      rw [nb_e (mr_25 hM), mz_25 hM, ib_n (by omega) (by omega)]
      simp only [gR_sI, ck]
      rw [nb_e (mr_26 hM), mz_26 hM, nb_e (mr_33 hM), mz_33 hM, gI_sI_ne (Or.inl (by omega)), h4, ib_n (by omega) (by omega), ib_n (by omega) (by omega), nI_clamp (show tt < 2 ^ 31 by omega), gI_sI_ne (Or.inl (by omega)), pr.2.2.2.2.1.1]
      have w2 := w1.wr (o := 23) (k := X) (v := nI (aK K ++ (pX rs.tail).2.1.map (kox Q.length 0 0)).length) (by omega) (by omega)
      obtain ⟨mE, eE⟩ : ∃ mE, sI (sI mD (d + 22) X (nI (aK K).length)) (d + 23) X (nI (aK K ++ (pX rs.tail).2.1.map (kox Q.length 0 0)).length) = mE := ⟨_, rfl⟩
      rw [eE] at w2 ⊢
      have ohE : OH mD mE d tt := by rw [← eE]; exact (ohX _ 22 _ (by omega) (by omega)).tr (ohX _ 23 _ (by omega) (by omega))
      have eoE : EO mD mE d (8 * tt + Q.length) := by rw [← eE]; exact (EO.w (by omega)).tr (EO.w (by omega))
      have hcnt := pX_cnt rs.tail
      have hrt : rs.tail.length ≤ rs.length := by simp
      obtain ⟨mW, g1, g2, g3⟩ := mm_where2 (pX rs.tail).2.1 FU mE (aK K) w2 (by unfold FU; omega)
      rw [g1]
      obtain ⟨n1, n2⟩ := mfin (m := m) g2
      unfold pEx
      rw [if_pos p61, pb, if_pos rfl]
      by_cases q59 : hd (pX rs.tail).2.2 = 59
      · obtain ⟨mF, i1, i2, i3, i5⟩ := n1 q59
        rw [i1, if_pos q59]
        refine ⟨fun ms1 K1 r z => ?_, fun r z => by simp at z⟩
        cases z
        have oeF := g3.tr i3
        have eK : K ++ (pX rs.tail).2.1.map (kox Q.length 1 0) ++ [stK Q.length 1 0] = K ++ ((pX rs.tail).2.1.map (kox Q.length 1 0) ++ [stK Q.length 1 0]) := by simp
        have hrl : rs.tail.length + 1 = rs.length := by cases rs with | nil => simp [hd] at p61 | cons a b => simp
        refine ⟨mF, rfl, ((ohA.tr oe.H).tr ohE).tr oeF.H, ?_⟩
        rw [eK]
        refine fin mF _ (7, t.2.1, 0, K.length) _ (Or.inl rfl) rfl (by simp) (by show K.length ≤ 2000; omega) (ex_no14 po) (by rw [← eK, aK_ex po]; exact i2) ((oe.eo.tr eoE).tr oeF.eo) (fun i i0 x1 x2 x3 => ?_) (fun o j o1 o2 hj => ?_) (fun z => by simp at z) (fun _ => ⟨_, by rw [← eK]; exact SG_ex po, ?_, ?_⟩) (by simp; omega) (by simp only [List.length_append, List.length_map, List.length_singleton]; omega)
        · rw [oeF.2.2.1 (d + i) (by omega), ← eE, (sI_off (show d + i ≠ d + 23 by omega)).1, (sI_off (show d + i ≠ d + 22 by omega)).1, oe.2.2.1 (d + i) (by omega)]
        · rw [oeF.arr (by omega) (by omega), ← eE, gI_sI_ne (Or.inr hj), gI_sI_ne (Or.inr hj), oe.arr (by omega) (by omega)]
        · rw [oeF.arr (by omega) (by omega), ← eE, gI_sI_ne (Or.inl (by omega)), gI_sI_eq, ct_len]
        · rw [oeF.arr (by omega) (by omega), ← eE, gI_sI_eq, ct_len, List.length_append, List.length_map, List.length_map]
      · obtain ⟨mF, i1, i2, i3⟩ := n2 q59
        rw [i1, if_neg q59]
        refine ⟨fun ms1 K1 r z => by simp at z, fun r z => ?_⟩
        cases z
        exact ⟨mF, _, _, rfl, (((ohA.tr oe.H).tr ohE).tr g3.H).tr i3.H, i2⟩
    · have hM := pr.1
      have h4 := pr.2.1.1
      have hbd := pr.2.2.2.2.2.2.2.2.2.1
      have w1 := pr.wr (o := 22) (k := X) (v := nI (aK K).length) (by omega) (by omega)
      rw [nb_e (mr_25 hM), mz_25 hM, ib_n (by omega) (by omega)]
      simp only [gR_sI, ck]
      rw [nb_e (mr_26 hM), mz_26 hM, nb_e (mr_33 hM), mz_33 hM, gI_sI_ne (Or.inl (by omega)), h4, ib_n (by omega) (by omega), ib_n (by omega) (by omega), nI_clamp (show tt < 2 ^ 31 by omega), gI_sI_ne (Or.inl (by omega)), pr.2.2.2.2.1.1]
      have w2 := w1.wr (o := 23) (k := X) (v := nI A1.length) (by omega) (by omega)
      have hAb := e2.2.2.2.2.2.2.2.2.2.1
      obtain ⟨mW, g1, g2, g3⟩ := mm_where2B FU (aK K).length _ w2 (by unfold FU; omega) (by omega)
      rw [g1, pe]
      refine ⟨fun ms1 K1 r z => by simp at z, fun r' z => ?_⟩
      cases z
      exact ⟨_, _, _, rfl, ((ohA.tr oe.H).tr ((ohX _ 22 _ (by omega) (by omega)).tr (ohX _ 23 _ (by omega) (by omega)))).tr g3.H, g2⟩
  · have k24 : tk = 24 := by omega
    rw [if_neg k23]
    obtain ⟨n1, n2⟩ := e2.need (w := 61) (by omega)
    by_cases q61 : ¬ hd rs = 61
    · obtain ⟨mC, f1, f2, f3⟩ := n2 q61
      rw [bd_e f1, nb_e (mr_33 f2.1), mz_33 f2.1, f2.2.1.1, ib_n (by omega) (by omega), if_pos (show nI tk = 24 by rw [k24]; rfl), bd_e f2.gF, if_neg ff, bd_e f2.stop2, if_neg q61]
      refine ⟨fun ms1 K1 r z => by simp at z, fun r' z => ?_⟩
      cases z
      exact ⟨mC, _, _, rfl, (ohA.tr oeB.H).tr f3.H, f2⟩
    have q61 : hd rs = 61 := Decidable.not_not.mp q61
    obtain ⟨mC, f1, f2, f3, f4, f5⟩ := n1 q61
    obtain ⟨t', rs', el', y2, y3, y4, y5, y6⟩ := f2.tok
    obtain ⟨-, -, x2, -⟩ := tc_all t'.1 y3
    have oe := oeB.tr f3
    rw [bd_e f1, nb_e (mr_33 f2.1), mz_33 f2.1, f2.2.1.1, ib_n (by omega) (by omega), if_pos (show nI tk = 24 by rw [k24]; rfl), bd_e f2.gT, if_pos rfl, if_pos q61, y2.2.1, el']
    by_cases q129 : ¬ t'.1 = 129
    · rw [if_neg (fun z => q129 (x2.mp z)), if_neg (show ¬ hd (t' :: rs') = 129 from q129)]
      obtain ⟨mD, g1, g2, g3⟩ := f2.stop
      rw [bd_e g1]
      refine ⟨fun q K1 r z => by simp at z, fun r z => ?_⟩
      cases z
      rw [el'] at g2
      exact ⟨mD, _, _, rfl, (ohA.tr oe.H).tr (g3.oh (by simp)).H, g2⟩
    have q129 : t'.1 = 129 := Decidable.not_not.mp q129
    rw [if_pos (x2.mpr q129), if_pos (show hd (t' :: rs') = 129 from q129), nb_e (mr_25 f2.1), mz_25 f2.1, ib_n (by omega) (by omega)]
    simp only [gR_sI, ck]
    rw [nb_e (mr_24 f2.1), mz_24 f2.1, ib_n (by omega) (by omega), gI_sI_ne (Or.inl (by omega)), y2.2.2.2.1 q129]
    have w2 := (f2.wr (o := 22) (k := X) (v := -1) (by omega) (by omega)).wr (o := 21) (k := X) (v := nI t'.2.2) (by omega) (by omega)
    obtain ⟨mE, eE⟩ : ∃ mE, sI (sI mC (d + 22) X (-1)) (d + 21) X (nI t'.2.2) = mE := ⟨_, rfl⟩
    rw [eE] at w2 ⊢
    have ohE : OH mC mE d tt := by rw [← eE]; exact (ohX _ 22 _ (by omega) (by omega)).tr (ohX _ 21 _ (by omega) (by omega))
    have eoE : EO mC mE d (8 * tt + Q.length) := by rw [← eE]; exact (EO.w (by omega)).tr (EO.w (by omega))
    rw [el'] at w2 f5
    obtain ⟨mG, g1, g2, g3, g4⟩ := w2.next (show t'.1 ≠ 130 by omega)
    have oeG : OE mE mG d tt := g3.oh (by simp)
    rw [bd_e g1, show (t' :: rs').tail = rs' from rfl, show nmb (t' :: rs') = t'.2.2 from rfl]
    have htl' : (t' :: rs').tail = rs' := rfl
    rw [htl'] at g2
    rw [List.length_cons] at f5
    obtain ⟨n1, n2⟩ := mfin (m := m) g2
    by_cases q59 : hd rs' = 59
    · obtain ⟨mF, i1, i2, i3, i5⟩ := n1 q59
      rw [i1, if_pos q59]
      refine ⟨fun ms1 K1 r z => ?_, fun r z => by simp at z⟩
      cases z
      have oeF := oeG.tr i3
      refine ⟨mF, rfl, ((ohA.tr oe.H).tr ohE).tr oeF.H, ?_⟩
      have := fin mF [] (8, t.2.1, t'.2.2, 0) rs'.tail (Or.inr rfl) rfl y5 (by simp) (by simp) (by simpa using i2) ((oe.eo.tr eoE).tr oeF.eo) (fun i i0 x1 x2 x3 => by
        rw [oeF.2.2.1 (d + i) (by omega), ← eE, (sI_off (show d + i ≠ d + 21 by omega)).1, (sI_off (show d + i ≠ d + 22 by omega)).1, oe.2.2.1 (d + i) (by omega)]) (fun o j o1 o2 hj => by
        rw [oeF.arr (by omega) (by omega), ← eE, gI_sI_ne (Or.inr hj), gI_sI_ne (Or.inr hj), oe.arr (by omega) (by omega)]) (fun _ => ⟨by rw [oeF.arr (by omega) (by omega), ← eE, gI_sI_ne (Or.inl (by omega)), gI_sI_eq], by rw [oeF.arr (by omega) (by omega), ← eE, gI_sI_eq]⟩) (fun z => by simp at z) (by simp; omega) (by rw [List.append_nil]; simp; omega)
      simpa using this
    · obtain ⟨mF, i1, i2, i3⟩ := n2 q59
      rw [i1, if_neg q59]
      refine ⟨fun ms1 K1 r z => by simp at z, fun r z => ?_⟩
      cases z
      exact ⟨mF, _, _, rfl, (((ohA.tr oe.H).tr ohE).tr oeG.H).tr i3.H, i2⟩
