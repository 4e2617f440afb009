/-! ===== L2: the class's parser: members ===== -/
theorem EB.mem {cs : List Con} {ms : List Mem} {q : Mem} (h : EB cs ms) (h1 : 5 ≤ q.1 ∧ q.1 ≤ 9 ∧ q.2.1 < 4096 ∧ q.2.2.1 < 1000000000 ∧ q.2.2.2 ≤ 2000) (h2 : q.1 = 5 ∨ q.1 = 6 → (mbs ms).length < 8) (h3 : q.1 = 7 ∨ q.1 = 8 → (fls ms).length < 6) : EB cs (ms ++ [q]) := by
  obtain ⟨a1, a2, a3, a4, a5⟩ := h
  refine ⟨a1, ?_, ?_, a4, fun z hz => ?_⟩
  · by_cases c : q.1 = 5 ∨ q.1 = 6
    · rw [mbs_in c, List.length_append]; exact h2 c
    · rw [mbs_out (by omega)]; exact a2
  · by_cases c : q.1 = 7 ∨ q.1 = 8
    · rw [fls_in c, List.length_append]; exact h3 c
    · rw [fls_out (by omega)]; exact a3
  · rw [List.mem_append, List.mem_singleton] at hz
    rcases hz with y | y
    · exact a5 z y
    · exact y ▸ h1
theorem mkD_out {ms : List Mem} {q : Mem} (h : q.1 ≠ 9) : mkD (ms ++ [q]) = mkD ms := by
  unfold mkD
  rw [mks_out h]
theorem cp_abs {G : GG} {m : MM} {n pg k p : Nat} {L : List Tok} {K : List Ko} {Q : List Enm} {cs : List Con} {ms : List Mem} (hN : PN n pg) (hE : EL L) (h : PS G m n pg L k K (Q ++ [(p, cs, ms)])) (ho : gR m (n + 204) 4 = some (pg + 4 + 12 * Q.length)) (hh : hd (L.drop k) ≠ 130) : (∀ ms1 K1 r, pAbs ms K (L.drop k) = (some (ms1, K1), r) → GD G n pg L (k + 1) m (M_X5_readAbstract G (n + 204) m) tt K1 (Q ++ [(p, cs, ms1)]) r) ∧ ∀ r, pAbs ms K (L.drop k) = (none, r) → BA G n pg L m (M_X5_readAbstract G (n + 204) m) fft r := by
  obtain ⟨t, ht, t3, t4, t5, b1, b2, b3, u1, u2, u3, u4⟩ := h.cur
  rw [u1] at hh
  unfold M_X5_readAbstract pAbs
  obtain ⟨m1, e1, e2, e3, e4⟩ := h.adv hN hE ht hh
  have ho1 : gR m1 (n + 204) 4 = some (pg + 4 + 12 * Q.length) := by show m1.2.2 _ _ = _; rw [e4]; exact ho
  obtain ⟨t', ht', t3', t4', t5', b1', b2', b3', u1', u2', u3', u4'⟩ := e2.cur
  obtain ⟨l1, l2, l3, l4⟩ := e2.last
  have o1 : OW m m1 n pg := e3.ow (by simp)
  rw [nb_e h.1.1, bd_e e1, nb_e e2.1.1, t3', u4, u1', u2', u4']
  by_cases q : ¬ t'.1 = 128
  · rw [if_neg (fun z => q z.1), if_neg (k_ne 128 128 rfl (by omega) (by omega) q)]
    refine ⟨fun ms1 K1 r z => by simp at z, fun r z => ?_⟩
    cases z
    exact ⟨m1, k + 1, rfl, e2.w, rfl, o1, e4⟩
  have q : t'.1 = 128 := Decidable.not_not.mp q
  rw [if_pos (show nI t'.1 = 128 by rw [q]; rfl), nb_e ho1, t4']
  by_cases hc : ¬ (mbs ms).length < 8
  · rw [bd_e (ec_fullMember l1 l2 hc), if_neg ff, if_neg (fun z => hc z.2)]
    refine ⟨fun ms1 K1 r z => by simp at z, fun r z => ?_⟩
    cases z
    exact ⟨m1, k + 1, rfl, e2.w, rfl, o1, e4⟩
  have hc : (mbs ms).length < 8 := Decidable.not_not.mp hc
  obtain ⟨m2, f1, f2, f3, f4⟩ := ec_addMember (p := t'.2.1) (tag := 5) (at' := 0) (v := -1) l3 l1 l2 hc (by omega) rfl
  obtain ⟨s1, s2⟩ := PS.enum hN e2 (show OR m1 m2 (pg + 4 + 12 * Q.length) (pg + 16 + 12 * Q.length) from fun a ha => f3 a (by omega)) f4 f2 (l2.mem ⟨by simp, by simp, b2', by simp, by simp⟩ (fun _ => hc) (fun z => by simp at z)) (mkD_out (by simp))
  rw [bd_e f1, if_pos rfl, if_pos ⟨q, hc⟩, nb_e s1.1.1]
  obtain ⟨m3, g1, g2, g3, g4⟩ := s1.adv hN hE ht' (by omega)
  have o3 : OW m m3 n pg := (o1.tr s2).tr (g3.ow (by simp))
  have r3 : m3.2.2 = m.2.2 := g4.trans (f4.trans e4)
  rw [bd_e g1, if_pos rfl, nb_e g2.1.1, show (59 : Int32) = nI 59 from rfl]
  obtain ⟨w1, w2⟩ := g2.take hN hE (w := 59) (by omega) (by omega)
  by_cases q3 : hd (L.drop (k + 1 + 1)) = 59
  · obtain ⟨m4, i1, i2, i3, i4, i5⟩ := w1 q3
    rw [bd_e i1, if_pos rfl, if_pos q3, i5]
    refine ⟨fun ms1 K1 r z => ?_, fun r z => by simp at z⟩
    cases z
    exact ⟨m4, k + 1 + 1 + 1, rfl, i2, rfl, o3.tr (i3.ow (by simp)), i4.trans r3, by omega⟩
  · rw [bd_e (w2 q3), if_neg ff, if_neg q3]
    refine ⟨fun ms1 K1 r z => by simp at z, fun r z => ?_⟩
    cases z
    exact ⟨m3, k + 1 + 1, rfl, g2.w, rfl, o3, r3⟩
theorem cp_def {G : GG} {m : MM} {n pg k p : Nat} {L : List Tok} {K : List Ko} {Q : List Enm} {cs : List Con} {ms : List Mem} (hN : PN n pg) (hE : EL L) (h : PS G m n pg L k K (Q ++ [(p, cs, ms)])) (ho : gR m (n + 204) 4 = some (pg + 4 + 12 * Q.length)) (hh : hd (L.drop k) ≠ 130) : (∀ ms1 K1 r, pDef Q.length ms K (L.drop k) = (some (ms1, K1), r) → GD G n pg L (k + 1) m (M_X5_readDef G (n + 204) m) tt K1 (Q ++ [(p, cs, ms1)]) r) ∧ ∀ r, pDef Q.length ms K (L.drop k) = (none, r) → BA G n pg L m (M_X5_readDef G (n + 204) m) fft r := by
  obtain ⟨t, ht, t3, t4, t5, b1, b2, b3, u1, u2, u3, u4⟩ := h.cur
  rw [u1] at hh
  unfold M_X5_readDef pDef
  obtain ⟨m1, e1, e2, e3, e4⟩ := h.adv hN hE ht hh
  have ho1 : gR m1 (n + 204) 4 = some (pg + 4 + 12 * Q.length) := by show m1.2.2 _ _ = _; rw [e4]; exact ho
  obtain ⟨t', ht', t3', t4', t5', b1', b2', b3', u1', u2', u3', u4'⟩ := e2.cur
  obtain ⟨l1, l2, l3, l4⟩ := e2.last
  have o1 : OW m m1 n pg := e3.ow (by simp)
  have hco : gI m1 pg 4 = nI K.length := by rw [e2.2.2.2.1.2.2.1, List.length_map]
  have hKl : K.length ≤ 2000 := by have := e2.2.2.2.1.2.2.2.1; rw [List.length_map] at this; exact this
  rw [nb_e h.1.1, bd_e e1, nb_e e2.1.1, t3', u4, u1', u2', u4']
  by_cases q : ¬ t'.1 = 128
  · rw [if_neg (fun z => q z.1), if_neg (k_ne 128 128 rfl (by omega) (by omega) q)]
    refine ⟨fun ms1 K1 r z => by simp at z, fun r z => ?_⟩
    cases z
    exact ⟨m1, k + 1, rfl, e2.w, rfl, o1, e4⟩
  have q : t'.1 = 128 := Decidable.not_not.mp q
  rw [if_pos (show nI t'.1 = 128 by rw [q]; rfl), nb_e ho1, nb_e e2.1.2.2.1, t4', hco]
  by_cases hc : ¬ (mbs ms).length < 8
  · rw [bd_e (ec_fullMember l1 l2 hc), if_neg ff, if_neg (fun z => hc z.2)]
    refine ⟨fun ms1 K1 r z => by simp at z, fun r z => ?_⟩
    cases z
    exact ⟨m1, k + 1, rfl, e2.w, rfl, o1, e4⟩
  have hc : (mbs ms).length < 8 := Decidable.not_not.mp hc
  obtain ⟨m2, f1, f2, f3, f4⟩ := ec_addMember (p := t'.2.1) (tag := 6) (at' := K.length) (v := nI K.length) l3 l1 l2 hc (by omega) rfl
  obtain ⟨s1, s2⟩ := PS.enum hN e2 (show OR m1 m2 (pg + 4 + 12 * Q.length) (pg + 16 + 12 * Q.length) from fun a ha => f3 a (by omega)) f4 f2 (l2.mem ⟨by simp, by simp, b2', by simp, hKl⟩ (fun _ => hc) (fun z => by simp at z)) (mkD_out (by simp))
  rw [bd_e f1, if_pos rfl, if_pos ⟨q, hc⟩, nb_e s1.1.1]
  obtain ⟨m3, g1, g2, g3, g4⟩ := s1.adv hN hE ht' (by omega)
  have o3 : OW m m3 n pg := (o1.tr s2).tr (g3.ow (by simp))
  have r3 : m3.2.2 = m.2.2 := g4.trans (f4.trans e4)
  rw [bd_e g1, if_pos rfl]
  obtain ⟨x1, x2⟩ := cp_ex (A := tt) (Bf := fft) (en := Q.length) (so := 0) (c := 0) hN hE (by omega) g2
  rw [nI_0] at x1 x2
  cases hp : pEx Q.length 0 0 K (L.drop (k + 1 + 1)) with
  | mk o r =>
    cases o with
    | none =>
      refine ⟨fun ms1 K1 r z => by simp at z, fun r' z => ?_⟩
      cases z
      obtain ⟨m4, k4, y1, y2, y3, y4, y5⟩ := x2 r hp
      exact ⟨m4, k4, y1, y2, y3, o3.tr y4, y5.trans r3⟩
    | some K1 =>
      refine ⟨fun ms1 K2 r' z => ?_, fun r' z => by simp at z⟩
      cases z
      obtain ⟨m4, k4, y1, y2, y3, y4, y5, y6⟩ := x1 K1 r hp
      exact ⟨m4, k4, y1, y2, y3, o3.tr y4, y5.trans r3, by omega⟩
theorem cp_fld {G : GG} {m : MM} {n pg k p : Nat} {L : List Tok} {K : List Ko} {Q : List Enm} {cs : List Con} {ms : List Mem} (hN : PN n pg) (hE : EL L) (h : PS G m n pg L k K (Q ++ [(p, cs, ms)])) (ho : gR m (n + 204) 4 = some (pg + 4 + 12 * Q.length)) (hh : hd (L.drop k) ≠ 130) : (∀ ms1 K1 r, pFld Q.length ms K (L.drop k) = (some (ms1, K1), r) → GD G n pg L (k + 1) m (M_X5_readField G (n + 204) m) tt K1 (Q ++ [(p, cs, ms1)]) r) ∧ ∀ r, pFld Q.length ms K (L.drop k) = (none, r) → BA G n pg L m (M_X5_readField G (n + 204) m) fft r := by
  obtain ⟨t, ht, t3, t4, t5, b1, b2, b3, u1, u2, u3, u4⟩ := h.cur
  rw [u1] at hh
  unfold M_X5_readField pFld
  obtain ⟨m1, e1, e2, e3, e4⟩ := h.adv hN hE ht hh
  have ho1 : gR m1 (n + 204) 4 = some (pg + 4 + 12 * Q.length) := by show m1.2.2 _ _ = _; rw [e4]; exact ho
  obtain ⟨t', ht', t3', t4', t5', b1', b2', b3', u1', u2', u3', u4'⟩ := e2.cur
  obtain ⟨l1, l2, l3, l4⟩ := e2.last
  have o1 : OW m m1 n pg := e3.ow (by simp)
  have hco : gI m1 pg 4 = nI K.length := by rw [e2.2.2.2.1.2.2.1, List.length_map]
  have hKl : K.length ≤ 2000 := by have := e2.2.2.2.1.2.2.2.1; rw [List.length_map] at this; exact this
  rw [nb_e h.1.1, bd_e e1, nb_e e2.1.1, t3', u4, u1', u2', u4']
  by_cases q : ¬ t'.1 = 128
  · rw [if_neg (fun z => q z.1), if_neg (k_ne 128 128 rfl (by omega) (by omega) q)]
    refine ⟨fun ms1 K1 r z => by simp at z, fun r z => ?_⟩
    cases z
    exact ⟨m1, k + 1, rfl, e2.w, rfl, o1, e4⟩
  have q : t'.1 = 128 := Decidable.not_not.mp q
  rw [if_pos (show nI t'.1 = 128 by rw [q]; rfl), nb_e ho1, nb_e e2.1.2.2.1, t4', hco]
  by_cases hc : ¬ (fls ms).length < 6
  · rw [bd_e (ec_fullField l1 l2 hc), if_neg ff, if_neg (fun z => hc z.2)]
    refine ⟨fun ms1 K1 r z => by simp at z, fun r z => ?_⟩
    cases z
    exact ⟨m1, k + 1, rfl, e2.w, rfl, o1, e4⟩
  have hc : (fls ms).length < 6 := Decidable.not_not.mp hc
  obtain ⟨m2, f1, f2, f3, f4⟩ := ec_addField (p := t'.2.1) (tag := 7) (at' := K.length) (v := nI K.length) l3 l1 l2 hc (by omega) hKl rfl
  obtain ⟨s1, s2⟩ := PS.enum hN e2 (show OR m1 m2 (pg + 4 + 12 * Q.length) (pg + 16 + 12 * Q.length) from fun a ha => f3 a (by omega)) f4 f2 (l2.mem ⟨by simp, by simp, b2', by simp, hKl⟩ (fun z => by simp at z) (fun _ => hc)) (mkD_out (by simp))
  rw [bd_e f1, if_pos rfl, if_pos ⟨q, hc⟩, nb_e s1.1.1]
  obtain ⟨m3, g1, g2, g3, g4⟩ := s1.adv hN hE ht' (by omega)
  have o3 : OW m m3 n pg := (o1.tr s2).tr (g3.ow (by simp))
  have r3 : m3.2.2 = m.2.2 := g4.trans (f4.trans e4)
  rw [bd_e g1, if_pos rfl]
  obtain ⟨x1, x2⟩ := cp_ex (A := tt) (Bf := fft) (en := Q.length) (so := 1) (c := 0) hN hE (by omega) g2
  cases hp : pEx Q.length 1 0 K (L.drop (k + 1 + 1)) with
  | mk o r =>
    cases o with
    | none =>
      refine ⟨fun ms1 K1 r z => by simp at z, fun r' z => ?_⟩
      cases z
      obtain ⟨m4, k4, y1, y2, y3, y4, y5⟩ := x2 r hp
      exact ⟨m4, k4, y1, y2, y3, o3.tr y4, y5.trans r3⟩
    | some K1 =>
      refine ⟨fun ms1 K2 r' z => ?_, fun r' z => by simp at z⟩
      cases z
      obtain ⟨m4, k4, y1, y2, y3, y4, y5, y6⟩ := x1 K1 r hp
      exact ⟨m4, k4, y1, y2, y3, o3.tr y4, y5.trans r3, by omega⟩
theorem cp_cst {G : GG} {m : MM} {n pg k p : Nat} {L : List Tok} {K : List Ko} {Q : List Enm} {cs : List Con} {ms : List Mem} (hN : PN n pg) (hE : EL L) (h : PS G m n pg L k K (Q ++ [(p, cs, ms)])) (ho : gR m (n + 204) 4 = some (pg + 4 + 12 * Q.length)) (hh : hd (L.drop k) ≠ 130) : (∀ ms1 K1 r, pCst ms K (L.drop k) = (some (ms1, K1), r) → GD G n pg L (k + 1) m (M_X5_readConst G (n + 204) m) tt K1 (Q ++ [(p, cs, ms1)]) r) ∧ ∀ r, pCst ms K (L.drop k) = (none, r) → BA G n pg L m (M_X5_readConst G (n + 204) m) fft r := by
  obtain ⟨t, ht, t3, t4, t5, b1, b2, b3, u1, u2, u3, u4⟩ := h.cur
  rw [u1] at hh
  unfold M_X5_readConst pCst
  obtain ⟨m1, e1, e2, e3, e4⟩ := h.adv hN hE ht hh
  have ho1 : gR m1 (n + 204) 4 = some (pg + 4 + 12 * Q.length) := by show m1.2.2 _ _ = _; rw [e4]; exact ho
  obtain ⟨t', ht', t3', t4', t5', b1', b2', b3', u1', u2', u3', u4'⟩ := e2.cur
  obtain ⟨l1, l2, l3, l4⟩ := e2.last
  have o1 : OW m m1 n pg := e3.ow (by simp)
  rw [nb_e h.1.1, bd_e e1, nb_e e2.1.1, t3', u4, u1', u2', u4']
  by_cases q : ¬ t'.1 = 128
  · rw [if_neg (fun z => q z.1), if_neg (k_ne 128 128 rfl (by omega) (by omega) q)]
    refine ⟨fun ms1 K1 r z => by simp at z, fun r z => ?_⟩
    cases z
    exact ⟨m1, k + 1, rfl, e2.w, rfl, o1, e4⟩
  have q : t'.1 = 128 := Decidable.not_not.mp q
  rw [if_pos (show nI t'.1 = 128 by rw [q]; rfl), nb_e ho1, t4']
  by_cases hc : ¬ (fls ms).length < 6
  · rw [bd_e (ec_fullField l1 l2 hc), if_neg ff, if_neg (fun z => hc z.2)]
    refine ⟨fun ms1 K1 r z => by simp at z, fun r z => ?_⟩
    cases z
    exact ⟨m1, k + 1, rfl, e2.w, rfl, o1, e4⟩
  have hc : (fls ms).length < 6 := Decidable.not_not.mp hc
  obtain ⟨m2, f1, f2, f3, f4⟩ := ec_addField (p := t'.2.1) (tag := 8) (at' := 0) (v := -1) l3 l1 l2 hc (by omega) (by omega) rfl
  obtain ⟨s1, s2⟩ := PS.enum hN e2 (show OR m1 m2 (pg + 4 + 12 * Q.length) (pg + 16 + 12 * Q.length) from fun a ha => f3 a (by omega)) f4 f2 (l2.mem ⟨by simp, by simp, b2', by simp, by simp⟩ (fun z => by simp at z) (fun _ => hc)) (mkD_out (by simp))
  rw [bd_e f1, if_pos rfl, if_pos ⟨q, hc⟩, nb_e s1.1.1]
  obtain ⟨m3, g1, g2, g3, g4⟩ := s1.adv hN hE ht' (by omega)
  have o3 : OW m m3 n pg := (o1.tr s2).tr (g3.ow (by simp))
  have r3 : m3.2.2 = m.2.2 := g4.trans (f4.trans e4)
  rw [bd_e g1, if_pos rfl, nb_e g2.1.1, show (61 : Int32) = nI 61 from rfl]
  obtain ⟨w1, w2⟩ := g2.take hN hE (w := 61) (by omega) (by omega)
  by_cases q3 : ¬ hd (L.drop (k + 1 + 1)) = 61
  · rw [bd_e (w2 q3), if_neg ff, if_neg q3]
    refine ⟨fun ms1 K1 r z => by simp at z, fun r z => ?_⟩
    cases z
    exact ⟨m3, k + 1 + 1, rfl, g2.w, rfl, o3, r3⟩
  have q3 : hd (L.drop (k + 1 + 1)) = 61 := Decidable.not_not.mp q3
  obtain ⟨m4, i1, i2, i3, i4, i5⟩ := w1 q3
  have r4 : m4.2.2 = m.2.2 := i4.trans r3
  have o4 : OW m m4 n pg := o3.tr (i3.ow (by simp))
  have ho4 : gR m4 (n + 204) 4 = some (pg + 4 + 12 * Q.length) := by show m4.2.2 _ _ = _; rw [r4]; exact ho
  obtain ⟨y1, y2, y3, y4⟩ := i2.last
  have i8 : ((8, t'.2.1, 0, 0) : Mem).1 = 7 ∨ ((8, t'.2.1, 0, 0) : Mem).1 = 8 := by simp
  have h14 : gI m4 (pg + 4 + 12 * Q.length) 14 = nI ((fls ms).length + 1) := by rw [y1.2.2.2.1, fls_in i8, List.length_append]; rfl
  have rr8 := y3 8 (by omega)
  rw [show pg + 4 + 12 * Q.length + 1 + 8 = pg + 4 + 12 * Q.length + 9 by omega] at rr8
  obtain ⟨T, hT, T3, T4, T5, B1, B2, B3, U1, U2, U3, U4⟩ := i2.cur
  rw [bd_e i1, if_pos rfl, if_pos q3, i5, nb_e ho4, h14, nI_pred, bd_e (hasF h14 (by omega) (by omega)), if_pos rfl, nb_e ho4, nb_e rr8.1, nb_e i2.1.1, rr8.2, show esz 8 = 6 from rfl, ib_n (by omega) (by omega), nI_clamp (by omega), T5, U1, U3, U4]
  have hE2 := ec_setConst (v := T.2.2) y1
  have oR : OR m4 (sI m4 (pg + 4 + 12 * Q.length + 9) (fls ms).length (nI T.2.2)) (pg + 4 + 12 * Q.length) (pg + 16 + 12 * Q.length) := Off.sI.or (by simp; omega)
  obtain ⟨v1, v2⟩ := PS.enum hN i2 oR rfl hE2 (l2.mem ⟨by simp, by simp, b2', B3, by simp⟩ (fun z => by simp at z) (fun _ => hc)) (by rw [mkD_out (by simp), mkD_out (by simp)])
  have o5 := o4.tr v2
  unfold B_X5_readConst_102
  obtain ⟨x1, x2⟩ := v1.take hN hE (w := 129) (by omega) (by omega)
  rw [U1] at x1 x2
  rw [nb_e v1.1.1, show (129 : Int32) = nI 129 from rfl]
  by_cases q4 : T.1 = 129
  · obtain ⟨m6, j1, j2, j3, j4, -⟩ := x1 q4
    rw [bd_e j1, if_pos rfl, if_pos q4, nb_e j2.1.1, show (59 : Int32) = nI 59 from rfl]
    obtain ⟨z1, z2⟩ := j2.take hN hE (w := 59) (by omega) (by omega)
    have o6 : OW m m6 n pg := o5.tr (j3.ow (by simp))
    have r6 : m6.2.2 = m.2.2 := j4.trans r4
    by_cases q5 : hd (L.drop (k + 1 + 1 + 1 + 1)) = 59
    · obtain ⟨m7, a1, a2, a3, a4, a5⟩ := z1 q5
      rw [bd_e a1, if_pos rfl, if_pos q5, a5]
      refine ⟨fun ms1 K1 r z => ?_, fun r z => by simp at z⟩
      cases z
      exact ⟨m7, k + 1 + 1 + 1 + 1 + 1, rfl, a2, rfl, o6.tr (a3.ow (by simp)), a4.trans r6, by omega⟩
    · rw [bd_e (z2 q5), if_neg ff, if_neg q5]
      refine ⟨fun ms1 K1 r z => by simp at z, fun r z => ?_⟩
      cases z
      exact ⟨m6, k + 1 + 1 + 1 + 1, rfl, j2.w, rfl, o6, r6⟩
  · rw [bd_e (x2 q4), if_neg ff, if_neg q4]
    refine ⟨fun ms1 K1 r z => by simp at z, fun r z => ?_⟩
    cases z
    exact ⟨_, k + 1 + 1 + 1, rfl, v1.w, rfl, o5, r4⟩
theorem mkC_no {ms : List Mem} (h : ∀ q ∈ ms, q.2.2.2 ≤ 2000) : (mks ms = [] → mkC ms = -1) ∧ (mks ms ≠ [] → ¬ mkC ms = -1) := by
  constructor
  · intro z
    unfold mkC
    rw [z]
    rfl
  · intro z y
    unfold mkC at y
    cases e : (mks ms).reverse with
    | nil => exact z (by simpa using congrArg List.reverse e)
    | cons q l =>
      rw [e] at y
      have hq : q ∈ ms := by
        have : q ∈ (mks ms).reverse := by rw [e]; simp
        rw [List.mem_reverse] at this
        exact (List.mem_filter.mp this).1
      have := h q hq
      have y : nI q.2.2.2 = -1 := y
      exact nI_pos (show q.2.2.2 < 2 ^ 31 by omega) (by rw [y]; decide)
theorem mkD_in {ms : List Mem} {q : Mem} (h : q.1 = 9) : mkD (ms ++ [q]) = if mks ms = [] then [] else mkD ms ++ [(2, q.2.1)] := by
  unfold mkD
  rw [mks_in h]
  cases mks ms with
  | nil => rfl
  | cons x l => simp
theorem cp_mk {G : GG} {m : MM} {n pg k p : Nat} {L : List Tok} {K : List Ko} {Q : List Enm} {cs : List Con} {ms : List Mem} (hN : PN n pg) (hE : EL L) (h : PS G m n pg L k K (Q ++ [(p, cs, ms)])) (ho : gR m (n + 204) 4 = some (pg + 4 + 12 * Q.length)) (hh : hd (L.drop k) ≠ 130) : (∀ ms1 K1 r, pMk Q.length ms K (L.drop k) = (some (ms1, K1), r) → GD G n pg L (k + 1) m (M_X5_readMaker G (n + 204) m) tt K1 (Q ++ [(p, cs, ms1)]) r) ∧ ∀ r, pMk Q.length ms K (L.drop k) = (none, r) → BA G n pg L m (M_X5_readMaker G (n + 204) m) fft r := by
  obtain ⟨t, ht, t3, t4, t5, b1, b2, b3, u1, u2, u3, u4⟩ := h.cur
  rw [u1] at hh
  obtain ⟨l1, l2, l3, l4⟩ := h.last
  have hN2 := hN
  unfold PN at hN2
  have hkk := hE k t ht hh
  have hLl := h.2.2.1.1.2.2.2.1
  have hkb := h.2.2.2.2.2.2.2.1
  obtain ⟨mq, emq⟩ : ∃ mq : Mem, mq = (9, t.2.1, 0, K.length + 1) := ⟨_, rfl⟩
  have hm9 : mq.1 = 9 := by rw [emq]
  obtain ⟨c1, c2⟩ := mkC_no (ms := ms) (fun q hq => (l2.2.2.2.2 q hq).2.2.2.2)
  -- the note
  obtain ⟨mN, n1, n2, n3, n4⟩ : ∃ mN, M_X5_readMaker G (n + 204) m = B_X5_readMaker_26 G (n + 204) mN ∧ Off m mN [n + 203] ∧ mN.2.2 = m.2.2 ∧ FM mN (n + 203) K (Q ++ [(p, cs, ms ++ [mq])]) := by
    unfold M_X5_readMaker
    rw [nb_e ho, l1.2.2.2.2.2.1]
    obtain ⟨N, a, b⟩ := h.2.2.2.2.2.2.1
    by_cases hm : mks ms = []
    · rw [if_pos (c1 hm)]
      refine ⟨m, rfl, Off.rf, rfl, N, a, fun q => ?_⟩
      have e1 : mkD ms = [] := by unfold mkD; rw [hm]; rfl
      rw [b q]
      simp only [List.mem_append, List.mem_singleton, or_and_right, exists_or, exists_eq_left, mkD_in hm9, if_pos hm, e1]
    · rw [if_neg (c2 hm), nb_e h.1.2.2.2.1, nb_e h.1.1, t4]
      obtain ⟨mN, q1, q2, q3, q4⟩ := fs_note (G := G) a (k := 2) (p := t.2.1) (by omega) (by omega)
      rw [show (2 : Int32) = nI 2 from rfl, bd_e q1]
      refine ⟨mN, rfl, q3, q4, N ++ [(2, t.2.1)], by rw [List.foldl_append]; exact q2, fun q => ?_⟩
      rw [List.mem_append, b q]
      simp only [List.mem_append, List.mem_singleton, or_and_right, exists_or, exists_eq_left, mkD_in hm9, if_neg hm]
      rw [emq]
      constructor
      · rintro ((x | x | x) | x)
        · exact Or.inl x
        · exact Or.inr (Or.inl x)
        · exact Or.inr (Or.inr (Or.inl x))
        · exact Or.inr (Or.inr (Or.inr x))
      · rintro (x | x | x | x)
        · exact Or.inl (Or.inl x)
        · exact Or.inl (Or.inr (Or.inl x))
        · exact Or.inl (Or.inr (Or.inr x))
        · exact Or.inr x
  rw [n1]
  obtain ⟨p1, p2, p3, p4, p5, p6, p7, p8, p9⟩ := h
  unfold B_X5_readMaker_26 pMk
  have q1 := p1.eq n3
  have q2 := p2.eq n3
  have q3 : TK G mN (n + 205) L k := p3.kept n2 (by simp) (by simp)
  have q4 := p4.kept n2 (show pg ∉ [n + 203] by simp; omega) (by simp; omega)
  obtain ⟨m1, e1, e2, e3, e4, e5⟩ := co_put q4 (op := 15) (a := 0) (by rw [List.length_map]; omega) (by omega) (by omega)
  have ho1 : gR m1 (n + 204) 4 = some (pg + 4 + 12 * Q.length) := by show m1.2.2 _ _ = _; rw [e5, n3]; exact ho
  have qq1 := q1.eq e5
  have hcs : gI m1 pg 4 = nI (K.length + 1) := by rw [e2.2.2.1]; simp
  rw [nb_e q1.2.2.1, show (15 : Int32) = nI 15 from rfl, show (0 : Int32) = nI 0 from nI_0.symm, bd_e e1, nb_e ho1, nb_e qq1.2.2.1, hcs]
  obtain ⟨en, een⟩ : ∃ en, en = pg + 4 + 12 * Q.length := ⟨_, rfl⟩
  rw [← een]
  have oS : Off m1 (sI m1 en 16 (nI (K.length + 1))) [en] := Off.sI
  have T1 : TK G (sI m1 en 16 (nI (K.length + 1))) (n + 205) L k := (q3.kept e3 (by simp; omega) (by simp; omega)).kept oS (by simp; omega) (by simp; omega)
  obtain ⟨m3, g1, g2, g3, g4⟩ := tk_advance T1 hkk
  rw [nb_e (show gR (sI m1 en 16 (nI (K.length + 1))) (n + 204) 0 = some (n + 205) from qq1.1), bd_e g1, if_pos rfl, u2, u4]
  have r3 : m3.2.2 = m.2.2 := g4.trans (e5.trans n3)
  have o3 : Off m m3 [n + 203, pg, pg + 3, en, n + 205] := (((n2.tr e3).tr oS).tr g3).mono (by simp)
  have hEC : EC m3 en cs (ms ++ [mq]) := by
    have x1 : EC m1 en cs ms := (een ▸ l1).kept (fun a a1 a2 => by
      rw [(e3 a (by simp; omega)).1, (n2 a (by simp; omega)).1])
    rw [emq]
    exact (ec_setMaker (p := t.2.1) (a := K.length + 1) x1).kept (fun a a1 a2 => (g3 a (by simp; omega)).1)
  have hPB := p6.1
  rw [List.length_append, List.length_singleton] at hPB
  have hS : PS G m3 n pg L (k + 1) (K ++ [mkK Q.length]) (Q ++ [(p, cs, ms ++ [mq])]) := by
    refine ⟨p1.eq r3, p2.eq r3, g2, ?_, ⟨?_, fun e E hEe => ?_⟩, ⟨by rw [List.length_append]; exact hPB, fun E hEm => ?_⟩, ?_, by rw [List.length_append]; simp; omega, hkk⟩
    · rw [List.map_append]
      exact (e2.kept oS (by simp; omega) (by simp; omega)).kept g3 (by simp; omega) (by simp; omega)
    · rw [g3.I (by simp; omega), oS.I (by simp; omega), e4 3 (by decide), n2.I (by simp; omega), p5.1]
      simp
    · rcases ap_get hEe with ⟨a, b⟩ | ⟨a, b⟩
      · obtain ⟨c1, c2⟩ := p5.2 e E (by rw [List.getElem?_append_left a]; exact b)
        exact ⟨by rw [o3.I (by simp; omega)]; exact c1, c2.kept (fun a a1 a2 => (o3 a (by simp; omega)).1)⟩
      · subst a
        subst b
        obtain ⟨c1, c2⟩ := p5.2 Q.length _ get_app
        exact ⟨by rw [o3.I (by simp; omega)]; exact c1, by rw [← een]; exact hEC⟩
    · rw [List.mem_append, List.mem_singleton] at hEm
      rcases hEm with z | z
      · exact p6.2 E (by simp [z])
      · subst z
        exact ⟨(p6.2 (p, cs, ms) (by simp)).1, l2.mem (by rw [emq]; exact ⟨by simp, by simp, b2, by simp, by simp only; omega⟩) (fun z => by omega) (fun z => by omega)⟩
    · exact (n4.kept ((e3.tr oS).tr g3) (by simp; omega)).mark rfl
  have oW : OW m m3 n pg := o3.ow (by simp; omega)
  obtain ⟨x1, x2⟩ := cp_ex (A := tt) (Bf := fft) (en := Q.length) (so := 2) (c := 0) hN hE (by omega) hS
  cases hp : pEx Q.length 2 0 (K ++ [mkK Q.length]) (L.drop (k + 1)) with
  | mk o r =>
    cases o with
    | none =>
      refine ⟨fun ms1 K1 r z => by simp at z, fun r' z => ?_⟩
      cases z
      obtain ⟨m4, k4, y1, y2, y3, y4, y5⟩ := x2 r hp
      exact ⟨m4, k4, y1, y2, y3, oW.tr y4, y5.trans r3⟩
    | some K1 =>
      refine ⟨fun ms1 K2 r' z => ?_, fun r' z => by simp at z⟩
      cases z
      obtain ⟨m4, k4, y1, y2, y3, y4, y5, y6⟩ := x1 K1 r hp
      rw [emq] at y2
      exact ⟨m4, k4, y1, y2, y3, oW.tr y4, y5.trans r3, by omega⟩
