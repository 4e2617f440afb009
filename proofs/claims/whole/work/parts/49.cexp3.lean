/-! ===== L2: the class's operands, closings and signs ===== -/
theorem EX.put {G : GG} {m m1 : MM} {x tk pg fa so k de sg : Nat} {L : List Tok} {st : List Nat} {out : List Op} {C0 : List Int64} {F0 : Nat × Nat} (hD : DX x tk pg fa) (h : EX G m x tk pg fa so L k st de sg out C0 F0) {o : Op} {l : List Nat} {C1 : List Int64} (hC : CO G m1 pg C1) (e1 : C1 = C0 ++ (out ++ [o]).map encOp) (ho : Off m m1 l) (h1 : x ∉ l) (h2 : x + 1 ∉ l) : XE G m1 x tk pg fa so st (opn st) de sg (C0 ++ (out ++ [o]).map encOp) := by
  obtain ⟨e0, e1', e2, e3, e4, e5, e6, e7, e8, e9, e10, e11⟩ := h.1
  rw [← e1]
  exact ⟨by rw [ho.R h1]; exact e0, e1', by rw [ho.R h1]; exact e2, by rw [ho.R h1]; exact e3, by rw [ho.R h1]; exact e4, by rw [ho.I h1]; exact e5, by rw [ho.I h1]; exact e6, e7.kept (fun j _ => ho.I h2 j), by rw [ho.I h1]; exact e8, by rw [ho.I h1]; exact e9, by rw [ho.I h1]; exact e10, hC⟩
theorem map_snoc {C0 : List Int64} {out : List Op} {o : Op} : C0 ++ out.map encOp ++ [encOp o] = C0 ++ (out ++ [o]).map encOp := by simp
/-- put an operand and go on -/
theorem cx_emit {G : GG} {m : MM} {x tk pg fa so k de sg a : Nat} {L : List Tok} {st : List Nat} {out : List Op} {C0 : List Int64} {F0 : Nat × Nat} {o : Op} (hD : DX x tk pg fa) (h : EX G m x tk pg fa so L k st de sg out C0 F0) (hk : k + 1 < L.length) (ha : a < 2 ^ 31) (ho : encOp o = lN (a * 16 + o.1)) (ho1 : o.1 < 100) (hb : badB so o = false) : ∃ m1 m2, M_X6_put G pg (nI o.1) (nI a) m = some (true, m1) ∧ gR m1 x 1 = some tk ∧ M_X9_advance G tk m1 = some (true, m2) ∧ EX G m2 x tk pg fa so L (k + 1) st de sg (out ++ [o]) C0 F0 ∧ Off m m2 [tk, pg, pg + 3] ∧ m2.2.2 = m.2.2 ∧ (∀ j, j ≠ 4 → gI m2 pg j = gI m pg j) := by
  have h0 := h
  obtain ⟨hX, hT, hF, hS, hB, hkl⟩ := h
  obtain ⟨n0, d1, d2, d3, d4⟩ := id hD
  have hL := hT.1.2.2.2.1
  have hCO := hX.2.2.2.2.2.2.2.2.2.2.2
  obtain ⟨m1, f1, f2, f3, f4, f5⟩ := co_put hCO (op := o.1) (a := a) (by rw [List.length_append, List.length_map]; omega) (by omega) ha
  have hT1 : TK G m1 tk L k := hT.kept f3 (by simp; omega) (by simp; omega)
  obtain ⟨m2, g1, g2, g3, g4⟩ := tk_advance hT1 hk
  have hX1 : XE G m1 x tk pg fa so st (opn st) de sg (C0 ++ (out ++ [o]).map encOp) := h0.put hD f2 (by rw [← ho]; exact map_snoc) f3 (by simp; omega) (by simp; omega)
  have off : Off m m2 [tk, pg, pg + 3] := (f3.tr g3).mono (by simp)
  refine ⟨m1, m2, f1, by show m1.2.2 x 1 = _; rw [f5]; exact hX.2.2.1, g1, ⟨hX1.kept g3 (by simp; omega) (by simp; omega) (by simp; omega) (by simp; omega), g2, ?_, hS, by rw [List.length_append]; simp; omega, hk⟩, off, by rw [g4, f5], fun j hj => by rw [g3.I (by simp; omega), f4 j hj]⟩
  rw [nts_app]
  simp only [nts, hb]
  exact hF.kept off (by simp; omega)
theorem cx_word {G : GG} {m : MM} {x tk pg fa so k de sg w : Nat} {L : List Tok} {st : List Nat} {out : List Op} {C0 : List Int64} {F0 : Nat × Nat} {c : Tok} (hD : DX x tk pg fa) (h : EX G m x tk pg fa so L k st de sg out C0 F0) (hc : L[k]? = some c) (hk : k + 1 < L.length) (hw : w = 4 ∨ w = 5 ∨ w = 6) : ∃ m2, M_X2_readWord G x (nI w) (!badB so (w, c.2.1, 0, 0)) m = some (true, m2) ∧ EX G m2 x tk pg fa so L (k + 1) st de sg (out ++ [(w, c.2.1, 0, 0)]) C0 F0 ∧ Off m m2 [tk, pg, pg + 3, fa] ∧ m2.2.2 = m.2.2 ∧ (∀ j, j ≠ 4 → gI m2 pg j = gI m pg j) := by
  have h0 := h
  obtain ⟨hX, hT, hF, hS, hB, hkl⟩ := h
  obtain ⟨n0, d1, d2, d3, d4⟩ := id hD
  obtain ⟨c3, c4, c5, b1, b2, b3⟩ := tk_cur hT hc
  have eo : encOp (w, c.2.1, 0, 0) = lN (0 * 16 + w) := by
    unfold encOp
    simp only
    rw [if_neg (by omega), if_neg (by omega), if_neg (by omega)]
  have hL := hT.1.2.2.2.1
  -- with or without a note
  obtain ⟨mN, n1, n2, n3, n4⟩ : ∃ mN, (M_X2_readWord G x (nI w) (!badB so (w, c.2.1, 0, 0)) m = B_X2_readWord_20 G x (nI w) mN) ∧ FS mN fa (nts so F0 (out ++ [(w, c.2.1, 0, 0)])) ∧ Off m mN [fa] ∧ mN.2.2 = m.2.2 := by
    unfold M_X2_readWord
    rw [nts_app]
    simp only [nts]
    cases hb : badB so (w, c.2.1, 0, 0) with
    | false =>
      rw [if_pos (show (!false) = true from rfl)]
      exact ⟨m, rfl, hF, Off.rf, rfl⟩
    | true =>
      obtain ⟨mN, q1, q2, q3, q4⟩ := fs_note (G := G) hF (k := 6) (p := c.2.1) (by omega) (by omega)
      rw [if_neg (by decide), nb_e hX.2.2.2.2.1, nb_e hX.2.2.1, c4, show (6 : Int32) = nI 6 from rfl, bd_e q1]
      exact ⟨mN, rfl, q2, q3, q4⟩
  rw [n1]
  unfold B_X2_readWord_20
  have hXN := hX.kept n3 (by simp; omega) (by simp; omega) (by simp; omega) (by simp; omega)
  have hTN : TK G mN tk L k := hT.kept n3 (by simp; omega) (by simp; omega)
  have hCO := hXN.2.2.2.2.2.2.2.2.2.2.2
  obtain ⟨m1, f1, f2, f3, f4, f5⟩ := co_put hCO (op := w) (a := 0) (by rw [List.length_append, List.length_map]; omega) (by omega) (by omega)
  have hT1 : TK G m1 tk L k := hTN.kept f3 (by simp; omega) (by simp; omega)
  obtain ⟨m2, g1, g2, g3, g4⟩ := tk_advance hT1 hk
  rw [nb_e hXN.2.2.2.1, show (0 : Int32) = nI 0 from nI_0.symm, bd_e f1, if_pos rfl, nb_e (show gR m1 x 1 = some tk by show m1.2.2 x 1 = _; rw [f5]; exact hXN.2.2.1), bd_e g1, if_pos rfl]
  have oN1 : Off m m1 [fa, pg, pg + 3] := (n3.tr f3).mono (by simp)
  have hX1 : XE G m1 x tk pg fa so st (opn st) de sg (C0 ++ (out ++ [(w, c.2.1, 0, 0)]).map encOp) := h0.put hD f2 (by rw [← eo]; exact map_snoc) oN1 (by simp; omega) (by simp; omega)
  have off : Off m m2 [tk, pg, pg + 3, fa] := (oN1.tr g3).mono (by simp)
  refine ⟨m2, rfl, ⟨hX1.kept g3 (by simp; omega) (by simp; omega) (by simp; omega) (by simp; omega), g2, n2.kept (f3.tr g3) (by simp; omega), hS, by rw [List.length_append]; simp; omega, hk⟩, off, by rw [g4, f5, n4], fun j hj => by rw [g3.I (by simp; omega), f4 j hj, n3.I (by simp; omega)]⟩
/-- the class reads one operand -/
theorem cx_one {G : GG} {m : MM} {x tk pg fa so k de sg : Nat} {L : List Tok} {st : List Nat} {out : List Op} {C0 : List Int64} {F0 : Nat × Nat} (hD : DX x tk pg fa) (hE : EL L) (hso : so < 3) (h : EX G m x tk pg fa so L k st de sg out C0 F0) (hn : ∀ c, L[k]? = some c → c.1 ≠ 40 ∧ c.1 ≠ 45) : ∃ (b : Bool) (m1 : MM) (k1 : Nat), M_X2_readOne G x m = some (b, m1) ∧ Off m m1 [tk, pg, pg + 3, fa] ∧ m1.2.2 = m.2.2 ∧ (∀ j, j ≠ 4 → gI m1 pg j = gI m pg j) ∧ TK G m1 tk L k1 ∧ k ≤ k1 ∧ (b = true → ∃ o, EX G m1 x tk pg fa so L k1 st de sg (out ++ [o]) C0 F0 ∧ pE (0, 0, st, de, sg, out) (L.drop k) = pE (aft st de sg out o) (L.drop k1)) ∧ (b = false → ∃ o, pE (0, 0, st, de, sg, out) (L.drop k) = (false, o, L.drop k1)) := by
  have h0 := h
  obtain ⟨hX, hT, hF, hS, hB, hkl⟩ := h
  obtain ⟨n0, d1, d2, d3, d4⟩ := id hD
  obtain ⟨c, hc⟩ : ∃ c, L[k]? = some c := ⟨L[k], List.getElem?_eq_getElem hkl⟩
  obtain ⟨c3, c4, c5, b1, b2, b3⟩ := tk_cur hT hc
  obtain ⟨c40, c45⟩ := hn c hc
  have hL := hT.1.2.2.2.1
  have hnop : ¬ (c.1 = 40 ∨ c.1 = 45) := by omega
  have e4 : gI m x 4 = nI so := hX.2.2.2.2.2.1
  unfold M_X2_readOne
  rw [nb_e hX.2.2.1, c3]
  by_cases q128 : c.1 = 128
  · -- a name
    have hk1 := hE k c hc (by omega)
    obtain ⟨m1, g1, g2, g3, g4⟩ := tk_advance hT hk1
    obtain ⟨c', hc'⟩ : ∃ c', L[k + 1]? = some c' := ⟨L[k + 1], List.getElem?_eq_getElem hk1⟩
    obtain ⟨c3', c4', c5', b1', b2', b3'⟩ := tk_cur g2 hc'
    rw [if_pos (by rw [q128]; rfl)]
    unfold M_X2_readName
    have r1 : gR m1 x 1 = some tk := by show m1.2.2 x 1 = _; rw [g4]; exact hX.2.2.1
    have r2 : gR m1 x 2 = some pg := by show m1.2.2 x 2 = _; rw [g4]; exact hX.2.2.2.1
    rw [nb_e hX.2.2.1, bd_e g1, nb_e r1, c3']
    have hp2 : pE (0, 0, st, de, sg, out) (L.drop k) = pE (2, c.2.1, st, de, sg, out) (L.drop (k + 1)) := by
      rw [drop_cons hc]
      refine pE_go ?_
      show stp0 st de sg out c = _
      unfold stp0
      rw [if_neg hnop, if_neg (by omega), if_neg (by omega), if_neg (by omega), if_neg (by omega), if_pos q128]
    have hX1 := hX.kept g3 (by simp; omega) (by simp; omega) (by simp; omega) (by simp; omega)
    by_cases q46 : c'.1 = 46
    · have hk2 := hE (k + 1) c' hc' (by omega)
      obtain ⟨m2, i1, i2, i3, i4⟩ := tk_advance g2 hk2
      obtain ⟨c'', hc''⟩ : ∃ c', L[k + 1 + 1]? = some c' := ⟨L[k + 1 + 1], List.getElem?_eq_getElem hk2⟩
      obtain ⟨c3'', c4'', c5'', b1'', b2'', b3''⟩ := tk_cur i2 hc''
      have hX2 := hX1.kept i3 (by simp; omega) (by simp; omega) (by simp; omega) (by simp; omega)
      have hp3 : pE (2, c.2.1, st, de, sg, out) (L.drop (k + 1)) = pE (3, c.2.1, st, de, sg, out) (L.drop (k + 1 + 1)) := by
        rw [drop_cons hc']
        refine pE_go ?_
        show (if c'.1 = 46 then _ else _) = _
        rw [if_pos q46]
      rw [if_pos (by rw [q46]; rfl), bd_e i1, nb_e (show gR m2 x 1 = some tk by show m2.2.2 x 1 = _; rw [i4]; exact r1), c3'']
      have o2 : Off m m2 [tk, pg, pg + 3, fa] := (g3.tr i3).mono (by simp)
      by_cases q3 : c''.1 = 128
      · have hk3 := hE (k + 1 + 1) c'' hc'' (by omega)
        have hEX2 : EX G m2 x tk pg fa so L (k + 1 + 1) st de sg out C0 F0 := ⟨hX2, i2, hF.kept (g3.tr i3) (by simp; omega), hS, by omega, hk2⟩
        obtain ⟨m3, m4, j1, j2, j3, j4, j5, j6, j7⟩ := cx_emit hD hEX2 (o := (3, c.2.1, c''.2.1, 0)) (a := c.2.1 * 4096 + c''.2.1) hk3 (by omega) (by simp [encOp]) (by show 3 < 100; omega) (by simp [badB])
        rw [if_pos (by rw [q3]; rfl), nb_e (show gR m2 x 2 = some pg by show m2.2.2 x 2 = _; rw [i4]; exact r2), c4, c4'', show (4096 : Int32) = nI 4096 from rfl, pk_mul, nI_add, show (3 : Int32) = nI 3 from rfl, bd_e j1, if_pos rfl, nb_e j2, bd_e j3, if_pos rfl, bd_e rfl]
        refine ⟨true, m4, k + 1 + 1 + 1, rfl, (o2.tr j5).mono (by simp), by rw [j6, i4, g4], fun j hj => by rw [j7 j hj, i3.I (by simp; omega), g3.I (by simp; omega)], j4.2.1, by omega, fun _ => ⟨_, j4, ?_⟩, fun z => by cases z⟩
        rw [hp2, hp3, drop_cons hc'']
        refine pE_go ?_
        show (if c''.1 = 128 then _ else _) = _
        rw [if_pos q3]
      · rw [if_neg (k_ne 128 128 rfl (by omega) (by omega) q3), bd_e rfl]
        refine ⟨false, m2, k + 1 + 1, rfl, o2, by rw [i4, g4], fun j hj => by rw [i3.I (by simp; omega), g3.I (by simp; omega)], i2, by omega, (fun z => by cases z), fun _ => ⟨out, ?_⟩⟩
        rw [hp2, hp3, drop_cons hc'']
        refine pE_end (q := (false, out)) ?_
        show (if c''.1 = 128 then _ else _) = _
        rw [if_neg q3]
    · -- a field
      have hCO := hX1.2.2.2.2.2.2.2.2.2.2.2
      obtain ⟨m2, f1, f2, f3, f4, f5⟩ := co_put hCO (op := 2) (a := c.2.1) (by rw [List.length_append, List.length_map]; omega) (by omega) (by omega)
      rw [if_neg (k_ne 46 46 rfl (by omega) (by omega) q46), nb_e r2, c4, show (2 : Int32) = nI 2 from rfl, bd_e f1, bd_e rfl]
      have hEX1 : EX G m1 x tk pg fa so L (k + 1) st de sg out C0 F0 := ⟨hX1, g2, hF.kept g3 (by simp; omega), hS, by omega, hk1⟩
      have o2 : Off m m2 [tk, pg, pg + 3, fa] := (g3.tr f3).mono (by simp)
      refine ⟨true, m2, k + 1, rfl, o2, by rw [f5, g4], fun j hj => by rw [f4 j hj, g3.I (by simp; omega)], g2.kept f3 (by simp; omega) (by simp; omega), by omega, fun _ => ⟨(2, c.2.1, 0, 0), ⟨hEX1.put hD f2 (by rw [show lN (c.2.1 * 16 + 2) = encOp (2, c.2.1, 0, 0) by simp [encOp]]; exact map_snoc) f3 (by simp; omega) (by simp; omega), g2.kept f3 (by simp; omega) (by simp; omega), ?_, hS, by rw [List.length_append]; simp; omega, hk1⟩, ?_⟩, fun z => by cases z⟩
      · rw [nts_app]
        simp only [nts, badB]
        simpa using hF.kept (g3.tr f3) (by simp; omega)
      · rw [hp2, drop_cons hc']
        rw [pE, pE]
        have es : stp (2, c.2.1, st, de, sg, out) c' = stp (aft st de sg out (2, c.2.1, 0, 0)) c' := by
          show (if c'.1 = 46 then _ else _) = stp1 _ _ _ _ c'.1
          rw [if_neg q46]
          rfl
        rw [es]
  rw [if_neg (k_ne 128 128 rfl (by omega) (by omega) q128)]
  by_cases q129 : c.1 = 129
  · have hk1 := hE k c hc (by omega)
    obtain ⟨m1, m2, j1, j2, j3, j4, j5, j6, j7⟩ := cx_emit hD h0 (o := (1, c.2.1, 0, c.2.2)) (a := c.2.2) hk1 (by omega) (by simp [encOp]) (by show 1 < 100; omega) (by simp [badB])
    rw [if_pos (by rw [q129]; rfl), nb_e hX.2.2.2.1, c5, show (1 : Int32) = nI 1 from rfl, bd_e j1, if_pos rfl, nb_e j2, bd_e j3, if_pos rfl]
    refine ⟨true, m2, k + 1, rfl, j5.mono (by simp), j6, j7, j4.2.1, by omega, fun _ => ⟨_, j4, ?_⟩, fun z => by cases z⟩
    rw [drop_cons hc]
    refine pE_go ?_
    show stp0 st de sg out c = _
    unfold stp0
    rw [if_neg hnop, if_pos q129]
  rw [if_neg (k_ne 129 129 rfl (by omega) (by omega) q129)]
  have bad : c.1 ≠ 138 → c.1 ≠ 139 → c.1 ≠ 140 → ∃ (b : Bool) (m1 : MM) (k1 : Nat), (some (false, m) : Option (Bool × MM)) = some (b, m1) ∧ Off m m1 [tk, pg, pg + 3, fa] ∧ m1.2.2 = m.2.2 ∧ (∀ j, j ≠ 4 → gI m1 pg j = gI m pg j) ∧ TK G m1 tk L k1 ∧ k ≤ k1 ∧ (b = true → ∃ o, EX G m1 x tk pg fa so L k1 st de sg (out ++ [o]) C0 F0 ∧ pE (0, 0, st, de, sg, out) (L.drop k) = pE (aft st de sg out o) (L.drop k1)) ∧ (b = false → ∃ o, pE (0, 0, st, de, sg, out) (L.drop k) = (false, o, L.drop k1)) := by
    intro a1 a2 a3
    refine ⟨false, m, k, rfl, Off.rf, rfl, fun _ _ => rfl, hT, Nat.le_refl _, (fun z => by cases z), fun _ => ⟨out, ?_⟩⟩
    rw [drop_cons hc]
    refine pE_end (q := (false, out)) ?_
    show stp0 st de sg out c = _
    unfold stp0
    rw [if_neg hnop, if_neg q129, if_neg a1, if_neg a2, if_neg a3, if_neg q128]
  have word : ∀ (w : Nat), w = 4 ∨ w = 5 ∨ w = 6 → c.1 = 134 + w → ∃ (b : Bool) (m1 : MM) (k1 : Nat), (bd (M_X2_readWord G x (nI w) (!badB so (w, c.2.1, 0, 0)) m) fun r m3 => some (r, m3)) = some (b, m1) ∧ Off m m1 [tk, pg, pg + 3, fa] ∧ m1.2.2 = m.2.2 ∧ (∀ j, j ≠ 4 → gI m1 pg j = gI m pg j) ∧ TK G m1 tk L k1 ∧ k ≤ k1 ∧ (b = true → ∃ o, EX G m1 x tk pg fa so L k1 st de sg (out ++ [o]) C0 F0 ∧ pE (0, 0, st, de, sg, out) (L.drop k) = pE (aft st de sg out o) (L.drop k1)) ∧ (b = false → ∃ o, pE (0, 0, st, de, sg, out) (L.drop k) = (false, o, L.drop k1)) := by
    intro w hw hcw
    have hk1 := hE k c hc (by omega)
    obtain ⟨m2, j1, j2, j3, j4, j5⟩ := cx_word hD h0 hc hk1 hw
    rw [bd_e j1]
    refine ⟨true, m2, k + 1, rfl, j3, j4, j5, j2.2.1, by omega, fun _ => ⟨_, j2, ?_⟩, fun z => by cases z⟩
    rw [drop_cons hc]
    refine pE_go ?_
    show stp0 st de sg out c = _
    unfold stp0
    rcases hw with rfl | rfl | rfl
    · rw [if_neg hnop, if_neg q129, if_pos (by omega)]
    · rw [if_neg hnop, if_neg q129, if_neg (by omega), if_pos (by omega)]
    · rw [if_neg hnop, if_neg q129, if_neg (by omega), if_neg (by omega), if_pos (by omega)]
  by_cases q138 : c.1 = 138
  · have := word 4 (by omega) (by omega)
    rw [if_neg (k_ne 130 130 rfl (by omega) (by omega) (by omega)), if_neg (k_ne 131 131 rfl (by omega) (by omega) (by omega)), if_neg (k_ne 132 132 rfl (by omega) (by omega) (by omega)), if_neg (k_ne 133 133 rfl (by omega) (by omega) (by omega)), if_neg (k_ne 134 134 rfl (by omega) (by omega) (by omega)), if_neg (k_ne 135 135 rfl (by omega) (by omega) (by omega)), if_neg (k_ne 136 136 rfl (by omega) (by omega) (by omega)), if_neg (k_ne 137 137 rfl (by omega) (by omega) (by omega)), if_pos (by rw [q138]; rfl), e4]
    by_cases qs : so = 2
    · rw [if_pos (by rw [qs]; rfl)]
      have eb : badB so (4, c.2.1, 0, 0) = false := by simp [badB, qs]
      rw [eb] at this
      exact this
    · rw [if_neg (k_ne 2 2 rfl (by omega) (by omega) qs)]
      have eb : badB so (4, c.2.1, 0, 0) = true := by simp [badB, qs]
      rw [eb] at this
      exact this
  by_cases q139 : c.1 = 139
  · have := word 5 (by omega) (by omega)
    rw [if_neg (k_ne 130 130 rfl (by omega) (by omega) (by omega)), if_neg (k_ne 131 131 rfl (by omega) (by omega) (by omega)), if_neg (k_ne 132 132 rfl (by omega) (by omega) (by omega)), if_neg (k_ne 133 133 rfl (by omega) (by omega) (by omega)), if_neg (k_ne 134 134 rfl (by omega) (by omega) (by omega)), if_neg (k_ne 135 135 rfl (by omega) (by omega) (by omega)), if_neg (k_ne 136 136 rfl (by omega) (by omega) (by omega)), if_neg (k_ne 137 137 rfl (by omega) (by omega) (by omega)), if_neg (k_ne 138 138 rfl (by omega) (by omega) q138), if_pos (by rw [q139]; rfl), e4]
    by_cases qs : so = 0
    · rw [if_pos (by rw [qs]; rfl)]
      have eb : badB so (5, c.2.1, 0, 0) = false := by simp [badB, qs]
      rw [eb] at this
      exact this
    · rw [if_neg (k_ne 0 0 rfl (by omega) (by omega) qs)]
      have eb : badB so (5, c.2.1, 0, 0) = true := by simp [badB, qs]
      rw [eb] at this
      exact this
  by_cases q140 : c.1 = 140
  · have := word 6 (by omega) (by omega)
    rw [if_neg (k_ne 130 130 rfl (by omega) (by omega) (by omega)), if_neg (k_ne 131 131 rfl (by omega) (by omega) (by omega)), if_neg (k_ne 132 132 rfl (by omega) (by omega) (by omega)), if_neg (k_ne 133 133 rfl (by omega) (by omega) (by omega)), if_neg (k_ne 134 134 rfl (by omega) (by omega) (by omega)), if_neg (k_ne 135 135 rfl (by omega) (by omega) (by omega)), if_neg (k_ne 136 136 rfl (by omega) (by omega) (by omega)), if_neg (k_ne 137 137 rfl (by omega) (by omega) (by omega)), if_neg (k_ne 138 138 rfl (by omega) (by omega) q138), if_neg (k_ne 139 139 rfl (by omega) (by omega) q139), if_pos (by rw [q140]; rfl), e4]
    by_cases qs : so = 1
    · rw [if_pos (by rw [qs]; rfl)]
      have eb : badB so (6, c.2.1, 0, 0) = true := by simp [badB, qs]
      rw [eb] at this
      exact this
    · rw [if_neg (k_ne 1 1 rfl (by omega) (by omega) qs)]
      have eb : badB so (6, c.2.1, 0, 0) = false := by simp [badB, qs]
      rw [eb] at this
      exact this
  have := bad q138 q139 q140
  simp only [if_neg (k_ne 138 138 rfl (show c.1 < 2 ^ 31 by omega) (by omega) q138), if_neg (k_ne 139 139 rfl (show c.1 < 2 ^ 31 by omega) (by omega) q139), if_neg (k_ne 140 140 rfl (show c.1 < 2 ^ 31 by omega) (by omega) q140), ite_self]
  exact this
