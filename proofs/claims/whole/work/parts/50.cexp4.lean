/-! ===== L2: the class's reading of an exp: what closes, what joins, the whole ===== -/
theorem popG_opn2 (st : List Nat) (r : Nat) (hr : 0 < r) : opn (popG r st).2 = opn st := by
  have := opn_app (popG r st).1 (popG r st).2
  rw [popG_app, popG_opn st r hr] at this
  omega
theorem popG_len (st : List Nat) (r : Nat) : (popG r st).1.length + (popG r st).2.length = st.length := by
  have := congrArg List.length (popG_app st r)
  rw [List.length_append] at this
  exact this
theorem cx_putE {G : GG} {m : MM} {x tk pg fa so k de sg r : Nat} {L : List Tok} {st : List Nat} {out : List Op} {C0 : List Int64} {F0 : Nat × Nat} (hD : DX x tk pg fa) (hr : 0 < r) (hr3 : r ≤ 3) (h : EX G m x tk pg fa so L k st de sg out C0 F0) : ∃ m1, M_X2_putWaiting G x (nI r) m = some ((), m1) ∧ EX G m1 x tk pg fa so L k (popG r st).2 (de - nng (popG r st).1) sg (out ++ (popG r st).1.map bop) C0 F0 ∧ Off m m1 [x, pg, pg + 3] ∧ (∀ j, j ≠ 4 → gI m1 pg j = gI m pg j) ∧ m1.2.2 = m.2.2 := by
  obtain ⟨hX, hT, hF, hS, hB, hk⟩ := h
  obtain ⟨n0, d1, d2, d3, d4⟩ := id hD
  obtain ⟨s1, s2, s3⟩ := hS.pop hr
  have hL := hT.1.2.2.2.1
  have hl := popG_len st r
  have hde := hS.2.2.2.1
  obtain ⟨m1, e1, e2, e3, e4, e5⟩ := cx_put hD hr hr3 hX hS.l26 hS.l12 (by rw [List.length_append, List.length_map]; omega) s2 (by omega)
  refine ⟨m1, e1, ⟨?_, hT.kept e3 (by simp; omega) (by simp; omega), ?_, s1, by rw [List.length_append, List.length_map]; omega, hk⟩, e3, e4, e5⟩
  · rw [popG_opn2 st r hr]
    simpa [List.map_append, List.map_map, Function.comp_def, List.append_assoc] using e2
  · rw [nts_app, nts_bop _ _ (fun y hy => (s3 y hy).1)]
    exact hF.kept e3 (by simp; omega)
theorem popG_zero : ∀ (st : List Nat), (∀ y ∈ st, y = 0 ∨ (7 ≤ y ∧ y ≤ 11)) → 0 ∈ st → (popG 1 st).2 = 0 :: (popG 1 st).2.tail := by
  intro st
  induction st with
  | nil => intro _ h; simp at h
  | cons x l ih =>
    intro h h0
    simp only [popG]
    by_cases hx : x = 0
    · subst hx
      rw [if_neg (by simp [rnk])]
      rfl
    · have h1 : 1 ≤ rnk x := by
        rcases h x (by simp) with q | q
        · exact absurd q hx
        · rcases (show x = 7 ∨ x = 8 ∨ x = 9 ∨ x = 10 ∨ x = 11 by omega) with rfl | rfl | rfl | rfl | rfl <;> decide
      rw [if_pos h1]
      refine ih (fun y hy => h y (by simp [hy])) ?_
      rcases List.mem_cons.mp h0 with q | q
      · exact absurd q.symm hx
      · exact q
theorem cx_close {G : GG} {x tk pg fa so sg : Nat} {L : List Tok} {C0 : List Int64} {F0 : Nat × Nat} (hD : DX x tk pg fa) (hE : EL L) : ∀ (fu i k de : Nat) (st : List Nat) (out : List Op) (m : MM), EX G m x tk pg fa so L k st de sg out C0 F0 → opn st + i ≤ 8 → 9 - i < fu → ∃ (m1 : MM) (k1 de1 : Nat) (st1 : List Nat) (out1 : List Op), B_X2_readClosing_7 G fu x (nI i) m = some (true, m1) ∧ EX G m1 x tk pg fa so L k1 st1 de1 sg out1 C0 F0 ∧ Off m m1 [x, tk, pg, pg + 3] ∧ m1.2.2 = m.2.2 ∧ (∀ j, j ≠ 4 → gI m1 pg j = gI m pg j) ∧ k ≤ k1 ∧ pE (1, 0, st, de, sg, out) (L.drop k) = pE (1, 0, st1, de1, sg, out1) (L.drop k1) ∧ ∀ c, L[k1]? = some c → ¬ (c.1 = 41 ∧ 0 ∈ st1) := by
  intro fu
  induction fu with
  | zero => intro i k de st out m _ _ hf; exact absurd hf (by omega)
  | succ fu ih =>
    intro i k de st out m h hi hf
    have h0 := h
    obtain ⟨hX, hT, hF, hS, hB, hk⟩ := h
    obtain ⟨n0, d1, d2, d3, d4⟩ := id hD
    obtain ⟨c, hc⟩ : ∃ c, L[k]? = some c := ⟨L[k], List.getElem?_eq_getElem hk⟩
    obtain ⟨c3, c4, c5, b1, b2, b3⟩ := tk_cur hT hc
    have hpt : pg ∉ [tk] := by simp; omega
    have hpx : pg ∉ [x] := by simp; omega
    have done : ¬ (c.1 = 41 ∧ 0 ∈ st) → ∃ (m1 : MM) (k1 de1 : Nat) (st1 : List Nat) (out1 : List Op), (some (true, m) : Option (Bool × MM)) = some (true, m1) ∧ EX G m1 x tk pg fa so L k1 st1 de1 sg out1 C0 F0 ∧ Off m m1 [x, tk, pg, pg + 3] ∧ m1.2.2 = m.2.2 ∧ (∀ j, j ≠ 4 → gI m1 pg j = gI m pg j) ∧ k ≤ k1 ∧ pE (1, 0, st, de, sg, out) (L.drop k) = pE (1, 0, st1, de1, sg, out1) (L.drop k1) ∧ ∀ c, L[k1]? = some c → ¬ (c.1 = 41 ∧ 0 ∈ st1) := by
      intro hn
      refine ⟨m, k, de, st, out, rfl, h0, Off.rf, rfl, fun _ _ => rfl, Nat.le_refl _, rfl, fun c' hc' => ?_⟩
      cases hc.symm.trans hc'
      exact hn
    rw [B_X2_readClosing_7, show (8 : Int32) = nI 8 from rfl]
    by_cases h8 : 8 ≤ i
    · rw [if_pos ((nI_leI (by omega) (by omega)).mpr h8)]
      refine done (fun z => ?_)
      have := (opn_mem st).mp z.2
      omega
    rw [if_neg (fun z => h8 ((nI_leI (by omega) (by omega)).mp z)), nb_e hX.2.2.1, c3]
    by_cases h41 : ¬ c.1 = 41
    · rw [if_neg (k_ne 41 41 rfl (by omega) (by omega) h41)]
      exact done (fun z => h41 z.1)
    have h41 : c.1 = 41 := Decidable.not_not.mp h41
    have e8 : gI m x 6 = nI (opn st) := hX.2.2.2.2.2.2.2.2.1
    rw [if_pos (by rw [h41]; rfl), e8, show (0 : Int32) = nI 0 from nI_0.symm]
    by_cases hop : opn st = 0
    · rw [if_pos ((nI_leI (by omega) (by omega)).mpr (by omega))]
      exact done (fun z => by have := (opn_mem st).mp z.2; omega)
    have h0m : 0 ∈ st := (opn_mem st).mpr (by omega)
    rw [if_neg (fun z => absurd ((nI_leI (by omega) (by omega)).mp z) (by omega))]
    obtain ⟨m1, e1, e2, e3, e4, e5⟩ := cx_putE hD (r := 1) (by omega) (by omega) h0
    have ez := popG_zero st hS.2.1 h0m
    obtain ⟨tl, etl⟩ : ∃ tl, (popG 1 st).2.tail = tl := ⟨_, rfl⟩
    rw [etl] at ez
    rw [ez] at e2
    obtain ⟨hX1, hT1, hF1, hS1, hB1, hk1⟩ := e2
    rw [show (1 : Int32) = nI 1 from rfl, bd_e e1]
    obtain ⟨a0, a1, a2, a3, a4, a5, a6, a7, a8, a9, a10, a11⟩ := hX1
    obtain ⟨s1, s2, s3, s4, s5⟩ := hS1
    have so1 : opn (0 :: tl) = opn tl + 1 := by simp [opn]; omega
    have sn1 : nng (0 :: tl) = nng tl := by simp [nng]
    rw [so1, sn1] at s3
    obtain ⟨dd, edd⟩ : ∃ dd, de - nng (popG 1 st).1 = dd := ⟨_, rfl⟩
    rw [edd] at s3 s4 a9
    rw [List.length_cons] at a6
    rw [so1] at a8
    have w1 : gI m1 x 5 - nI 1 = nI tl.length := by rw [a6, pk_sub (by omega)]; rfl
    have w2 : gI (sI m1 x 5 (nI tl.length)) x 6 - nI 1 = nI (opn tl) := by rw [gI_sI_ne (Or.inr (by decide)), a8, pk_sub (by omega)]; rfl
    have w3 : gI (sI (sI m1 x 5 (nI tl.length)) x 6 (nI (opn tl))) x 7 - nI 1 = nI (dd - 1) := by rw [gI_sI_ne (Or.inr (by decide)), gI_sI_ne (Or.inr (by decide)), a9, pk_sub (by omega)]
    simp only [w1, w2, w3]
    have oS : Off m1 (sI (sI (sI m1 x 5 (nI tl.length)) x 6 (nI (opn tl))) x 7 (nI (dd - 1))) [x] := (Off.sI.tr1 Off.sI).tr1 Off.sI
    have hT2 := hT1.kept oS (by simp; omega) (by simp; omega)
    have hkl := hE k c hc (by omega)
    obtain ⟨m3, g1, g2, g3, g4⟩ := tk_advance hT2 hkl
    simp only [gR_sI]
    rw [nb_e a2, bd_e g1]
    have hEX3 : EX G m3 x tk pg fa so L (k + 1) tl (dd - 1) sg (out ++ (popG 1 st).1.map bop) C0 F0 := by
      have hX2 : XE G (sI (sI (sI m1 x 5 (nI tl.length)) x 6 (nI (opn tl))) x 7 (nI (dd - 1))) x tk pg fa so tl (opn tl) (dd - 1) sg (C0 ++ (out ++ (popG 1 st).1.map bop).map encOp) := by
        refine ⟨a0, a1, a2, a3, a4, ?_, ?_, ?_, ?_, gI_sI_eq, ?_, a11.kept oS (by simp; omega) (by simp; omega)⟩
        · rw [gI_sI_ne (Or.inr (by decide)), gI_sI_ne (Or.inr (by decide)), gI_sI_ne (Or.inr (by decide))]; exact a5
        · rw [gI_sI_ne (Or.inr (by decide)), gI_sI_ne (Or.inr (by decide)), gI_sI_eq]
        · exact a7.2.kept (fun j _ => by rw [gI_sI_ne (Or.inl (by omega)), gI_sI_ne (Or.inl (by omega)), gI_sI_ne (Or.inl (by omega))])
        · rw [gI_sI_ne (Or.inr (by decide)), gI_sI_eq]
        · rw [gI_sI_ne (Or.inr (by decide)), gI_sI_ne (Or.inr (by decide)), gI_sI_ne (Or.inr (by decide))]; exact a10
      rw [List.length_cons] at hB1
      refine ⟨hX2.kept g3 (by simp; omega) (by simp; omega) (by simp; omega) (by simp; omega), g2, hF1.kept (oS.tr g3) (by simp; omega), ⟨?_, fun y hy => s2 y (by simp [hy]), by omega, by omega, s5⟩, by omega, hkl⟩
      simpa [okS] using s1
    obtain ⟨m4, i1, i2, i3, i4, i5⟩ := cx_putE hD (r := 3) (by omega) (by omega) hEX3
    rw [show (3 : Int32) = nI 3 from rfl, bd_e i1, nI_add]
    have ho2 := popG_opn2 tl 3 (by omega)
    have ho1 : opn st = opn tl + 1 := by rw [← popG_opn2 st 1 (by omega), ez, so1]
    obtain ⟨m5, k5, de5, st5, out5, j1, j2, j3, j4, j5, j6, j7, j8⟩ := ih (i + 1) (k + 1) _ _ _ m4 i2 (by omega) (by omega)
    refine ⟨m5, k5, de5, st5, out5, j1, j2, ((((e3.tr oS).tr g3).tr i3).tr j3).mono (by simp), ?_, fun j hj => ?_, by omega, ?_, j8⟩
    · rw [j4, i5, g4]
      exact e5
    · rw [j5 j hj, i4 j hj, g3.I hpt, oS.I hpx, e4 j hj]
    · rw [← j7, drop_cons hc]
      refine pE_go ?_
      show stp1 st de sg out c.1 = _
      unfold stp1
      rw [h41, if_neg (by decide), if_pos ⟨rfl, h0m⟩, etl, edd]
