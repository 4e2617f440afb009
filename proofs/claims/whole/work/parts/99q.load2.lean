/-! ===== L2: load, in the class: the whole ===== -/
theorem cl_load {G : GG} {m : MM} {n pl ps tp tl lenT len : Nat} {BT B : Nat → Int32} {P : List Enm} {K : List Ko} {gc : Nat → Nat → Nat → Int32} {g : Sg} {he : Nat} {hs : List Nat} {ca : Nat} {fc : Int32} {F : Nat × Nat} (hA : ZA n pl ps tp tl) (h : ZC G m n pl ps tp tl lenT BT len B P K gc g he hs ca fc F) : (∀ r, pTx 9 [] [] (tks BT lenT 0) = (none, r) → ∃ m1, M_X10_load G n m = some (-10 - nI 1, m1) ∧ ZC G m1 n pl ps tp tl 0 (fun i => if i < 0 then BT i else -1) len B P K gc g he hs ca fc (1, plc r) ∧ OU m m1 (n + 216)) ∧ ∀ P' K' r, pTx 9 [] [] (tks BT lenT 0) = (some (P', K'), r) → ∃ m1 F1 gc1, GP BT P' (gvi 0 K') gc1 ∧ MF (NC BT gc1 K' P') F1 ∧ F1.1 < 100 ∧ OU m m1 (n + 216) ∧ (F1.1 ≠ 0 → M_X10_load G n m = some (-10 - nI F1.1, m1) ∧ ZC G m1 n pl ps tp tl 0 (fun i => if i < 0 then BT i else -1) len B P K gc g he hs ca fc F1) ∧ (F1.1 = 0 → M_X10_load G n m = some (nI P'.length, m1) ∧ ZC G m1 n ps pl tl tp 0 (fun _ => -1) lenT BT P' K' gc1 gz he [] ca fc F1) := by
  have h0 := h
  have hA0 := hA
  obtain ⟨h1, ⟨h2, h3, h4⟩, h5, h6, h7, h8, h9, h12, h14, h15⟩ := h
  obtain ⟨z1, z2, z3, z4, z5, z6⟩ := hA
  have w1 := z1
  have w2 := z2
  have w4 := z4
  unfold PN at w1 w2
  unfold TT at w4
  obtain ⟨mB, em⟩ : ∃ mB, sI (sI (sR (sI (sI m (n + 203) 0 0) (n + 203) 1 0) ps 5 (some tp)) ps 3 0) ps 4 0 = mB := ⟨_, rfl⟩
  have oB : Off m mB [n + 203, ps] := by
    rw [← em]
    exact Off.tr1 (Off.tr1 (Off.tr1 (Off.tr1 (Off.sI.mono (by simp)) (Off.sI.mono (by simp))) (Off.sR.mono (by simp))) (Off.sI.mono (by simp))) (Off.sI.mono (by simp))
  have RB : ∀ a j, ¬ (a = ps ∧ j = 5) → gR mB a j = gR m a j := fun a j hz => by
    rw [← em]
    show gR (sR (sI (sI m (n + 203) 0 0) (n + 203) 1 0) ps 5 (some tp)) a j = gR m a j
    rw [gR_sR, if_neg hz]
    rfl
  have lfB : LF m mB n ps := fun a x y => oB a (by simp; omega)
  have lrB : LRf m mB n ps := fun a j _ _ z => RB a j z
  have hSB : ST G mB n := by
    obtain ⟨s1, s2, s3, s4, s5, s6⟩ := h1.2.2.1
    exact ⟨by rw [RB _ _ (by omega)]; exact s1, by rw [RB _ _ (by omega)]; exact s2, by rw [RB _ _ (by omega)]; exact s3, s4, by rw [RB _ _ (by omega)]; exact s5, s6⟩
  have hLYB := ly_load z2 h1 hSB lrB
  have hpsB := hLYB.2.2.2.1 ps z2
  have r5 : gR mB ps 5 = some tp := by
    rw [← em]
    show gR (sR (sI (sI m (n + 203) 0 0) (n + 203) 1 0) ps 5 (some tp)) ps 5 = _
    rw [gR_sR, if_pos ⟨rfl, rfl⟩]
  have TPk : ∀ {mX : MM}, LF m mX n ps → LRf m mX n ps → TP G mX tp lenT BT := fun {mX} o o2 => by
    obtain ⟨t1, t2, t3, t4, t5, t6⟩ := h6
    exact ⟨by rw [o2 _ _ (by omega) (by omega) (by omega)]; exact t1, t2, (congrFun (o _ (by omega) (by omega)).1 _).trans t3, t4, fun i hi => by rw [show gI mX (tp + 1) i = gI m (tp + 1) i from congrFun (o _ (by omega) (by omega)).1 i]; exact t5 i hi, t6⟩
  have g3 : gI mB ps 3 = nI 0 := by rw [← em, gI_sI_ne (Or.inr (by omega)), gI_sI_eq]; rfl
  have g4 : gI mB ps 4 = nI 0 := by rw [← em, gI_sI_eq]; rfl
  have gf0 : gI mB (n + 203) 0 = nI 0 := by
    rw [← em, gI_sI_ne (Or.inl (by omega)), gI_sI_ne (Or.inl (by omega))]
    show gI (sI (sI m (n + 203) 0 0) (n + 203) 1 0) (n + 203) 0 = nI 0
    rw [gI_sI_ne (Or.inr (by omega)), gI_sI_eq]; rfl
  have gf1 : gI mB (n + 203) 1 = nI 0 := by
    rw [← em, gI_sI_ne (Or.inl (by omega)), gI_sI_ne (Or.inl (by omega))]
    show gI (sI (sI m (n + 203) 0 0) (n + 203) 1 0) (n + 203) 1 = nI 0
    rw [gI_sI_eq]; rfl
  have uB : OU m mB (n + 216) := fun a ha => oB a (by simp; omega)
  -- the call up to the reading
  have pre : ∀ {X : Option (Int32 × MM)}, (bd (M_X5_readText G (n + 204) ps (n + 203) mB) fun r_17 m_18 => if r_17 = true then nb (gR m_18 n 5) fun b_19 => nb (gR m_18 n 1) fun b_20 => nb (gR m_18 n 3) fun b_21 => bd (M_X0_bind G b_19 b_20 b_21 m_18) fun _ m_23 => B_X10_load_51 G n m_23 else B_X10_load_51 G n m_18) = X → M_X10_load G n m = X := fun {X} hX => by
    unfold M_X10_load M_X3_forget M_X6_begin
    rw [nb_e h1.1.1, bd_e (r := ()) (m1 := sI (sI m (n + 203) 0 0) (n + 203) 1 0) rfl, nb_e (show gR (sI (sI m (n + 203) 0 0) (n + 203) 1 0) n 1 = some ps from h3), nb_e (show gR (sI (sI m (n + 203) 0 0) (n + 203) 1 0) n 2 = some tp from h4), bd_e (r := ()) (m1 := mB) (by rw [em]), nb_e hLYB.1.2.1, nb_e (show gR mB n 1 = some ps by rw [RB _ _ (by omega)]; exact h3), nb_e hLYB.1.1]
    exact hX
  obtain ⟨c1, c2⟩ := cp_readText z2 hSB hpsB.1 hpsB.2.1 hpsB.2.2 g3 g4 r5 (TPk lfB lrB) z4 gf0 gf1
  have ow : ∀ {mC : MM}, OW mB mC n ps → LF mB mC n ps := fun o a x y => o a x (by omega)
  have rz : ∀ {mC : MM}, RZ mB mC n → LRf mB mC n ps := fun o a j x _ _ => o a j x
  constructor
  · intro r hr
    obtain ⟨mC, q1, q2, q3, q4, q5, q6⟩ := c2 r hr
    have hZ := zc_load (F' := (1, plc r)) hA0 h0 q6 (lfB.tr (ow q4)) (lrB.tr (rz q5)) q2 q3
    obtain ⟨m1, k1, k2, k3⟩ := cl_bad hA0 hZ (show (1 : Nat) ≠ 0 by decide) (show (1 : Nat) < 100 by decide)
    refine ⟨m1, ?_, k2, uB.tr (OU.tr (fun a ha => q4 a (by omega) (by omega)) k3)⟩
    apply pre
    rw [bd_e q1, if_neg (by decide), k1]
  · intro P' K' r hr
    obtain ⟨mC, k1, q1, q2, q3, q4, q5⟩ := c1 P' K' r hr
    have lfC := lfB.tr (ow q3)
    have lrC := lrB.tr (rz q4)
    have hTC := TPk lfC lrC
    have hBy : By BT lenT := fun i hi => h6.byte hi
    have hFI := fi_text h6.tx hBy hr
    obtain ⟨mD, F1, gc1, b1, b2, b3, b4, b5, b6, b7⟩ := cb_bind z2 z4 q2 (by rw [q4 _ _ (by omega)]; exact r5) hTC hFI (t_text h6.tx hBy hr)
    have lfD : LF mC mD n ps := fun a x y => ⟨b6.1 a (by omega) (by omega) (fun e he => by omega), b6.2.1 a (by omega) (by omega), b6.2.2 a (by omega)⟩
    have lrD : LRf mC mD n ps := fun a j _ y _ => congrFun (b6.2.2 a y) j
    have hSD : ST G mD n := by
      have R : ∀ a j, a ≠ n + 209 → gR mD a j = gR mC a j := fun a j y => congrFun (b6.2.2 a y) j
      obtain ⟨s1, s2, s3, s4, s5, s6⟩ := q5
      exact ⟨by rw [R _ _ (by omega)]; exact s1, by rw [R _ _ (by omega)]; exact s2, by rw [R _ _ (by omega)]; exact s3, s4, by rw [R _ _ (by omega)]; exact s5, s6⟩
    have hZ := zc_load (F' := F1) hA0 h0 hSD (lfC.tr lfD) (lrC.tr lrD) b4.1 b4.2.1
    have uD : OU m mD (n + 216) := uB.tr (OU.tr (fun a ha => q3 a (by omega) (by omega)) (fun a ha => lfD a (by omega) (by omega)))
    have pre2 : ∀ {X : Option (Int32 × MM)}, B_X10_load_51 G n mD = X → M_X10_load G n m = X := fun {X} hX => by
      apply pre
      rw [bd_e q1, if_pos rfl, nb_e (show gR mC n 5 = some (n + 209) by rw [lrC _ _ (by omega) (by omega) (by omega)]; exact h1.1.2.2.1), nb_e (show gR mC n 1 = some ps by rw [lrC _ _ (by omega) (by omega) (by omega)]; exact h3), nb_e (show gR mC n 3 = some (n + 203) by rw [lrC _ _ (by omega) (by omega) (by omega)]; exact h1.1.1), bd_e b1]
      exact hX
    by_cases w : F1.1 = 0
    · obtain ⟨m1, x1, x2, x3⟩ := cl_good hA0 hZ w b2 b7
      exact ⟨m1, F1, gc1, b3, b5, b4.2.2.1, uD.tr x3, fun z => absurd w z, fun _ => ⟨pre2 x1, x2⟩⟩
    · obtain ⟨m1, x1, x2, x3⟩ := cl_bad hA0 hZ w b4.2.2.1
      exact ⟨m1, F1, gc1, b3, b5, b4.2.2.1, uD.tr x3, fun _ => ⟨pre2 x1, x2⟩, fun z => absurd z w⟩
