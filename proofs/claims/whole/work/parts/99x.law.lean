/-! ===== L2: the law's loop ===== -/
theorem lw_op {G : GG} {n : Nat} {m : MM} {X Y : MM → Option (Int32 × MM)} {F : MM → Option (Bool × MM)} (h : BOTH G n m X Y) (hF : ∀ m2, INV G m2 n → ∃ m9, F m2 = some (true, m9)) : ∃ m9, (bd (X m) fun r m2 => bd (Y m2) fun r2 m4 => if r = r2 then F m4 else some (false, m4)) = some (true, m9) := by
  obtain ⟨v, m1, m2, e1, e2, i2⟩ := h
  obtain ⟨m9, e9⟩ := hF m2 i2
  refine ⟨m9, ?_⟩
  rw [bd_e e1]
  rw [bd_e e2, if_pos rfl]
  exact e9
theorem lw_small : ∀ L, L < 6 → ∀ i, i < 6 → nI L - 6 < nI i := by decide
set_option maxRecDepth 20000 in
set_option maxHeartbeats 4000000 in
theorem lw_go {G : GG} {n L : Nat} {xs : Nat → Int32} (hL : L ≤ 3072) : ∀ (fu i : Nat) (m : MM), INV G m n → i ≤ L → L < fu + i → ∃ m9, B_L_law_18 G xs L fu n (n + 216) (nI i) m = some (true, m9)
  | 0, i, m, h, hi, hf => absurd hf (by omega)
  | fu + 1, i, m, h, hi, hf => by
    unfold B_L_law_18
    by_cases c : L < i + 6
    · refine ⟨m, ?_⟩
      rw [if_pos ?_]
      by_cases c6 : L < 6
      · exact lw_small L c6 i (by omega)
      · rw [show (6 : Int32) = nI 6 from rfl, pk_sub (by omega)]
        exact (nI_ltI (by omega) (by omega)).mpr (by omega)
    · have n6 : ¬ (nI L - 6 < nI i) := by
        rw [show (6 : Int32) = nI 6 from rfl, pk_sub (by omega)]
        exact fun z => absurd ((nI_ltI (by omega) (by omega)).mp z) (by omega)
      rw [if_neg n6]
      have v0 : vp_in (nI i) L := vp_in_nI (by omega) (by omega)
      have v1 : vp_in (nI i + 1) L := by rw [show (1 : Int32) = nI 1 from rfl, nI_add]; exact vp_in_nI (by omega) (by omega)
      have v2 : vp_in (nI i + 2) L := by rw [show (2 : Int32) = nI 2 from rfl, nI_add]; exact vp_in_nI (by omega) (by omega)
      have v3 : vp_in (nI i + 3) L := by rw [show (3 : Int32) = nI 3 from rfl, nI_add]; exact vp_in_nI (by omega) (by omega)
      have v4 : vp_in (nI i + 4) L := by rw [show (4 : Int32) = nI 4 from rfl, nI_add]; exact vp_in_nI (by omega) (by omega)
      have v5 : vp_in (nI i + 5) L := by rw [show (5 : Int32) = nI 5 from rfl, nI_add]; exact vp_in_nI (by omega) (by omega)
      have r : ∀ m2, INV G m2 n → ∃ m9, B_L_law_18 G xs L fu n (n + 216) (nI i + 6) m2 = some (true, m9) := fun m2 i2 => by
        rw [show (6 : Int32) = nI 6 from rfl, nI_add]
        exact lw_go hL fu (i + 6) m2 i2 (by omega) (by omega)
      simp only [ib_e v0, ib_e v1, ib_e v2, ib_e v3, ib_e v4, ib_e v5]
      by_cases c0 : xs (nI i).toNatClampNeg &&& 31 = 0
      · rw [if_pos c0]
        exact lw_op (op_feed h _ _ _ _ _) r
      rw [if_neg c0]
      by_cases c1 : xs (nI i).toNatClampNeg &&& 31 = 1
      · rw [if_pos c1]
        exact lw_op (op_end h _) r
      rw [if_neg c1]
      by_cases c2 : xs (nI i).toNatClampNeg &&& 31 = 2
      · rw [if_pos c2]
        exact lw_op (op_load h) r
      rw [if_neg c2]
      by_cases c3 : xs (nI i).toNatClampNeg &&& 31 = 3
      · rw [if_pos c3]
        exact lw_op (op_fault h _) r
      rw [if_neg c3]
      by_cases c4 : xs (nI i).toNatClampNeg &&& 31 = 4
      · rw [if_pos c4]
        exact lw_op (op_cause h) r
      rw [if_neg c4]
      by_cases c5 : xs (nI i).toNatClampNeg &&& 31 = 5
      · rw [if_pos c5]
        exact lw_op (op_told h _ _) r
      rw [if_neg c5]
      by_cases c6 : xs (nI i).toNatClampNeg &&& 31 = 6
      · rw [if_pos c6]
        exact lw_op (op_hasBody h _ _) r
      rw [if_neg c6]
      by_cases c7 : xs (nI i).toNatClampNeg &&& 31 = 7
      · rw [if_pos c7]
        exact lw_op (op_value h _ _) r
      rw [if_neg c7]
      by_cases c8 : xs (nI i).toNatClampNeg &&& 31 = 8
      · rw [if_pos c8]
        exact lw_op (op_call h _ _ _) r
      rw [if_neg c8]
      by_cases c9 : xs (nI i).toNatClampNeg &&& 31 = 9
      · rw [if_pos c9]
        exact lw_op (op_field h _ _) r
      rw [if_neg c9]
      by_cases c10 : xs (nI i).toNatClampNeg &&& 31 = 10
      · rw [if_pos c10]
        exact lw_op (op_compare h _ _ _ _) r
      rw [if_neg c10]
      by_cases c11 : xs (nI i).toNatClampNeg &&& 31 = 11
      · rw [if_pos c11]
        exact lw_op (op_values h _) r
      rw [if_neg c11]
      by_cases c12 : xs (nI i).toNatClampNeg &&& 31 = 12
      · rw [if_pos c12]
        exact lw_op (op_swap h _ _) r
      rw [if_neg c12]
      by_cases c13 : xs (nI i).toNatClampNeg &&& 31 = 13
      · rw [if_pos c13]
        exact lw_op (op_hand h _) r
      rw [if_neg c13]
      by_cases c14 : xs (nI i).toNatClampNeg &&& 31 = 14
      · rw [if_pos c14]
        exact lw_op (op_named h _) r
      rw [if_neg c14]
      by_cases c15 : xs (nI i).toNatClampNeg &&& 31 = 15
      · rw [if_pos c15]
        exact lw_op (op_trace h _) r
      rw [if_neg c15]
      by_cases c16 : xs (nI i).toNatClampNeg &&& 31 = 16
      · rw [if_pos c16]
        exact lw_op (op_count h _) r
      rw [if_neg c16]
      by_cases c17 : xs (nI i).toNatClampNeg &&& 31 = 17
      · rw [if_pos c17]
        exact lw_op (op_clear h) r
      rw [if_neg c17]
      exact r m h
theorem law_pure (xs : Nat → Int32) (L n : Nat) (hL : L ≤ 3072) : ∃ m9, M_L_law xs L n = some (true, m9) := by
  obtain ⟨g1, m1, g2, m2, e1, l1, e2, h⟩ := inv_0 n
  unfold M_L_law
  rw [bg_e e1, bg_e e2, l1]
  exact lw_go hL FU 0 m2 h (by omega) (by unfold FU; omega)
