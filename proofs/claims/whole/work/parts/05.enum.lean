abbrev rmX1_begin : Room := { frames := 0, cells := 0, slots := 0, locals := 0 }
def M_X1_begin (G : GG) (x0 : Nat) (m : MM) : Option (Unit × MM) :=
  some ((), sI (sI (sI (sI (sI (sI (sI (sI m x0 11 0) x0 12 0) x0 13 0) x0 14 0) x0 15 0) x0 16 (-1)) x0 17 0) x0 18 0)
set_option maxRecDepth 100000 in
set_option maxHeartbeats 4000000 in
theorem cM_X1_begin {p : Program} {l : Launch} {e : Env} {s : State} {mth : MethodId} {args : Array Value} {below : List Frame} {meth : Method} {c : Code} {E : EE} {G : GG} {r9 : Unit} {m9 : MM} (C : Cx E G p s mth args meth c cX1_begin RX1 "begin" 1 none) {x0 : Nat} {m : MM} (hM : M_X1_begin G x0 m = some (r9, m9)) (tx0 : Ty E G x0 1) : ∀ (H : Heap) (locs : List Loc), Hp E G m s H locs → ∀ ls : Array Slot, lv_has ls 1 [(0, .ref x0)] → W p l e rmX1_begin s mth args below meth c H locs 0 0 (MQ below (cQv E G m9) args s 0 0 (fun q => E.2.2.1 ≤ q)) (F0 mth 0 ls []) := by
  intro H locs h ls hl
  unfold M_X1_begin at hM
  refine lv_aload_n C.1 C.2.1 dX1_begin_0 rfl (lv_at hl 0 rfl) ?_
  refine lv_iconst (v := 0) C.1 C.2.1 dX1_begin_1 (by decide) ?_
  refine pt_1_11 C h tx0 fl_X1_46 dX1_begin_2 (fun H locs h => ?_)
  refine lv_aload_n C.1 C.2.1 dX1_begin_5 rfl (lv_at hl 0 rfl) ?_
  refine lv_iconst (v := 0) C.1 C.2.1 dX1_begin_6 (by decide) ?_
  refine pt_1_12 C h tx0 fl_X1_50 dX1_begin_7 (fun H locs h => ?_)
  refine lv_aload_n C.1 C.2.1 dX1_begin_10 rfl (lv_at hl 0 rfl) ?_
  refine lv_iconst (v := 0) C.1 C.2.1 dX1_begin_11 (by decide) ?_
  refine pt_1_13 C h tx0 fl_X1_53 dX1_begin_12 (fun H locs h => ?_)
  refine lv_aload_n C.1 C.2.1 dX1_begin_15 rfl (lv_at hl 0 rfl) ?_
  refine lv_iconst (v := 0) C.1 C.2.1 dX1_begin_16 (by decide) ?_
  refine pt_1_14 C h tx0 fl_X1_56 dX1_begin_17 (fun H locs h => ?_)
  refine lv_aload_n C.1 C.2.1 dX1_begin_20 rfl (lv_at hl 0 rfl) ?_
  refine lv_iconst (v := 0) C.1 C.2.1 dX1_begin_21 (by decide) ?_
  refine pt_1_15 C h tx0 fl_X1_59 dX1_begin_22 (fun H locs h => ?_)
  refine lv_aload_n C.1 C.2.1 dX1_begin_25 rfl (lv_at hl 0 rfl) ?_
  refine lv_iconst (v := (-1)) C.1 C.2.1 dX1_begin_26 (by decide) ?_
  refine pt_1_16 C h tx0 fl_X1_62 dX1_begin_27 (fun H locs h => ?_)
  refine lv_aload_n C.1 C.2.1 dX1_begin_30 rfl (lv_at hl 0 rfl) ?_
  refine lv_iconst (v := 0) C.1 C.2.1 dX1_begin_31 (by decide) ?_
  refine pt_1_17 C h tx0 fl_X1_65 dX1_begin_32 (fun H locs h => ?_)
  refine lv_aload_n C.1 C.2.1 dX1_begin_35 rfl (lv_at hl 0 rfl) ?_
  refine lv_iconst (v := 0) C.1 C.2.1 dX1_begin_36 (by decide) ?_
  refine pt_1_18 C h tx0 fl_X1_68 dX1_begin_37 (fun H locs h => ?_)
  obtain ⟨rfl, rfl⟩ := so_inj hM
  exact h_vret C h dX1_begin_40
theorem cy_X1_begin : Cy yX1_begin cX1_begin 1 none 0 := ⟨cd_yX1_begin, ii_X1, by decide, by decide, by decide +kernel⟩
set_option maxRecDepth 100000 in
theorem c_X1_begin {l : Launch} {E : EE} {G : GG} {x0 : Nat} {m m9 : MM} {r9 : Unit} (hM : M_X1_begin G x0 m = some (r9, m9)) (tx0 : Ty E G x0 1) : Mc l E yX1_begin cX1_begin 1 none rmX1_begin [.ref x0] G m (cQv E G m9) := M_of (by decide) (Nat.le_of_ble_eq_true rfl) (fun p e s mth below meth c C h ls hl => cM_X1_begin C hM tx0 _ _ h ls hl)
abbrev rmX1_addName : Room := { frames := 0, cells := 0, slots := 0, locals := 0 }
def M_X1_addName (G : GG) (x0 : Nat) (x1 : Int32) (m : MM) : Option (Unit × MM) :=
  nb (gR m x0 10) fun b_1 =>
    if (nI (G.2.2 b_1)) ≤ (gI m x0 11) then
      some ((), m)
    else
      ib (gI m x0 11) (G.2.2 b_1) <|
        some ((), sI (sI m b_1 ((gI m x0 11).toNatClampNeg) x1) x0 11 ((gI (sI m b_1 ((gI m x0 11).toNatClampNeg) x1) x0 11) + 1))
set_option maxRecDepth 100000 in
set_option maxHeartbeats 4000000 in
theorem cM_X1_addName {p : Program} {l : Launch} {e : Env} {s : State} {mth : MethodId} {args : Array Value} {below : List Frame} {meth : Method} {c : Code} {E : EE} {G : GG} {r9 : Unit} {m9 : MM} (C : Cx E G p s mth args meth c cX1_addName RX1 "addName" 2 none) {x0 : Nat} {x1 : Int32} {m : MM} (hM : M_X1_addName G x0 x1 m = some (r9, m9)) (tx0 : Ty E G x0 1) : ∀ (H : Heap) (locs : List Loc), Hp E G m s H locs → ∀ ls : Array Slot, lv_has ls 2 [(0, .ref x0), (1, .int x1)] → W p l e rmX1_addName s mth args below meth c H locs 0 0 (MQ below (cQv E G m9) args s 0 0 (fun q => E.2.2.1 ≤ q)) (F0 mth 0 ls []) := by
  intro H locs h ls hl
  unfold M_X1_addName at hM
  refine lv_aload_n C.1 C.2.1 dX1_addName_0 rfl (lv_at hl 0 rfl) ?_
  refine gt_1_11 C h tx0 fl_X1_46 dX1_addName_1 ?_
  refine lv_aload_n C.1 C.2.1 dX1_addName_4 rfl (lv_at hl 0 rfl) ?_
  refine gt_1_10 C h tx0 fl_X1_43 dX1_addName_5 ?_
  obtain ⟨b_1, hb_1, hM⟩ := nb_some hM
  have tb_1 : Ty E G b_1 12 := (fun b hb => tyf h tx0 hb) _ hb_1
  refine st_ref hb_1 ?_
  refine h_alen C h 12 (by decide) (by decide) tb_1 dX1_addName_8 ?_
  refine lv_icmp_ge (tgt := 32) C.1 C.2.1 dX1_addName_9 (by decide) (fun q => ?_) (fun q => ?_)
  · have hM := ite_t q hM
    obtain ⟨rfl, rfl⟩ := so_inj hM
    exact h_vret C h dX1_addName_32
  · have hM := ite_f q hM
    refine lv_aload_n C.1 C.2.1 dX1_addName_12 rfl (lv_at hl 0 rfl) ?_
    refine gt_1_10 C h tx0 fl_X1_43 dX1_addName_13 ?_
    refine st_ref hb_1 ?_
    refine lv_aload_n C.1 C.2.1 dX1_addName_16 rfl (lv_at hl 0 rfl) ?_
    refine gt_1_11 C h tx0 fl_X1_46 dX1_addName_17 ?_
    refine lv_iload_n C.1 C.2.1 dX1_addName_20 rfl (lv_at hl 1 rfl) ?_
    obtain ⟨hi, hM⟩ := ib_some hM
    refine h_iast C h tb_1 hi dX1_addName_21 (fun H locs h => ?_)
    refine lv_aload_n C.1 C.2.1 dX1_addName_22 rfl (lv_at hl 0 rfl) ?_
    refine lv_dup C.1 C.2.1 dX1_addName_23 rfl ?_
    refine gt_1_11 C h tx0 fl_X1_46 dX1_addName_24 ?_
    refine lv_iconst (v := 1) C.1 C.2.1 dX1_addName_27 (by decide) ?_
    refine lv_iadd C.1 C.2.1 dX1_addName_28 ?_
    refine pt_1_11 C h tx0 fl_X1_46 dX1_addName_29 (fun H locs h => ?_)
    obtain ⟨rfl, rfl⟩ := so_inj hM
    exact h_vret C h dX1_addName_32
theorem cy_X1_addName : Cy yX1_addName cX1_addName 2 none 1 := ⟨cd_yX1_addName, ii_X1, by decide, by decide, by decide +kernel⟩
set_option maxRecDepth 100000 in
theorem c_X1_addName {l : Launch} {E : EE} {G : GG} {x0 : Nat} {x1 : Int32} {m m9 : MM} {r9 : Unit} (hM : M_X1_addName G x0 x1 m = some (r9, m9)) (tx0 : Ty E G x0 1) : Mc l E yX1_addName cX1_addName 2 none rmX1_addName [.ref x0, .int x1] G m (cQv E G m9) := M_of (by decide) (Nat.le_of_ble_eq_true rfl) (fun p e s mth below meth c C h ls hl => cM_X1_addName C hM tx0 _ _ h ls hl)
abbrev rmX1_addConstant : Room := { frames := 1, cells := 0, slots := 0, locals := 21 }
def B_X1_addConstant_58 (G : GG) : Nat → Nat → Int32 → MM → Option (Bool × MM)
  | 0, _, _, _ => none
  | fu + 1, x0, x2, m =>
    if 8 ≤ x2 then
      some (true, sI m x0 12 ((gI m x0 12) + 1))
    else
      nb (gR m x0 3) fun b_1 =>
        ib (((gI m x0 12) * 8) + x2) (G.2.2 b_1) <|
          B_X1_addConstant_58 G fu x0 (x2 + 1) (sI m b_1 ((((gI m x0 12) * 8) + x2).toNatClampNeg) (-1))
set_option maxRecDepth 100000 in
set_option maxHeartbeats 4000000 in
theorem cB_X1_addConstant_58 {p : Program} {l : Launch} {e : Env} {s : State} {mth : MethodId} {args : Array Value} {below : List Frame} {meth : Method} {c : Code} {E : EE} {G : GG} {r9 : Bool} {m9 : MM} (C : Cx E G p s mth args meth c cX1_addConstant RX1 "addConstant" 3 (some .boolean)) : ∀ (fu : Nat) (x0 : Nat) (x2 : Int32) (m : MM), B_X1_addConstant_58 G fu x0 x2 m = some (r9, m9) → (Ty E G x0 1) → ∀ (H : Heap) (locs : List Loc), Hp E G m s H locs → ∀ ls : Array Slot, lv_has ls 3 [(0, .ref x0), (2, .int x2)] → W p l e rmX1_addConstant s mth args below meth c H locs 0 0 (MQ below (cQi E (bz r9) G m9) args s 0 0 (fun q => E.2.2.1 ≤ q)) (F0 mth 58 ls []) := by
  intro fu
  induction fu with
  | zero =>
    intro x0 x2 m hM
    rw [B_X1_addConstant_58] at hM
    cases hM
  | succ fu ih =>
    intro x0 x2 m hM tx0 H locs h ls hl
    rw [B_X1_addConstant_58] at hM
    refine lv_iload_n C.1 C.2.1 dX1_addConstant_58 rfl (lv_at hl 1 rfl) ?_
    refine lv_bipush (v := 8) C.1 C.2.1 dX1_addConstant_59 (by decide) ?_
    refine lv_icmp_ge (tgt := 85) C.1 C.2.1 dX1_addConstant_61 (by decide) (fun q => ?_) (fun q => ?_)
    · have hM := ite_t q hM
      refine lv_aload_n C.1 C.2.1 dX1_addConstant_85 rfl (lv_at hl 0 rfl) ?_
      refine lv_dup C.1 C.2.1 dX1_addConstant_86 rfl ?_
      refine gt_1_12 C h tx0 fl_X1_50 dX1_addConstant_87 ?_
      refine lv_iconst (v := 1) C.1 C.2.1 dX1_addConstant_90 (by decide) ?_
      refine lv_iadd C.1 C.2.1 dX1_addConstant_91 ?_
      refine pt_1_12 C h tx0 fl_X1_50 dX1_addConstant_92 (fun H locs h => ?_)
      refine lv_iconst (v := 1) C.1 C.2.1 dX1_addConstant_95 (by decide) ?_
      obtain ⟨rfl, rfl⟩ := so_inj hM
      exact h_zret C h (bz_ok _).1 dX1_addConstant_96
    · have hM := ite_f q hM
      refine lv_aload_n C.1 C.2.1 dX1_addConstant_64 rfl (lv_at hl 0 rfl) ?_
      refine gt_1_3 C h tx0 fl_X1_22 dX1_addConstant_65 ?_
      obtain ⟨b_1, hb_1, hM⟩ := nb_some hM
      have tb_1 : Ty E G b_1 12 := (fun b hb => tyf h tx0 hb) _ hb_1
      refine st_ref hb_1 ?_
      refine lv_aload_n C.1 C.2.1 dX1_addConstant_68 rfl (lv_at hl 0 rfl) ?_
      refine gt_1_12 C h tx0 fl_X1_50 dX1_addConstant_69 ?_
      refine lv_bipush (v := 8) C.1 C.2.1 dX1_addConstant_72 (by decide) ?_
      refine lv_imul C.1 C.2.1 dX1_addConstant_74 ?_
      refine lv_iload_n C.1 C.2.1 dX1_addConstant_75 rfl (lv_at hl 1 rfl) ?_
      refine lv_iadd C.1 C.2.1 dX1_addConstant_76 ?_
      refine lv_iconst (v := (-1)) C.1 C.2.1 dX1_addConstant_77 (by decide) ?_
      obtain ⟨hi, hM⟩ := ib_some hM
      refine h_iast C h tb_1 hi dX1_addConstant_78 (fun H locs h => ?_)
      refine lv_iinc (v := x2 + 1) (lv' := [(2, .int (x2 + 1)), (0, .ref x0)]) C.1 C.2.1 dX1_addConstant_79 hl (k := 1) rfl rfl (by decide) rfl (fun ls hl => ?_)
      refine lv_goto (tgt := 58) C.1 C.2.1 dX1_addConstant_82 (by decide) ?_
      exact ih _ _ _ hM tx0 _ _ h ls (lv_sub hl [1, 0] rfl)
def M_X1_addConstant (G : GG) (x0 : Nat) (x1 : Int32) (m : MM) : Option (Bool × MM) :=
  if (gI m x0 12) < 12 then
    bd (M_X1_addName G x0 x1 m) fun _ m_3 =>
      nb (gR m_3 x0 0) fun b_4 =>
        ib (gI m_3 x0 12) (G.2.2 b_4) <|
          nb (gR (sI m_3 b_4 ((gI m_3 x0 12).toNatClampNeg) x1) x0 1) fun b_5 =>
            ib (gI (sI m_3 b_4 ((gI m_3 x0 12).toNatClampNeg) x1) x0 12) (G.2.2 b_5) <|
              nb (gR (sI (sI m_3 b_4 ((gI m_3 x0 12).toNatClampNeg) x1) b_5 ((gI (sI m_3 b_4 ((gI m_3 x0 12).toNatClampNeg) x1) x0 12).toNatClampNeg) 0) x0 2) fun b_6 =>
                ib (gI (sI (sI m_3 b_4 ((gI m_3 x0 12).toNatClampNeg) x1) b_5 ((gI (sI m_3 b_4 ((gI m_3 x0 12).toNatClampNeg) x1) x0 12).toNatClampNeg) 0) x0 12) (G.2.2 b_6) <|
                  nb (gR (sI (sI (sI m_3 b_4 ((gI m_3 x0 12).toNatClampNeg) x1) b_5 ((gI (sI m_3 b_4 ((gI m_3 x0 12).toNatClampNeg) x1) x0 12).toNatClampNeg) 0) b_6 ((gI (sI (sI m_3 b_4 ((gI m_3 x0 12).toNatClampNeg) x1) b_5 ((gI (sI m_3 b_4 ((gI m_3 x0 12).toNatClampNeg) x1) x0 12).toNatClampNeg) 0) x0 12).toNatClampNeg) (vp_nar .boolean 0)) x0 9) fun b_7 =>
                    ib (gI (sI (sI (sI m_3 b_4 ((gI m_3 x0 12).toNatClampNeg) x1) b_5 ((gI (sI m_3 b_4 ((gI m_3 x0 12).toNatClampNeg) x1) x0 12).toNatClampNeg) 0) b_6 ((gI (sI (sI m_3 b_4 ((gI m_3 x0 12).toNatClampNeg) x1) b_5 ((gI (sI m_3 b_4 ((gI m_3 x0 12).toNatClampNeg) x1) x0 12).toNatClampNeg) 0) x0 12).toNatClampNeg) (vp_nar .boolean 0)) x0 12) (G.2.2 b_7) <|
                      B_X1_addConstant_58 G FU x0 0 (sI (sI (sI (sI m_3 b_4 ((gI m_3 x0 12).toNatClampNeg) x1) b_5 ((gI (sI m_3 b_4 ((gI m_3 x0 12).toNatClampNeg) x1) x0 12).toNatClampNeg) 0) b_6 ((gI (sI (sI m_3 b_4 ((gI m_3 x0 12).toNatClampNeg) x1) b_5 ((gI (sI m_3 b_4 ((gI m_3 x0 12).toNatClampNeg) x1) x0 12).toNatClampNeg) 0) x0 12).toNatClampNeg) (vp_nar .boolean 0)) b_7 ((gI (sI (sI (sI m_3 b_4 ((gI m_3 x0 12).toNatClampNeg) x1) b_5 ((gI (sI m_3 b_4 ((gI m_3 x0 12).toNatClampNeg) x1) x0 12).toNatClampNeg) 0) b_6 ((gI (sI (sI m_3 b_4 ((gI m_3 x0 12).toNatClampNeg) x1) b_5 ((gI (sI m_3 b_4 ((gI m_3 x0 12).toNatClampNeg) x1) x0 12).toNatClampNeg) 0) x0 12).toNatClampNeg) (vp_nar .boolean 0)) x0 12).toNatClampNeg) 0)
  else
    some (false, m)
set_option maxRecDepth 100000 in
set_option maxHeartbeats 4000000 in
theorem cM_X1_addConstant {p : Program} {l : Launch} {e : Env} {s : State} {mth : MethodId} {args : Array Value} {below : List Frame} {meth : Method} {c : Code} {E : EE} {G : GG} {r9 : Bool} {m9 : MM} (C : Cx E G p s mth args meth c cX1_addConstant RX1 "addConstant" 3 (some .boolean)) {x0 : Nat} {x1 : Int32} {m : MM} (hM : M_X1_addConstant G x0 x1 m = some (r9, m9)) (tx0 : Ty E G x0 1) : ∀ (H : Heap) (locs : List Loc), Hp E G m s H locs → ∀ ls : Array Slot, lv_has ls 3 [(0, .ref x0), (1, .int x1)] → W p l e rmX1_addConstant s mth args below meth c H locs 0 0 (MQ below (cQi E (bz r9) G m9) args s 0 0 (fun q => E.2.2.1 ≤ q)) (F0 mth 0 ls []) := by
  intro H locs h ls hl
  unfold M_X1_addConstant at hM
  refine lv_aload_n C.1 C.2.1 dX1_addConstant_0 rfl (lv_at hl 0 rfl) ?_
  refine gt_1_12 C h tx0 fl_X1_50 dX1_addConstant_1 ?_
  refine lv_bipush (v := 12) C.1 C.2.1 dX1_addConstant_4 (by decide) ?_
  refine lv_icmp_lt (tgt := 11) C.1 C.2.1 dX1_addConstant_6 (by decide) (fun q => ?_) (fun q => ?_)
  · have hM := ite_t q hM
    refine lv_aload_n C.1 C.2.1 dX1_addConstant_11 rfl (lv_at hl 0 rfl) ?_
    refine lv_iload_n C.1 C.2.1 dX1_addConstant_12 rfl (lv_at hl 1 rfl) ?_
    obtain ⟨r_2, m_3, hc_2, hM⟩ := bd_some hM
    refine h_callVv C h (As := [.int x1]) (rest := []) m_3 (c_X1_addName hc_2 tx0) 1 rfl (by decide) tx0 im_yX1_addName se_yX1_addName cy_X1_addName rfl ml_X1_71 ⟨by decide, by decide⟩ ⟨Nat.zero_le _, Nat.zero_le _⟩ hl.1 rfl (Nat.le_of_ble_eq_true rfl) dX1_addConstant_13 (fun H locs h => ?_)
    refine lv_aload_n C.1 C.2.1 dX1_addConstant_16 rfl (lv_at hl 0 rfl) ?_
    refine gt_1_0 C h tx0 fl_X1_9 dX1_addConstant_17 ?_
    obtain ⟨b_4, hb_4, hM⟩ := nb_some hM
    have tb_4 : Ty E G b_4 12 := (fun b hb => tyf h tx0 hb) _ hb_4
    refine st_ref hb_4 ?_
    refine lv_aload_n C.1 C.2.1 dX1_addConstant_20 rfl (lv_at hl 0 rfl) ?_
    refine gt_1_12 C h tx0 fl_X1_50 dX1_addConstant_21 ?_
    refine lv_iload_n C.1 C.2.1 dX1_addConstant_24 rfl (lv_at hl 1 rfl) ?_
    obtain ⟨hi, hM⟩ := ib_some hM
    refine h_iast C h tb_4 hi dX1_addConstant_25 (fun H locs h => ?_)
    refine lv_aload_n C.1 C.2.1 dX1_addConstant_26 rfl (lv_at hl 0 rfl) ?_
    refine gt_1_1 C h tx0 fl_X1_15 dX1_addConstant_27 ?_
    obtain ⟨b_5, hb_5, hM⟩ := nb_some hM
    have tb_5 : Ty E G b_5 12 := (fun b hb => tyf h tx0 hb) _ hb_5
    refine st_ref hb_5 ?_
    refine lv_aload_n C.1 C.2.1 dX1_addConstant_30 rfl (lv_at hl 0 rfl) ?_
    refine gt_1_12 C h tx0 fl_X1_50 dX1_addConstant_31 ?_
    refine lv_iconst (v := 0) C.1 C.2.1 dX1_addConstant_34 (by decide) ?_
    obtain ⟨hi, hM⟩ := ib_some hM
    refine h_iast C h tb_5 hi dX1_addConstant_35 (fun H locs h => ?_)
    refine lv_aload_n C.1 C.2.1 dX1_addConstant_36 rfl (lv_at hl 0 rfl) ?_
    refine gt_1_2 C h tx0 fl_X1_18 dX1_addConstant_37 ?_
    obtain ⟨b_6, hb_6, hM⟩ := nb_some hM
    have tb_6 : Ty E G b_6 14 := (fun b hb => tyf h tx0 hb) _ hb_6
    refine st_ref hb_6 ?_
    refine lv_aload_n C.1 C.2.1 dX1_addConstant_40 rfl (lv_at hl 0 rfl) ?_
    refine gt_1_12 C h tx0 fl_X1_50 dX1_addConstant_41 ?_
    refine lv_iconst (v := 0) C.1 C.2.1 dX1_addConstant_44 (by decide) ?_
    obtain ⟨hi, hM⟩ := ib_some hM
    refine h_zast C h tb_6 hi dX1_addConstant_45 (fun H locs h => ?_)
    refine lv_aload_n C.1 C.2.1 dX1_addConstant_46 rfl (lv_at hl 0 rfl) ?_
    refine gt_1_9 C h tx0 fl_X1_40 dX1_addConstant_47 ?_
    obtain ⟨b_7, hb_7, hM⟩ := nb_some hM
    have tb_7 : Ty E G b_7 12 := (fun b hb => tyf h tx0 hb) _ hb_7
    refine st_ref hb_7 ?_
    refine lv_aload_n C.1 C.2.1 dX1_addConstant_50 rfl (lv_at hl 0 rfl) ?_
    refine gt_1_12 C h tx0 fl_X1_50 dX1_addConstant_51 ?_
    refine lv_iconst (v := 0) C.1 C.2.1 dX1_addConstant_54 (by decide) ?_
    obtain ⟨hi, hM⟩ := ib_some hM
    refine h_iast C h tb_7 hi dX1_addConstant_55 (fun H locs h => ?_)
    refine lv_iconst (v := 0) C.1 C.2.1 dX1_addConstant_56 (by decide) ?_
    refine lv_istore_n (lv' := [(2, .int 0), (0, .ref x0), (1, .int x1)]) C.1 C.2.1 dX1_addConstant_57 rfl hl (by decide) rfl (fun ls hl => ?_)
    exact cB_X1_addConstant_58 C _ _ _ _ hM tx0 _ _ h ls (lv_sub hl [1, 0] rfl)
  · have hM := ite_f q hM
    refine lv_iconst (v := 0) C.1 C.2.1 dX1_addConstant_9 (by decide) ?_
    obtain ⟨rfl, rfl⟩ := so_inj hM
    exact h_zret C h (bz_ok _).1 dX1_addConstant_10
theorem cy_X1_addConstant : Cy yX1_addConstant cX1_addConstant 3 (some .boolean) 1 := ⟨cd_yX1_addConstant, ii_X1, by decide, by decide, by decide +kernel⟩
set_option maxRecDepth 100000 in
theorem c_X1_addConstant {l : Launch} {E : EE} {G : GG} {x0 : Nat} {x1 : Int32} {m m9 : MM} {r9 : Bool} (hM : M_X1_addConstant G x0 x1 m = some (r9, m9)) (tx0 : Ty E G x0 1) : Mc l E yX1_addConstant cX1_addConstant 3 (some .boolean) rmX1_addConstant [.ref x0, .int x1] G m (cQi E (bz r9) G m9) := M_of (by decide) (Nat.le_of_ble_eq_true rfl) (fun p e s mth below meth c C h ls hl => cM_X1_addConstant C hM tx0 _ _ h ls hl)
abbrev rmX1_addMember : Room := { frames := 1, cells := 0, slots := 0, locals := 21 }
def M_X1_addMember (G : GG) (x0 : Nat) (x1 : Int32) (x2 : Int32) (m : MM) : Option (Bool × MM) :=
  if (gI m x0 13) < 8 then
    bd (M_X1_addName G x0 x1 m) fun _ m_2 =>
      nb (gR m_2 x0 4) fun b_3 =>
        ib (gI m_2 x0 13) (G.2.2 b_3) <|
          nb (gR (sI m_2 b_3 ((gI m_2 x0 13).toNatClampNeg) x1) x0 5) fun b_4 =>
            ib (gI (sI m_2 b_3 ((gI m_2 x0 13).toNatClampNeg) x1) x0 13) (G.2.2 b_4) <|
              some (true, sI (sI (sI m_2 b_3 ((gI m_2 x0 13).toNatClampNeg) x1) b_4 ((gI (sI m_2 b_3 ((gI m_2 x0 13).toNatClampNeg) x1) x0 13).toNatClampNeg) x2) x0 13 ((gI (sI (sI m_2 b_3 ((gI m_2 x0 13).toNatClampNeg) x1) b_4 ((gI (sI m_2 b_3 ((gI m_2 x0 13).toNatClampNeg) x1) x0 13).toNatClampNeg) x2) x0 13) + 1))
  else
    some (false, m)
set_option maxRecDepth 100000 in
set_option maxHeartbeats 4000000 in
theorem cM_X1_addMember {p : Program} {l : Launch} {e : Env} {s : State} {mth : MethodId} {args : Array Value} {below : List Frame} {meth : Method} {c : Code} {E : EE} {G : GG} {r9 : Bool} {m9 : MM} (C : Cx E G p s mth args meth c cX1_addMember RX1 "addMember" 3 (some .boolean)) {x0 : Nat} {x1 : Int32} {x2 : Int32} {m : MM} (hM : M_X1_addMember G x0 x1 x2 m = some (r9, m9)) (tx0 : Ty E G x0 1) : ∀ (H : Heap) (locs : List Loc), Hp E G m s H locs → ∀ ls : Array Slot, lv_has ls 3 [(0, .ref x0), (1, .int x1), (2, .int x2)] → W p l e rmX1_addMember s mth args below meth c H locs 0 0 (MQ below (cQi E (bz r9) G m9) args s 0 0 (fun q => E.2.2.1 ≤ q)) (F0 mth 0 ls []) := by
  intro H locs h ls hl
  unfold M_X1_addMember at hM
  refine lv_aload_n C.1 C.2.1 dX1_addMember_0 rfl (lv_at hl 0 rfl) ?_
  refine gt_1_13 C h tx0 fl_X1_53 dX1_addMember_1 ?_
  refine lv_bipush (v := 8) C.1 C.2.1 dX1_addMember_4 (by decide) ?_
  refine lv_icmp_lt (tgt := 11) C.1 C.2.1 dX1_addMember_6 (by decide) (fun q => ?_) (fun q => ?_)
  · have hM := ite_t q hM
    refine lv_aload_n C.1 C.2.1 dX1_addMember_11 rfl (lv_at hl 0 rfl) ?_
    refine lv_iload_n C.1 C.2.1 dX1_addMember_12 rfl (lv_at hl 1 rfl) ?_
    obtain ⟨r_1, m_2, hc_1, hM⟩ := bd_some hM
    refine h_callVv C h (As := [.int x1]) (rest := []) m_2 (c_X1_addName hc_1 tx0) 1 rfl (by decide) tx0 im_yX1_addName se_yX1_addName cy_X1_addName rfl ml_X1_71 ⟨by decide, by decide⟩ ⟨Nat.zero_le _, Nat.zero_le _⟩ hl.1 rfl (Nat.le_of_ble_eq_true rfl) dX1_addMember_13 (fun H locs h => ?_)
    refine lv_aload_n C.1 C.2.1 dX1_addMember_16 rfl (lv_at hl 0 rfl) ?_
    refine gt_1_4 C h tx0 fl_X1_25 dX1_addMember_17 ?_
    obtain ⟨b_3, hb_3, hM⟩ := nb_some hM
    have tb_3 : Ty E G b_3 12 := (fun b hb => tyf h tx0 hb) _ hb_3
    refine st_ref hb_3 ?_
    refine lv_aload_n C.1 C.2.1 dX1_addMember_20 rfl (lv_at hl 0 rfl) ?_
    refine gt_1_13 C h tx0 fl_X1_53 dX1_addMember_21 ?_
    refine lv_iload_n C.1 C.2.1 dX1_addMember_24 rfl (lv_at hl 1 rfl) ?_
    obtain ⟨hi, hM⟩ := ib_some hM
    refine h_iast C h tb_3 hi dX1_addMember_25 (fun H locs h => ?_)
    refine lv_aload_n C.1 C.2.1 dX1_addMember_26 rfl (lv_at hl 0 rfl) ?_
    refine gt_1_5 C h tx0 fl_X1_28 dX1_addMember_27 ?_
    obtain ⟨b_4, hb_4, hM⟩ := nb_some hM
    have tb_4 : Ty E G b_4 12 := (fun b hb => tyf h tx0 hb) _ hb_4
    refine st_ref hb_4 ?_
    refine lv_aload_n C.1 C.2.1 dX1_addMember_30 rfl (lv_at hl 0 rfl) ?_
    refine gt_1_13 C h tx0 fl_X1_53 dX1_addMember_31 ?_
    refine lv_iload_n C.1 C.2.1 dX1_addMember_34 rfl (lv_at hl 2 rfl) ?_
    obtain ⟨hi, hM⟩ := ib_some hM
    refine h_iast C h tb_4 hi dX1_addMember_35 (fun H locs h => ?_)
    refine lv_aload_n C.1 C.2.1 dX1_addMember_36 rfl (lv_at hl 0 rfl) ?_
    refine lv_dup C.1 C.2.1 dX1_addMember_37 rfl ?_
    refine gt_1_13 C h tx0 fl_X1_53 dX1_addMember_38 ?_
    refine lv_iconst (v := 1) C.1 C.2.1 dX1_addMember_41 (by decide) ?_
    refine lv_iadd C.1 C.2.1 dX1_addMember_42 ?_
    refine pt_1_13 C h tx0 fl_X1_53 dX1_addMember_43 (fun H locs h => ?_)
    refine lv_iconst (v := 1) C.1 C.2.1 dX1_addMember_46 (by decide) ?_
    obtain ⟨rfl, rfl⟩ := so_inj hM
    exact h_zret C h (bz_ok _).1 dX1_addMember_47
  · have hM := ite_f q hM
    refine lv_iconst (v := 0) C.1 C.2.1 dX1_addMember_9 (by decide) ?_
    obtain ⟨rfl, rfl⟩ := so_inj hM
    exact h_zret C h (bz_ok _).1 dX1_addMember_10
theorem cy_X1_addMember : Cy yX1_addMember cX1_addMember 3 (some .boolean) 2 := ⟨cd_yX1_addMember, ii_X1, by decide, by decide, by decide +kernel⟩
set_option maxRecDepth 100000 in
theorem c_X1_addMember {l : Launch} {E : EE} {G : GG} {x0 : Nat} {x1 : Int32} {x2 : Int32} {m m9 : MM} {r9 : Bool} (hM : M_X1_addMember G x0 x1 x2 m = some (r9, m9)) (tx0 : Ty E G x0 1) : Mc l E yX1_addMember cX1_addMember 3 (some .boolean) rmX1_addMember [.ref x0, .int x1, .int x2] G m (cQi E (bz r9) G m9) := M_of (by decide) (Nat.le_of_ble_eq_true rfl) (fun p e s mth below meth c C h ls hl => cM_X1_addMember C hM tx0 _ _ h ls hl)
abbrev rmX1_addField : Room := { frames := 1, cells := 0, slots := 0, locals := 21 }
def M_X1_addField (G : GG) (x0 : Nat) (x1 : Int32) (x2 : Int32) (m : MM) : Option (Bool × MM) :=
  if (gI m x0 14) < 6 then
    bd (M_X1_addName G x0 x1 m) fun _ m_2 =>
      nb (gR m_2 x0 6) fun b_3 =>
        ib (gI m_2 x0 14) (G.2.2 b_3) <|
          nb (gR (sI m_2 b_3 ((gI m_2 x0 14).toNatClampNeg) x1) x0 7) fun b_4 =>
            ib (gI (sI m_2 b_3 ((gI m_2 x0 14).toNatClampNeg) x1) x0 14) (G.2.2 b_4) <|
              nb (gR (sI (sI m_2 b_3 ((gI m_2 x0 14).toNatClampNeg) x1) b_4 ((gI (sI m_2 b_3 ((gI m_2 x0 14).toNatClampNeg) x1) x0 14).toNatClampNeg) x2) x0 8) fun b_5 =>
                ib (gI (sI (sI m_2 b_3 ((gI m_2 x0 14).toNatClampNeg) x1) b_4 ((gI (sI m_2 b_3 ((gI m_2 x0 14).toNatClampNeg) x1) x0 14).toNatClampNeg) x2) x0 14) (G.2.2 b_5) <|
                  if x2 = (-1) then
                    some (true, sI (sI (sI (sI m_2 b_3 ((gI m_2 x0 14).toNatClampNeg) x1) b_4 ((gI (sI m_2 b_3 ((gI m_2 x0 14).toNatClampNeg) x1) x0 14).toNatClampNeg) x2) b_5 ((gI (sI (sI m_2 b_3 ((gI m_2 x0 14).toNatClampNeg) x1) b_4 ((gI (sI m_2 b_3 ((gI m_2 x0 14).toNatClampNeg) x1) x0 14).toNatClampNeg) x2) x0 14).toNatClampNeg) 0) x0 14 ((gI (sI (sI (sI m_2 b_3 ((gI m_2 x0 14).toNatClampNeg) x1) b_4 ((gI (sI m_2 b_3 ((gI m_2 x0 14).toNatClampNeg) x1) x0 14).toNatClampNeg) x2) b_5 ((gI (sI (sI m_2 b_3 ((gI m_2 x0 14).toNatClampNeg) x1) b_4 ((gI (sI m_2 b_3 ((gI m_2 x0 14).toNatClampNeg) x1) x0 14).toNatClampNeg) x2) x0 14).toNatClampNeg) 0) x0 14) + 1))
                  else
                    some (true, sI (sI (sI (sI (sI m_2 b_3 ((gI m_2 x0 14).toNatClampNeg) x1) b_4 ((gI (sI m_2 b_3 ((gI m_2 x0 14).toNatClampNeg) x1) x0 14).toNatClampNeg) x2) b_5 ((gI (sI (sI m_2 b_3 ((gI m_2 x0 14).toNatClampNeg) x1) b_4 ((gI (sI m_2 b_3 ((gI m_2 x0 14).toNatClampNeg) x1) x0 14).toNatClampNeg) x2) x0 14).toNatClampNeg) 0) x0 14 ((gI (sI (sI (sI m_2 b_3 ((gI m_2 x0 14).toNatClampNeg) x1) b_4 ((gI (sI m_2 b_3 ((gI m_2 x0 14).toNatClampNeg) x1) x0 14).toNatClampNeg) x2) b_5 ((gI (sI (sI m_2 b_3 ((gI m_2 x0 14).toNatClampNeg) x1) b_4 ((gI (sI m_2 b_3 ((gI m_2 x0 14).toNatClampNeg) x1) x0 14).toNatClampNeg) x2) x0 14).toNatClampNeg) 0) x0 14) + 1)) x0 15 ((gI (sI (sI (sI (sI m_2 b_3 ((gI m_2 x0 14).toNatClampNeg) x1) b_4 ((gI (sI m_2 b_3 ((gI m_2 x0 14).toNatClampNeg) x1) x0 14).toNatClampNeg) x2) b_5 ((gI (sI (sI m_2 b_3 ((gI m_2 x0 14).toNatClampNeg) x1) b_4 ((gI (sI m_2 b_3 ((gI m_2 x0 14).toNatClampNeg) x1) x0 14).toNatClampNeg) x2) x0 14).toNatClampNeg) 0) x0 14 ((gI (sI (sI (sI m_2 b_3 ((gI m_2 x0 14).toNatClampNeg) x1) b_4 ((gI (sI m_2 b_3 ((gI m_2 x0 14).toNatClampNeg) x1) x0 14).toNatClampNeg) x2) b_5 ((gI (sI (sI m_2 b_3 ((gI m_2 x0 14).toNatClampNeg) x1) b_4 ((gI (sI m_2 b_3 ((gI m_2 x0 14).toNatClampNeg) x1) x0 14).toNatClampNeg) x2) x0 14).toNatClampNeg) 0) x0 14) + 1)) x0 15) + 1))
  else
    some (false, m)
set_option maxRecDepth 100000 in
set_option maxHeartbeats 4000000 in
theorem cM_X1_addField {p : Program} {l : Launch} {e : Env} {s : State} {mth : MethodId} {args : Array Value} {below : List Frame} {meth : Method} {c : Code} {E : EE} {G : GG} {r9 : Bool} {m9 : MM} (C : Cx E G p s mth args meth c cX1_addField RX1 "addField" 3 (some .boolean)) {x0 : Nat} {x1 : Int32} {x2 : Int32} {m : MM} (hM : M_X1_addField G x0 x1 x2 m = some (r9, m9)) (tx0 : Ty E G x0 1) : ∀ (H : Heap) (locs : List Loc), Hp E G m s H locs → ∀ ls : Array Slot, lv_has ls 3 [(0, .ref x0), (1, .int x1), (2, .int x2)] → W p l e rmX1_addField s mth args below meth c H locs 0 0 (MQ below (cQi E (bz r9) G m9) args s 0 0 (fun q => E.2.2.1 ≤ q)) (F0 mth 0 ls []) := by
  intro H locs h ls hl
  unfold M_X1_addField at hM
  refine lv_aload_n C.1 C.2.1 dX1_addField_0 rfl (lv_at hl 0 rfl) ?_
  refine gt_1_14 C h tx0 fl_X1_56 dX1_addField_1 ?_
  refine lv_bipush (v := 6) C.1 C.2.1 dX1_addField_4 (by decide) ?_
  refine lv_icmp_lt (tgt := 11) C.1 C.2.1 dX1_addField_6 (by decide) (fun q => ?_) (fun q => ?_)
  · have hM := ite_t q hM
    refine lv_aload_n C.1 C.2.1 dX1_addField_11 rfl (lv_at hl 0 rfl) ?_
    refine lv_iload_n C.1 C.2.1 dX1_addField_12 rfl (lv_at hl 1 rfl) ?_
    obtain ⟨r_1, m_2, hc_1, hM⟩ := bd_some hM
    refine h_callVv C h (As := [.int x1]) (rest := []) m_2 (c_X1_addName hc_1 tx0) 1 rfl (by decide) tx0 im_yX1_addName se_yX1_addName cy_X1_addName rfl ml_X1_71 ⟨by decide, by decide⟩ ⟨Nat.zero_le _, Nat.zero_le _⟩ hl.1 rfl (Nat.le_of_ble_eq_true rfl) dX1_addField_13 (fun H locs h => ?_)
    refine lv_aload_n C.1 C.2.1 dX1_addField_16 rfl (lv_at hl 0 rfl) ?_
    refine gt_1_6 C h tx0 fl_X1_31 dX1_addField_17 ?_
    obtain ⟨b_3, hb_3, hM⟩ := nb_some hM
    have tb_3 : Ty E G b_3 12 := (fun b hb => tyf h tx0 hb) _ hb_3
    refine st_ref hb_3 ?_
    refine lv_aload_n C.1 C.2.1 dX1_addField_20 rfl (lv_at hl 0 rfl) ?_
    refine gt_1_14 C h tx0 fl_X1_56 dX1_addField_21 ?_
    refine lv_iload_n C.1 C.2.1 dX1_addField_24 rfl (lv_at hl 1 rfl) ?_
    obtain ⟨hi, hM⟩ := ib_some hM
    refine h_iast C h tb_3 hi dX1_addField_25 (fun H locs h => ?_)
    refine lv_aload_n C.1 C.2.1 dX1_addField_26 rfl (lv_at hl 0 rfl) ?_
    refine gt_1_7 C h tx0 fl_X1_34 dX1_addField_27 ?_
    obtain ⟨b_4, hb_4, hM⟩ := nb_some hM
    have tb_4 : Ty E G b_4 12 := (fun b hb => tyf h tx0 hb) _ hb_4
    refine st_ref hb_4 ?_
    refine lv_aload_n C.1 C.2.1 dX1_addField_30 rfl (lv_at hl 0 rfl) ?_
    refine gt_1_14 C h tx0 fl_X1_56 dX1_addField_31 ?_
    refine lv_iload_n C.1 C.2.1 dX1_addField_34 rfl (lv_at hl 2 rfl) ?_
    obtain ⟨hi, hM⟩ := ib_some hM
    refine h_iast C h tb_4 hi dX1_addField_35 (fun H locs h => ?_)
    refine lv_aload_n C.1 C.2.1 dX1_addField_36 rfl (lv_at hl 0 rfl) ?_
    refine gt_1_8 C h tx0 fl_X1_37 dX1_addField_37 ?_
    obtain ⟨b_5, hb_5, hM⟩ := nb_some hM
    have tb_5 : Ty E G b_5 12 := (fun b hb => tyf h tx0 hb) _ hb_5
    refine st_ref hb_5 ?_
    refine lv_aload_n C.1 C.2.1 dX1_addField_40 rfl (lv_at hl 0 rfl) ?_
    refine gt_1_14 C h tx0 fl_X1_56 dX1_addField_41 ?_
    refine lv_iconst (v := 0) C.1 C.2.1 dX1_addField_44 (by decide) ?_
    obtain ⟨hi, hM⟩ := ib_some hM
    refine h_iast C h tb_5 hi dX1_addField_45 (fun H locs h => ?_)
    refine lv_aload_n C.1 C.2.1 dX1_addField_46 rfl (lv_at hl 0 rfl) ?_
    refine lv_dup C.1 C.2.1 dX1_addField_47 rfl ?_
    refine gt_1_14 C h tx0 fl_X1_56 dX1_addField_48 ?_
    refine lv_iconst (v := 1) C.1 C.2.1 dX1_addField_51 (by decide) ?_
    refine lv_iadd C.1 C.2.1 dX1_addField_52 ?_
    refine pt_1_14 C h tx0 fl_X1_56 dX1_addField_53 (fun H locs h => ?_)
    refine lv_iload_n C.1 C.2.1 dX1_addField_56 rfl (lv_at hl 2 rfl) ?_
    refine lv_iconst (v := (-1)) C.1 C.2.1 dX1_addField_57 (by decide) ?_
    refine lv_icmp_eq (tgt := 71) C.1 C.2.1 dX1_addField_58 (by decide) (fun q => ?_) (fun q => ?_)
    · have hM := ite_t q hM
      refine lv_iconst (v := 1) C.1 C.2.1 dX1_addField_71 (by decide) ?_
      obtain ⟨rfl, rfl⟩ := so_inj hM
      exact h_zret C h (bz_ok _).1 dX1_addField_72
    · have hM := ite_f q hM
      refine lv_aload_n C.1 C.2.1 dX1_addField_61 rfl (lv_at hl 0 rfl) ?_
      refine lv_dup C.1 C.2.1 dX1_addField_62 rfl ?_
      refine gt_1_15 C h tx0 fl_X1_59 dX1_addField_63 ?_
      refine lv_iconst (v := 1) C.1 C.2.1 dX1_addField_66 (by decide) ?_
      refine lv_iadd C.1 C.2.1 dX1_addField_67 ?_
      refine pt_1_15 C h tx0 fl_X1_59 dX1_addField_68 (fun H locs h => ?_)
      refine lv_iconst (v := 1) C.1 C.2.1 dX1_addField_71 (by decide) ?_
      obtain ⟨rfl, rfl⟩ := so_inj hM
      exact h_zret C h (bz_ok _).1 dX1_addField_72
  · have hM := ite_f q hM
    refine lv_iconst (v := 0) C.1 C.2.1 dX1_addField_9 (by decide) ?_
    obtain ⟨rfl, rfl⟩ := so_inj hM
    exact h_zret C h (bz_ok _).1 dX1_addField_10
theorem cy_X1_addField : Cy yX1_addField cX1_addField 3 (some .boolean) 2 := ⟨cd_yX1_addField, ii_X1, by decide, by decide, by decide +kernel⟩
set_option maxRecDepth 100000 in
theorem c_X1_addField {l : Launch} {E : EE} {G : GG} {x0 : Nat} {x1 : Int32} {x2 : Int32} {m m9 : MM} {r9 : Bool} (hM : M_X1_addField G x0 x1 x2 m = some (r9, m9)) (tx0 : Ty E G x0 1) : Mc l E yX1_addField cX1_addField 3 (some .boolean) rmX1_addField [.ref x0, .int x1, .int x2] G m (cQi E (bz r9) G m9) := M_of (by decide) (Nat.le_of_ble_eq_true rfl) (fun p e s mth below meth c C h ls hl => cM_X1_addField C hM tx0 _ _ h ls hl)
abbrev rmX1_hasConstant : Room := { frames := 0, cells := 0, slots := 0, locals := 0 }
def M_X1_hasConstant (G : GG) (x0 : Nat) (x1 : Int32) (m : MM) : Option (Bool × MM) :=
  if x1 < 0 then
    some (false, m)
  else
    if (gI m x0 12) ≤ x1 then
      some (false, m)
    else
      if 12 ≤ x1 then
        some (false, m)
      else
        some (true, m)
set_option maxRecDepth 100000 in
set_option maxHeartbeats 4000000 in
theorem cM_X1_hasConstant {p : Program} {l : Launch} {e : Env} {s : State} {mth : MethodId} {args : Array Value} {below : List Frame} {meth : Method} {c : Code} {E : EE} {G : GG} {r9 : Bool} {m9 : MM} (C : Cx E G p s mth args meth c cX1_hasConstant RX1 "hasConstant" 2 (some .boolean)) {x0 : Nat} {x1 : Int32} {m : MM} (hM : M_X1_hasConstant G x0 x1 m = some (r9, m9)) (tx0 : Ty E G x0 1) : ∀ (H : Heap) (locs : List Loc), Hp E G m s H locs → ∀ ls : Array Slot, lv_has ls 2 [(0, .ref x0), (1, .int x1)] → W p l e rmX1_hasConstant s mth args below meth c H locs 0 0 (MQ below (cQi E (bz r9) G m9) args s 0 0 (fun q => E.2.2.1 ≤ q)) (F0 mth 0 ls []) := by
  intro H locs h ls hl
  unfold M_X1_hasConstant at hM
  refine lv_iload_n C.1 C.2.1 dX1_hasConstant_0 rfl (lv_at hl 1 rfl) ?_
  refine lv_if_lt (tgt := 22) C.1 C.2.1 dX1_hasConstant_1 (by decide) (fun q => ?_) (fun q => ?_)
  · have hM := ite_t q hM
    refine lv_iconst (v := 0) C.1 C.2.1 dX1_hasConstant_22 (by decide) ?_
    obtain ⟨rfl, rfl⟩ := so_inj hM
    exact h_zret C h (bz_ok _).1 dX1_hasConstant_23
  · have hM := ite_f q hM
    refine lv_iload_n C.1 C.2.1 dX1_hasConstant_4 rfl (lv_at hl 1 rfl) ?_
    refine lv_aload_n C.1 C.2.1 dX1_hasConstant_5 rfl (lv_at hl 0 rfl) ?_
    refine gt_1_12 C h tx0 fl_X1_50 dX1_hasConstant_6 ?_
    refine lv_icmp_ge (tgt := 22) C.1 C.2.1 dX1_hasConstant_9 (by decide) (fun q => ?_) (fun q => ?_)
    · have hM := ite_t q hM
      refine lv_iconst (v := 0) C.1 C.2.1 dX1_hasConstant_22 (by decide) ?_
      obtain ⟨rfl, rfl⟩ := so_inj hM
      exact h_zret C h (bz_ok _).1 dX1_hasConstant_23
    · have hM := ite_f q hM
      refine lv_iload_n C.1 C.2.1 dX1_hasConstant_12 rfl (lv_at hl 1 rfl) ?_
      refine lv_bipush (v := 12) C.1 C.2.1 dX1_hasConstant_13 (by decide) ?_
      refine lv_icmp_ge (tgt := 22) C.1 C.2.1 dX1_hasConstant_15 (by decide) (fun q => ?_) (fun q => ?_)
      · have hM := ite_t q hM
        refine lv_iconst (v := 0) C.1 C.2.1 dX1_hasConstant_22 (by decide) ?_
        obtain ⟨rfl, rfl⟩ := so_inj hM
        exact h_zret C h (bz_ok _).1 dX1_hasConstant_23
      · have hM := ite_f q hM
        refine lv_iconst (v := 1) C.1 C.2.1 dX1_hasConstant_18 (by decide) ?_
        refine lv_goto (tgt := 23) C.1 C.2.1 dX1_hasConstant_19 (by decide) ?_
        obtain ⟨rfl, rfl⟩ := so_inj hM
        exact h_zret C h (bz_ok _).1 dX1_hasConstant_23
theorem cy_X1_hasConstant : Cy yX1_hasConstant cX1_hasConstant 2 (some .boolean) 1 := ⟨cd_yX1_hasConstant, ii_X1, by decide, by decide, by decide +kernel⟩
set_option maxRecDepth 100000 in
theorem c_X1_hasConstant {l : Launch} {E : EE} {G : GG} {x0 : Nat} {x1 : Int32} {m m9 : MM} {r9 : Bool} (hM : M_X1_hasConstant G x0 x1 m = some (r9, m9)) (tx0 : Ty E G x0 1) : Mc l E yX1_hasConstant cX1_hasConstant 2 (some .boolean) rmX1_hasConstant [.ref x0, .int x1] G m (cQi E (bz r9) G m9) := M_of (by decide) (Nat.le_of_ble_eq_true rfl) (fun p e s mth below meth c C h ls hl => cM_X1_hasConstant C hM tx0 _ _ h ls hl)
abbrev rmX1_hasMember : Room := { frames := 0, cells := 0, slots := 0, locals := 0 }
def M_X1_hasMember (G : GG) (x0 : Nat) (x1 : Int32) (m : MM) : Option (Bool × MM) :=
  if x1 < 0 then
    some (false, m)
  else
    if (gI m x0 13) ≤ x1 then
      some (false, m)
    else
      if 8 ≤ x1 then
        some (false, m)
      else
        some (true, m)
set_option maxRecDepth 100000 in
set_option maxHeartbeats 4000000 in
theorem cM_X1_hasMember {p : Program} {l : Launch} {e : Env} {s : State} {mth : MethodId} {args : Array Value} {below : List Frame} {meth : Method} {c : Code} {E : EE} {G : GG} {r9 : Bool} {m9 : MM} (C : Cx E G p s mth args meth c cX1_hasMember RX1 "hasMember" 2 (some .boolean)) {x0 : Nat} {x1 : Int32} {m : MM} (hM : M_X1_hasMember G x0 x1 m = some (r9, m9)) (tx0 : Ty E G x0 1) : ∀ (H : Heap) (locs : List Loc), Hp E G m s H locs → ∀ ls : Array Slot, lv_has ls 2 [(0, .ref x0), (1, .int x1)] → W p l e rmX1_hasMember s mth args below meth c H locs 0 0 (MQ below (cQi E (bz r9) G m9) args s 0 0 (fun q => E.2.2.1 ≤ q)) (F0 mth 0 ls []) := by
  intro H locs h ls hl
  unfold M_X1_hasMember at hM
  refine lv_iload_n C.1 C.2.1 dX1_hasMember_0 rfl (lv_at hl 1 rfl) ?_
  refine lv_if_lt (tgt := 22) C.1 C.2.1 dX1_hasMember_1 (by decide) (fun q => ?_) (fun q => ?_)
  · have hM := ite_t q hM
    refine lv_iconst (v := 0) C.1 C.2.1 dX1_hasMember_22 (by decide) ?_
    obtain ⟨rfl, rfl⟩ := so_inj hM
    exact h_zret C h (bz_ok _).1 dX1_hasMember_23
  · have hM := ite_f q hM
    refine lv_iload_n C.1 C.2.1 dX1_hasMember_4 rfl (lv_at hl 1 rfl) ?_
    refine lv_aload_n C.1 C.2.1 dX1_hasMember_5 rfl (lv_at hl 0 rfl) ?_
    refine gt_1_13 C h tx0 fl_X1_53 dX1_hasMember_6 ?_
    refine lv_icmp_ge (tgt := 22) C.1 C.2.1 dX1_hasMember_9 (by decide) (fun q => ?_) (fun q => ?_)
    · have hM := ite_t q hM
      refine lv_iconst (v := 0) C.1 C.2.1 dX1_hasMember_22 (by decide) ?_
      obtain ⟨rfl, rfl⟩ := so_inj hM
      exact h_zret C h (bz_ok _).1 dX1_hasMember_23
    · have hM := ite_f q hM
      refine lv_iload_n C.1 C.2.1 dX1_hasMember_12 rfl (lv_at hl 1 rfl) ?_
      refine lv_bipush (v := 8) C.1 C.2.1 dX1_hasMember_13 (by decide) ?_
      refine lv_icmp_ge (tgt := 22) C.1 C.2.1 dX1_hasMember_15 (by decide) (fun q => ?_) (fun q => ?_)
      · have hM := ite_t q hM
        refine lv_iconst (v := 0) C.1 C.2.1 dX1_hasMember_22 (by decide) ?_
        obtain ⟨rfl, rfl⟩ := so_inj hM
        exact h_zret C h (bz_ok _).1 dX1_hasMember_23
      · have hM := ite_f q hM
        refine lv_iconst (v := 1) C.1 C.2.1 dX1_hasMember_18 (by decide) ?_
        refine lv_goto (tgt := 23) C.1 C.2.1 dX1_hasMember_19 (by decide) ?_
        obtain ⟨rfl, rfl⟩ := so_inj hM
        exact h_zret C h (bz_ok _).1 dX1_hasMember_23
theorem cy_X1_hasMember : Cy yX1_hasMember cX1_hasMember 2 (some .boolean) 1 := ⟨cd_yX1_hasMember, ii_X1, by decide, by decide, by decide +kernel⟩
set_option maxRecDepth 100000 in
theorem c_X1_hasMember {l : Launch} {E : EE} {G : GG} {x0 : Nat} {x1 : Int32} {m m9 : MM} {r9 : Bool} (hM : M_X1_hasMember G x0 x1 m = some (r9, m9)) (tx0 : Ty E G x0 1) : Mc l E yX1_hasMember cX1_hasMember 2 (some .boolean) rmX1_hasMember [.ref x0, .int x1] G m (cQi E (bz r9) G m9) := M_of (by decide) (Nat.le_of_ble_eq_true rfl) (fun p e s mth below meth c C h ls hl => cM_X1_hasMember C hM tx0 _ _ h ls hl)
abbrev rmX1_hasField : Room := { frames := 0, cells := 0, slots := 0, locals := 0 }
def M_X1_hasField (G : GG) (x0 : Nat) (x1 : Int32) (m : MM) : Option (Bool × MM) :=
  if x1 < 0 then
    some (false, m)
  else
    if (gI m x0 14) ≤ x1 then
      some (false, m)
    else
      if 6 ≤ x1 then
        some (false, m)
      else
        some (true, m)
set_option maxRecDepth 100000 in
set_option maxHeartbeats 4000000 in
theorem cM_X1_hasField {p : Program} {l : Launch} {e : Env} {s : State} {mth : MethodId} {args : Array Value} {below : List Frame} {meth : Method} {c : Code} {E : EE} {G : GG} {r9 : Bool} {m9 : MM} (C : Cx E G p s mth args meth c cX1_hasField RX1 "hasField" 2 (some .boolean)) {x0 : Nat} {x1 : Int32} {m : MM} (hM : M_X1_hasField G x0 x1 m = some (r9, m9)) (tx0 : Ty E G x0 1) : ∀ (H : Heap) (locs : List Loc), Hp E G m s H locs → ∀ ls : Array Slot, lv_has ls 2 [(0, .ref x0), (1, .int x1)] → W p l e rmX1_hasField s mth args below meth c H locs 0 0 (MQ below (cQi E (bz r9) G m9) args s 0 0 (fun q => E.2.2.1 ≤ q)) (F0 mth 0 ls []) := by
  intro H locs h ls hl
  unfold M_X1_hasField at hM
  refine lv_iload_n C.1 C.2.1 dX1_hasField_0 rfl (lv_at hl 1 rfl) ?_
  refine lv_if_lt (tgt := 22) C.1 C.2.1 dX1_hasField_1 (by decide) (fun q => ?_) (fun q => ?_)
  · have hM := ite_t q hM
    refine lv_iconst (v := 0) C.1 C.2.1 dX1_hasField_22 (by decide) ?_
    obtain ⟨rfl, rfl⟩ := so_inj hM
    exact h_zret C h (bz_ok _).1 dX1_hasField_23
  · have hM := ite_f q hM
    refine lv_iload_n C.1 C.2.1 dX1_hasField_4 rfl (lv_at hl 1 rfl) ?_
    refine lv_aload_n C.1 C.2.1 dX1_hasField_5 rfl (lv_at hl 0 rfl) ?_
    refine gt_1_14 C h tx0 fl_X1_56 dX1_hasField_6 ?_
    refine lv_icmp_ge (tgt := 22) C.1 C.2.1 dX1_hasField_9 (by decide) (fun q => ?_) (fun q => ?_)
    · have hM := ite_t q hM
      refine lv_iconst (v := 0) C.1 C.2.1 dX1_hasField_22 (by decide) ?_
      obtain ⟨rfl, rfl⟩ := so_inj hM
      exact h_zret C h (bz_ok _).1 dX1_hasField_23
    · have hM := ite_f q hM
      refine lv_iload_n C.1 C.2.1 dX1_hasField_12 rfl (lv_at hl 1 rfl) ?_
      refine lv_bipush (v := 6) C.1 C.2.1 dX1_hasField_13 (by decide) ?_
      refine lv_icmp_ge (tgt := 22) C.1 C.2.1 dX1_hasField_15 (by decide) (fun q => ?_) (fun q => ?_)
      · have hM := ite_t q hM
        refine lv_iconst (v := 0) C.1 C.2.1 dX1_hasField_22 (by decide) ?_
        obtain ⟨rfl, rfl⟩ := so_inj hM
        exact h_zret C h (bz_ok _).1 dX1_hasField_23
      · have hM := ite_f q hM
        refine lv_iconst (v := 1) C.1 C.2.1 dX1_hasField_18 (by decide) ?_
        refine lv_goto (tgt := 23) C.1 C.2.1 dX1_hasField_19 (by decide) ?_
        obtain ⟨rfl, rfl⟩ := so_inj hM
        exact h_zret C h (bz_ok _).1 dX1_hasField_23
theorem cy_X1_hasField : Cy yX1_hasField cX1_hasField 2 (some .boolean) 1 := ⟨cd_yX1_hasField, ii_X1, by decide, by decide, by decide +kernel⟩
set_option maxRecDepth 100000 in
theorem c_X1_hasField {l : Launch} {E : EE} {G : GG} {x0 : Nat} {x1 : Int32} {m m9 : MM} {r9 : Bool} (hM : M_X1_hasField G x0 x1 m = some (r9, m9)) (tx0 : Ty E G x0 1) : Mc l E yX1_hasField cX1_hasField 2 (some .boolean) rmX1_hasField [.ref x0, .int x1] G m (cQi E (bz r9) G m9) := M_of (by decide) (Nat.le_of_ble_eq_true rfl) (fun p e s mth below meth c C h ls hl => cM_X1_hasField C hM tx0 _ _ h ls hl)
abbrev rmX1_isWorked : Room := { frames := 1, cells := 0, slots := 0, locals := 21 }
def M_X1_isWorked (G : GG) (x0 : Nat) (x1 : Int32) (m : MM) : Option (Bool × MM) :=
  bd (M_X1_hasField G x0 x1 m) fun r_1 m_2 =>
    if r_1 = true then
      nb (gR m_2 x0 7) fun b_3 =>
        ib x1 (G.2.2 b_3) <|
          if (gI m_2 b_3 x1.toNatClampNeg) = (-1) then
            some (false, m_2)
          else
            some (true, m_2)
    else
      some (false, m_2)
set_option maxRecDepth 100000 in
set_option maxHeartbeats 4000000 in
theorem cM_X1_isWorked {p : Program} {l : Launch} {e : Env} {s : State} {mth : MethodId} {args : Array Value} {below : List Frame} {meth : Method} {c : Code} {E : EE} {G : GG} {r9 : Bool} {m9 : MM} (C : Cx E G p s mth args meth c cX1_isWorked RX1 "isWorked" 2 (some .boolean)) {x0 : Nat} {x1 : Int32} {m : MM} (hM : M_X1_isWorked G x0 x1 m = some (r9, m9)) (tx0 : Ty E G x0 1) : ∀ (H : Heap) (locs : List Loc), Hp E G m s H locs → ∀ ls : Array Slot, lv_has ls 2 [(0, .ref x0), (1, .int x1)] → W p l e rmX1_isWorked s mth args below meth c H locs 0 0 (MQ below (cQi E (bz r9) G m9) args s 0 0 (fun q => E.2.2.1 ≤ q)) (F0 mth 0 ls []) := by
  intro H locs h ls hl
  unfold M_X1_isWorked at hM
  refine lv_aload_n C.1 C.2.1 dX1_isWorked_0 rfl (lv_at hl 0 rfl) ?_
  refine lv_iload_n C.1 C.2.1 dX1_isWorked_1 rfl (lv_at hl 1 rfl) ?_
  obtain ⟨r_1, m_2, hc_1, hM⟩ := bd_some hM
  refine h_callVi C h (As := [.int x1]) (rest := []) (bz r_1) m_2 (c_X1_hasField hc_1 tx0) 1 rfl (by decide) tx0 im_yX1_hasField se_yX1_hasField cy_X1_hasField rfl ml_X1_75 ⟨by decide, by decide⟩ ⟨Nat.zero_le _, Nat.zero_le _⟩ hl.1 rfl (Nat.le_of_ble_eq_true rfl) dX1_isWorked_2 (fun H locs h => ?_)
  refine h_ifz (tgt := 22) C.1 C.2.1 dX1_isWorked_5 (by decide) (fun q => ?_) (fun q => ?_)
  · have hM := ite_f q hM
    refine lv_iconst (v := 0) C.1 C.2.1 dX1_isWorked_22 (by decide) ?_
    obtain ⟨rfl, rfl⟩ := so_inj hM
    exact h_zret C h (bz_ok _).1 dX1_isWorked_23
  · have hM := ite_t q hM
    refine lv_aload_n C.1 C.2.1 dX1_isWorked_8 rfl (lv_at hl 0 rfl) ?_
    refine gt_1_7 C h tx0 fl_X1_34 dX1_isWorked_9 ?_
    obtain ⟨b_3, hb_3, hM⟩ := nb_some hM
    have tb_3 : Ty E G b_3 12 := (fun b hb => tyf h tx0 hb) _ hb_3
    refine st_ref hb_3 ?_
    refine lv_iload_n C.1 C.2.1 dX1_isWorked_12 rfl (lv_at hl 1 rfl) ?_
    obtain ⟨hi, hM⟩ := ib_some hM
    refine h_iald C h tb_3 hi dX1_isWorked_13 ?_
    refine lv_iconst (v := (-1)) C.1 C.2.1 dX1_isWorked_14 (by decide) ?_
    refine lv_icmp_eq (tgt := 22) C.1 C.2.1 dX1_isWorked_15 (by decide) (fun q => ?_) (fun q => ?_)
    · have hM := ite_t q hM
      refine lv_iconst (v := 0) C.1 C.2.1 dX1_isWorked_22 (by decide) ?_
      obtain ⟨rfl, rfl⟩ := so_inj hM
      exact h_zret C h (bz_ok _).1 dX1_isWorked_23
    · have hM := ite_f q hM
      refine lv_iconst (v := 1) C.1 C.2.1 dX1_isWorked_18 (by decide) ?_
      refine lv_goto (tgt := 23) C.1 C.2.1 dX1_isWorked_19 (by decide) ?_
      obtain ⟨rfl, rfl⟩ := so_inj hM
      exact h_zret C h (bz_ok _).1 dX1_isWorked_23
theorem cy_X1_isWorked : Cy yX1_isWorked cX1_isWorked 2 (some .boolean) 1 := ⟨cd_yX1_isWorked, ii_X1, by decide, by decide, by decide +kernel⟩
set_option maxRecDepth 100000 in
theorem c_X1_isWorked {l : Launch} {E : EE} {G : GG} {x0 : Nat} {x1 : Int32} {m m9 : MM} {r9 : Bool} (hM : M_X1_isWorked G x0 x1 m = some (r9, m9)) (tx0 : Ty E G x0 1) : Mc l E yX1_isWorked cX1_isWorked 2 (some .boolean) rmX1_isWorked [.ref x0, .int x1] G m (cQi E (bz r9) G m9) := M_of (by decide) (Nat.le_of_ble_eq_true rfl) (fun p e s mth below meth c C h ls hl => cM_X1_isWorked C hM tx0 _ _ h ls hl)
abbrev rmX1_isAbstract : Room := { frames := 1, cells := 0, slots := 0, locals := 21 }
def M_X1_isAbstract (G : GG) (x0 : Nat) (x1 : Int32) (m : MM) : Option (Bool × MM) :=
  bd (M_X1_hasMember G x0 x1 m) fun r_1 m_2 =>
    if r_1 = true then
      nb (gR m_2 x0 5) fun b_3 =>
        ib x1 (G.2.2 b_3) <|
          if (gI m_2 b_3 x1.toNatClampNeg) = (-1) then
            some (true, m_2)
          else
            some (false, m_2)
    else
      some (false, m_2)
set_option maxRecDepth 100000 in
set_option maxHeartbeats 4000000 in
theorem cM_X1_isAbstract {p : Program} {l : Launch} {e : Env} {s : State} {mth : MethodId} {args : Array Value} {below : List Frame} {meth : Method} {c : Code} {E : EE} {G : GG} {r9 : Bool} {m9 : MM} (C : Cx E G p s mth args meth c cX1_isAbstract RX1 "isAbstract" 2 (some .boolean)) {x0 : Nat} {x1 : Int32} {m : MM} (hM : M_X1_isAbstract G x0 x1 m = some (r9, m9)) (tx0 : Ty E G x0 1) : ∀ (H : Heap) (locs : List Loc), Hp E G m s H locs → ∀ ls : Array Slot, lv_has ls 2 [(0, .ref x0), (1, .int x1)] → W p l e rmX1_isAbstract s mth args below meth c H locs 0 0 (MQ below (cQi E (bz r9) G m9) args s 0 0 (fun q => E.2.2.1 ≤ q)) (F0 mth 0 ls []) := by
  intro H locs h ls hl
  unfold M_X1_isAbstract at hM
  refine lv_aload_n C.1 C.2.1 dX1_isAbstract_0 rfl (lv_at hl 0 rfl) ?_
  refine lv_iload_n C.1 C.2.1 dX1_isAbstract_1 rfl (lv_at hl 1 rfl) ?_
  obtain ⟨r_1, m_2, hc_1, hM⟩ := bd_some hM
  refine h_callVi C h (As := [.int x1]) (rest := []) (bz r_1) m_2 (c_X1_hasMember hc_1 tx0) 1 rfl (by decide) tx0 im_yX1_hasMember se_yX1_hasMember cy_X1_hasMember rfl ml_X1_79 ⟨by decide, by decide⟩ ⟨Nat.zero_le _, Nat.zero_le _⟩ hl.1 rfl (Nat.le_of_ble_eq_true rfl) dX1_isAbstract_2 (fun H locs h => ?_)
  refine h_ifz (tgt := 22) C.1 C.2.1 dX1_isAbstract_5 (by decide) (fun q => ?_) (fun q => ?_)
  · have hM := ite_f q hM
    refine lv_iconst (v := 0) C.1 C.2.1 dX1_isAbstract_22 (by decide) ?_
    obtain ⟨rfl, rfl⟩ := so_inj hM
    exact h_zret C h (bz_ok _).1 dX1_isAbstract_23
  · have hM := ite_t q hM
    refine lv_aload_n C.1 C.2.1 dX1_isAbstract_8 rfl (lv_at hl 0 rfl) ?_
    refine gt_1_5 C h tx0 fl_X1_28 dX1_isAbstract_9 ?_
    obtain ⟨b_3, hb_3, hM⟩ := nb_some hM
    have tb_3 : Ty E G b_3 12 := (fun b hb => tyf h tx0 hb) _ hb_3
    refine st_ref hb_3 ?_
    refine lv_iload_n C.1 C.2.1 dX1_isAbstract_12 rfl (lv_at hl 1 rfl) ?_
    obtain ⟨hi, hM⟩ := ib_some hM
    refine h_iald C h tb_3 hi dX1_isAbstract_13 ?_
    refine lv_iconst (v := (-1)) C.1 C.2.1 dX1_isAbstract_14 (by decide) ?_
    refine lv_icmp_ne (tgt := 22) C.1 C.2.1 dX1_isAbstract_15 (by decide) (fun q => ?_) (fun q => ?_)
    · have hM := ite_f q hM
      refine lv_iconst (v := 0) C.1 C.2.1 dX1_isAbstract_22 (by decide) ?_
      obtain ⟨rfl, rfl⟩ := so_inj hM
      exact h_zret C h (bz_ok _).1 dX1_isAbstract_23
    · have hM := ite_t q hM
      refine lv_iconst (v := 1) C.1 C.2.1 dX1_isAbstract_18 (by decide) ?_
      refine lv_goto (tgt := 23) C.1 C.2.1 dX1_isAbstract_19 (by decide) ?_
      obtain ⟨rfl, rfl⟩ := so_inj hM
      exact h_zret C h (bz_ok _).1 dX1_isAbstract_23
theorem cy_X1_isAbstract : Cy yX1_isAbstract cX1_isAbstract 2 (some .boolean) 1 := ⟨cd_yX1_isAbstract, ii_X1, by decide, by decide, by decide +kernel⟩
set_option maxRecDepth 100000 in
theorem c_X1_isAbstract {l : Launch} {E : EE} {G : GG} {x0 : Nat} {x1 : Int32} {m m9 : MM} {r9 : Bool} (hM : M_X1_isAbstract G x0 x1 m = some (r9, m9)) (tx0 : Ty E G x0 1) : Mc l E yX1_isAbstract cX1_isAbstract 2 (some .boolean) rmX1_isAbstract [.ref x0, .int x1] G m (cQi E (bz r9) G m9) := M_of (by decide) (Nat.le_of_ble_eq_true rfl) (fun p e s mth below meth c C h ls hl => cM_X1_isAbstract C hM tx0 _ _ h ls hl)
abbrev rmX1_giveCode : Room := { frames := 1, cells := 0, slots := 0, locals := 21 }
def M_X1_giveCode (G : GG) (x0 : Nat) (x1 : Int32) (x2 : Int32) (m : MM) : Option (Int32 × MM) :=
  bd (M_X1_hasConstant G x0 x1 m) fun r_1 m_2 =>
    if r_1 = true then
      bd (M_X1_hasMember G x0 x2 m_2) fun r_3 m_4 =>
        if r_3 = true then
          nb (gR m_4 x0 3) fun b_5 =>
            ib ((x1 * 8) + x2) (G.2.2 b_5) <|
              some (gI m_4 b_5 (((x1 * 8) + x2).toNatClampNeg), m_4)
        else
          some ((-1), m_4)
    else
      some ((-1), m_2)
set_option maxRecDepth 100000 in
set_option maxHeartbeats 4000000 in
theorem cM_X1_giveCode {p : Program} {l : Launch} {e : Env} {s : State} {mth : MethodId} {args : Array Value} {below : List Frame} {meth : Method} {c : Code} {E : EE} {G : GG} {r9 : Int32} {m9 : MM} (C : Cx E G p s mth args meth c cX1_giveCode RX1 "giveCode" 3 (some .int)) {x0 : Nat} {x1 : Int32} {x2 : Int32} {m : MM} (hM : M_X1_giveCode G x0 x1 x2 m = some (r9, m9)) (tx0 : Ty E G x0 1) : ∀ (H : Heap) (locs : List Loc), Hp E G m s H locs → ∀ ls : Array Slot, lv_has ls 3 [(0, .ref x0), (1, .int x1), (2, .int x2)] → W p l e rmX1_giveCode s mth args below meth c H locs 0 0 (MQ below (cQi E r9 G m9) args s 0 0 (fun q => E.2.2.1 ≤ q)) (F0 mth 0 ls []) := by
  intro H locs h ls hl
  unfold M_X1_giveCode at hM
  refine lv_aload_n C.1 C.2.1 dX1_giveCode_0 rfl (lv_at hl 0 rfl) ?_
  refine lv_iload_n C.1 C.2.1 dX1_giveCode_1 rfl (lv_at hl 1 rfl) ?_
  obtain ⟨r_1, m_2, hc_1, hM⟩ := bd_some hM
  refine h_callVi C h (As := [.int x1]) (rest := []) (bz r_1) m_2 (c_X1_hasConstant hc_1 tx0) 1 rfl (by decide) tx0 im_yX1_hasConstant se_yX1_hasConstant cy_X1_hasConstant rfl ml_X1_82 ⟨by decide, by decide⟩ ⟨Nat.zero_le _, Nat.zero_le _⟩ hl.1 rfl (Nat.le_of_ble_eq_true rfl) dX1_giveCode_2 (fun H locs h => ?_)
  refine h_ifz (tgt := 30) C.1 C.2.1 dX1_giveCode_5 (by decide) (fun q => ?_) (fun q => ?_)
  · have hM := ite_f q hM
    refine lv_iconst (v := (-1)) C.1 C.2.1 dX1_giveCode_30 (by decide) ?_
    obtain ⟨rfl, rfl⟩ := so_inj hM
    exact h_iret C h dX1_giveCode_31
  · have hM := ite_t q hM
    refine lv_aload_n C.1 C.2.1 dX1_giveCode_8 rfl (lv_at hl 0 rfl) ?_
    refine lv_iload_n C.1 C.2.1 dX1_giveCode_9 rfl (lv_at hl 2 rfl) ?_
    obtain ⟨r_3, m_4, hc_3, hM⟩ := bd_some hM
    refine h_callVi C h (As := [.int x2]) (rest := []) (bz r_3) m_4 (c_X1_hasMember hc_3 tx0) 1 rfl (by decide) tx0 im_yX1_hasMember se_yX1_hasMember cy_X1_hasMember rfl ml_X1_79 ⟨by decide, by decide⟩ ⟨Nat.zero_le _, Nat.zero_le _⟩ hl.1 rfl (Nat.le_of_ble_eq_true rfl) dX1_giveCode_10 (fun H locs h => ?_)
    refine h_ifz (tgt := 30) C.1 C.2.1 dX1_giveCode_13 (by decide) (fun q => ?_) (fun q => ?_)
    · have hM := ite_f q hM
      refine lv_iconst (v := (-1)) C.1 C.2.1 dX1_giveCode_30 (by decide) ?_
      obtain ⟨rfl, rfl⟩ := so_inj hM
      exact h_iret C h dX1_giveCode_31
    · have hM := ite_t q hM
      refine lv_aload_n C.1 C.2.1 dX1_giveCode_16 rfl (lv_at hl 0 rfl) ?_
      refine gt_1_3 C h tx0 fl_X1_22 dX1_giveCode_17 ?_
      obtain ⟨b_5, hb_5, hM⟩ := nb_some hM
      have tb_5 : Ty E G b_5 12 := (fun b hb => tyf h tx0 hb) _ hb_5
      refine st_ref hb_5 ?_
      refine lv_iload_n C.1 C.2.1 dX1_giveCode_20 rfl (lv_at hl 1 rfl) ?_
      refine lv_bipush (v := 8) C.1 C.2.1 dX1_giveCode_21 (by decide) ?_
      refine lv_imul C.1 C.2.1 dX1_giveCode_23 ?_
      refine lv_iload_n C.1 C.2.1 dX1_giveCode_24 rfl (lv_at hl 2 rfl) ?_
      refine lv_iadd C.1 C.2.1 dX1_giveCode_25 ?_
      obtain ⟨hi, hM⟩ := ib_some hM
      refine h_iald C h tb_5 hi dX1_giveCode_26 ?_
      refine lv_goto (tgt := 31) C.1 C.2.1 dX1_giveCode_27 (by decide) ?_
      obtain ⟨rfl, rfl⟩ := so_inj hM
      exact h_iret C h dX1_giveCode_31
theorem cy_X1_giveCode : Cy yX1_giveCode cX1_giveCode 3 (some .int) 2 := ⟨cd_yX1_giveCode, ii_X1, by decide, by decide, by decide +kernel⟩
set_option maxRecDepth 100000 in
theorem c_X1_giveCode {l : Launch} {E : EE} {G : GG} {x0 : Nat} {x1 : Int32} {x2 : Int32} {m m9 : MM} {r9 : Int32} (hM : M_X1_giveCode G x0 x1 x2 m = some (r9, m9)) (tx0 : Ty E G x0 1) : Mc l E yX1_giveCode cX1_giveCode 3 (some .int) rmX1_giveCode [.ref x0, .int x1, .int x2] G m (cQi E r9 G m9) := M_of (by decide) (Nat.le_of_ble_eq_true rfl) (fun p e s mth below meth c C h ls hl => cM_X1_giveCode C hM tx0 _ _ h ls hl)
abbrev rmX1_codeOf : Room := { frames := 2, cells := 0, slots := 0, locals := 43 }
def M_X1_codeOf (G : GG) (x0 : Nat) (x1 : Int32) (x2 : Int32) (m : MM) : Option (Int32 × MM) :=
  bd (M_X1_giveCode G x0 x1 x2 m) fun r_1 m_2 =>
    if r_1 = (-1) then
      bd (M_X1_hasMember G x0 x2 m_2) fun r_3 m_4 =>
        if r_3 = true then
          nb (gR m_4 x0 5) fun b_5 =>
            ib x2 (G.2.2 b_5) <|
              some (gI m_4 b_5 x2.toNatClampNeg, m_4)
        else
          some (r_1, m_4)
    else
      some (r_1, m_2)
set_option maxRecDepth 100000 in
set_option maxHeartbeats 4000000 in
theorem cM_X1_codeOf {p : Program} {l : Launch} {e : Env} {s : State} {mth : MethodId} {args : Array Value} {below : List Frame} {meth : Method} {c : Code} {E : EE} {G : GG} {r9 : Int32} {m9 : MM} (C : Cx E G p s mth args meth c cX1_codeOf RX1 "codeOf" 4 (some .int)) {x0 : Nat} {x1 : Int32} {x2 : Int32} {m : MM} (hM : M_X1_codeOf G x0 x1 x2 m = some (r9, m9)) (tx0 : Ty E G x0 1) : ∀ (H : Heap) (locs : List Loc), Hp E G m s H locs → ∀ ls : Array Slot, lv_has ls 4 [(0, .ref x0), (1, .int x1), (2, .int x2)] → W p l e rmX1_codeOf s mth args below meth c H locs 0 0 (MQ below (cQi E r9 G m9) args s 0 0 (fun q => E.2.2.1 ≤ q)) (F0 mth 0 ls []) := by
  intro H locs h ls hl
  unfold M_X1_codeOf at hM
  refine lv_aload_n C.1 C.2.1 dX1_codeOf_0 rfl (lv_at hl 0 rfl) ?_
  refine lv_iload_n C.1 C.2.1 dX1_codeOf_1 rfl (lv_at hl 1 rfl) ?_
  refine lv_iload_n C.1 C.2.1 dX1_codeOf_2 rfl (lv_at hl 2 rfl) ?_
  obtain ⟨r_1, m_2, hc_1, hM⟩ := bd_some hM
  refine h_callVi C h (As := [.int x1, .int x2]) (rest := []) r_1 m_2 (c_X1_giveCode hc_1 tx0) 1 rfl (by decide) tx0 im_yX1_giveCode se_yX1_giveCode cy_X1_giveCode rfl ml_X1_85 ⟨by decide, by decide⟩ ⟨Nat.zero_le _, Nat.zero_le _⟩ hl.1 rfl (Nat.le_of_ble_eq_true rfl) dX1_codeOf_3 (fun H locs h => ?_)
  refine lv_istore_n (lv' := [(3, .int r_1), (0, .ref x0), (1, .int x1), (2, .int x2)]) C.1 C.2.1 dX1_codeOf_6 rfl hl (by decide) rfl (fun ls hl => ?_)
  refine lv_iload_n C.1 C.2.1 dX1_codeOf_7 rfl (lv_at hl 0 rfl) ?_
  refine lv_iconst (v := (-1)) C.1 C.2.1 dX1_codeOf_8 (by decide) ?_
  refine lv_icmp_ne (tgt := 29) C.1 C.2.1 dX1_codeOf_9 (by decide) (fun q => ?_) (fun q => ?_)
  · have hM := ite_f q hM
    refine lv_iload_n C.1 C.2.1 dX1_codeOf_29 rfl (lv_at hl 0 rfl) ?_
    obtain ⟨rfl, rfl⟩ := so_inj hM
    exact h_iret C h dX1_codeOf_30
  · have hM := ite_t q hM
    refine lv_aload_n C.1 C.2.1 dX1_codeOf_12 rfl (lv_at hl 1 rfl) ?_
    refine lv_iload_n C.1 C.2.1 dX1_codeOf_13 rfl (lv_at hl 3 rfl) ?_
    obtain ⟨r_3, m_4, hc_3, hM⟩ := bd_some hM
    refine h_callVi C h (As := [.int x2]) (rest := []) (bz r_3) m_4 (c_X1_hasMember hc_3 tx0) 1 rfl (by decide) tx0 im_yX1_hasMember se_yX1_hasMember cy_X1_hasMember rfl ml_X1_79 ⟨by decide, by decide⟩ ⟨Nat.zero_le _, Nat.zero_le _⟩ hl.1 rfl (Nat.le_of_ble_eq_true rfl) dX1_codeOf_14 (fun H locs h => ?_)
    refine h_ifz (tgt := 29) C.1 C.2.1 dX1_codeOf_17 (by decide) (fun q => ?_) (fun q => ?_)
    · have hM := ite_f q hM
      refine lv_iload_n C.1 C.2.1 dX1_codeOf_29 rfl (lv_at hl 0 rfl) ?_
      obtain ⟨rfl, rfl⟩ := so_inj hM
      exact h_iret C h dX1_codeOf_30
    · have hM := ite_t q hM
      refine lv_aload_n C.1 C.2.1 dX1_codeOf_20 rfl (lv_at hl 1 rfl) ?_
      refine gt_1_5 C h tx0 fl_X1_28 dX1_codeOf_21 ?_
      obtain ⟨b_5, hb_5, hM⟩ := nb_some hM
      have tb_5 : Ty E G b_5 12 := (fun b hb => tyf h tx0 hb) _ hb_5
      refine st_ref hb_5 ?_
      refine lv_iload_n C.1 C.2.1 dX1_codeOf_24 rfl (lv_at hl 3 rfl) ?_
      obtain ⟨hi, hM⟩ := ib_some hM
      refine h_iald C h tb_5 hi dX1_codeOf_25 ?_
      refine lv_goto (tgt := 30) C.1 C.2.1 dX1_codeOf_26 (by decide) ?_
      obtain ⟨rfl, rfl⟩ := so_inj hM
      exact h_iret C h dX1_codeOf_30
theorem cy_X1_codeOf : Cy yX1_codeOf cX1_codeOf 4 (some .int) 2 := ⟨cd_yX1_codeOf, ii_X1, by decide, by decide, by decide +kernel⟩
set_option maxRecDepth 100000 in
theorem c_X1_codeOf {l : Launch} {E : EE} {G : GG} {x0 : Nat} {x1 : Int32} {x2 : Int32} {m m9 : MM} {r9 : Int32} (hM : M_X1_codeOf G x0 x1 x2 m = some (r9, m9)) (tx0 : Ty E G x0 1) : Mc l E yX1_codeOf cX1_codeOf 4 (some .int) rmX1_codeOf [.ref x0, .int x1, .int x2] G m (cQi E r9 G m9) := M_of (by decide) (Nat.le_of_ble_eq_true rfl) (fun p e s mth below meth c C h ls hl => cM_X1_codeOf C hM tx0 _ _ h ls hl)
abbrev rmX3_forget : Room := { frames := 0, cells := 0, slots := 0, locals := 0 }
def M_X3_forget (G : GG) (x0 : Nat) (m : MM) : Option (Unit × MM) :=
  some ((), sI (sI m x0 0 0) x0 1 0)
set_option maxRecDepth 100000 in
set_option maxHeartbeats 4000000 in
theorem cM_X3_forget {p : Program} {l : Launch} {e : Env} {s : State} {mth : MethodId} {args : Array Value} {below : List Frame} {meth : Method} {c : Code} {E : EE} {G : GG} {r9 : Unit} {m9 : MM} (C : Cx E G p s mth args meth c cX3_forget RX3 "forget" 1 none) {x0 : Nat} {m : MM} (hM : M_X3_forget G x0 m = some (r9, m9)) (tx0 : Ty E G x0 3) : ∀ (H : Heap) (locs : List Loc), Hp E G m s H locs → ∀ ls : Array Slot, lv_has ls 1 [(0, .ref x0)] → W p l e rmX3_forget s mth args below meth c H locs 0 0 (MQ below (cQv E G m9) args s 0 0 (fun q => E.2.2.1 ≤ q)) (F0 mth 0 ls []) := by
  intro H locs h ls hl
  unfold M_X3_forget at hM
  refine lv_aload_n C.1 C.2.1 dX3_forget_0 rfl (lv_at hl 0 rfl) ?_
  refine lv_iconst (v := 0) C.1 C.2.1 dX3_forget_1 (by decide) ?_
  refine pt_3_0 C h tx0 fl_X3_9 dX3_forget_2 (fun H locs h => ?_)
  refine lv_aload_n C.1 C.2.1 dX3_forget_5 rfl (lv_at hl 0 rfl) ?_
  refine lv_iconst (v := 0) C.1 C.2.1 dX3_forget_6 (by decide) ?_
  refine pt_3_1 C h tx0 fl_X3_15 dX3_forget_7 (fun H locs h => ?_)
  obtain ⟨rfl, rfl⟩ := so_inj hM
  exact h_vret C h dX3_forget_10
theorem cy_X3_forget : Cy yX3_forget cX3_forget 1 none 0 := ⟨cd_yX3_forget, ii_X3, by decide, by decide, by decide +kernel⟩
set_option maxRecDepth 100000 in
theorem c_X3_forget {l : Launch} {E : EE} {G : GG} {x0 : Nat} {m m9 : MM} {r9 : Unit} (hM : M_X3_forget G x0 m = some (r9, m9)) (tx0 : Ty E G x0 3) : Mc l E yX3_forget cX3_forget 1 none rmX3_forget [.ref x0] G m (cQv E G m9) := M_of (by decide) (Nat.le_of_ble_eq_true rfl) (fun p e s mth below meth c C h ls hl => cM_X3_forget C hM tx0 _ _ h ls hl)
abbrev rmX3_note : Room := { frames := 0, cells := 0, slots := 0, locals := 0 }
def M_X3_note (G : GG) (x0 : Nat) (x1 : Int32) (x2 : Int32) (m : MM) : Option (Unit × MM) :=
  if (gI m x0 0) = 0 then
    some ((), sI (sI m x0 0 x1) x0 1 x2)
  else
    if x2 < (gI m x0 1) then
      some ((), sI (sI m x0 0 x1) x0 1 x2)
    else
      if x2 = (gI m x0 1) then
        if (gI m x0 0) ≤ x1 then
          some ((), m)
        else
          some ((), sI (sI m x0 0 x1) x0 1 x2)
      else
        some ((), m)
set_option maxRecDepth 100000 in
set_option maxHeartbeats 4000000 in
theorem cM_X3_note {p : Program} {l : Launch} {e : Env} {s : State} {mth : MethodId} {args : Array Value} {below : List Frame} {meth : Method} {c : Code} {E : EE} {G : GG} {r9 : Unit} {m9 : MM} (C : Cx E G p s mth args meth c cX3_note RX3 "note" 3 none) {x0 : Nat} {x1 : Int32} {x2 : Int32} {m : MM} (hM : M_X3_note G x0 x1 x2 m = some (r9, m9)) (tx0 : Ty E G x0 3) : ∀ (H : Heap) (locs : List Loc), Hp E G m s H locs → ∀ ls : Array Slot, lv_has ls 3 [(0, .ref x0), (1, .int x1), (2, .int x2)] → W p l e rmX3_note s mth args below meth c H locs 0 0 (MQ below (cQv E G m9) args s 0 0 (fun q => E.2.2.1 ≤ q)) (F0 mth 0 ls []) := by
  intro H locs h ls hl
  unfold M_X3_note at hM
  refine lv_aload_n C.1 C.2.1 dX3_note_0 rfl (lv_at hl 0 rfl) ?_
  refine gt_3_0 C h tx0 fl_X3_9 dX3_note_1 ?_
  refine lv_if_eq (tgt := 31) C.1 C.2.1 dX3_note_4 (by decide) (fun q => ?_) (fun q => ?_)
  · have hM := ite_t q hM
    refine lv_aload_n C.1 C.2.1 dX3_note_31 rfl (lv_at hl 0 rfl) ?_
    refine lv_iload_n C.1 C.2.1 dX3_note_32 rfl (lv_at hl 1 rfl) ?_
    refine pt_3_0 C h tx0 fl_X3_9 dX3_note_33 (fun H locs h => ?_)
    refine lv_aload_n C.1 C.2.1 dX3_note_36 rfl (lv_at hl 0 rfl) ?_
    refine lv_iload_n C.1 C.2.1 dX3_note_37 rfl (lv_at hl 2 rfl) ?_
    refine pt_3_1 C h tx0 fl_X3_15 dX3_note_38 (fun H locs h => ?_)
    obtain ⟨rfl, rfl⟩ := so_inj hM
    exact h_vret C h dX3_note_41
  · have hM := ite_f q hM
    refine lv_iload_n C.1 C.2.1 dX3_note_7 rfl (lv_at hl 2 rfl) ?_
    refine lv_aload_n C.1 C.2.1 dX3_note_8 rfl (lv_at hl 0 rfl) ?_
    refine gt_3_1 C h tx0 fl_X3_15 dX3_note_9 ?_
    refine lv_icmp_lt (tgt := 31) C.1 C.2.1 dX3_note_12 (by decide) (fun q => ?_) (fun q => ?_)
    · have hM := ite_t q hM
      refine lv_aload_n C.1 C.2.1 dX3_note_31 rfl (lv_at hl 0 rfl) ?_
      refine lv_iload_n C.1 C.2.1 dX3_note_32 rfl (lv_at hl 1 rfl) ?_
      refine pt_3_0 C h tx0 fl_X3_9 dX3_note_33 (fun H locs h => ?_)
      refine lv_aload_n C.1 C.2.1 dX3_note_36 rfl (lv_at hl 0 rfl) ?_
      refine lv_iload_n C.1 C.2.1 dX3_note_37 rfl (lv_at hl 2 rfl) ?_
      refine pt_3_1 C h tx0 fl_X3_15 dX3_note_38 (fun H locs h => ?_)
      obtain ⟨rfl, rfl⟩ := so_inj hM
      exact h_vret C h dX3_note_41
    · have hM := ite_f q hM
      refine lv_iload_n C.1 C.2.1 dX3_note_15 rfl (lv_at hl 2 rfl) ?_
      refine lv_aload_n C.1 C.2.1 dX3_note_16 rfl (lv_at hl 0 rfl) ?_
      refine gt_3_1 C h tx0 fl_X3_15 dX3_note_17 ?_
      refine lv_icmp_ne (tgt := 41) C.1 C.2.1 dX3_note_20 (by decide) (fun q => ?_) (fun q => ?_)
      · have hM := ite_f q hM
        obtain ⟨rfl, rfl⟩ := so_inj hM
        exact h_vret C h dX3_note_41
      · have hM := ite_t q hM
        refine lv_iload_n C.1 C.2.1 dX3_note_23 rfl (lv_at hl 1 rfl) ?_
        refine lv_aload_n C.1 C.2.1 dX3_note_24 rfl (lv_at hl 0 rfl) ?_
        refine gt_3_0 C h tx0 fl_X3_9 dX3_note_25 ?_
        refine lv_icmp_ge (tgt := 41) C.1 C.2.1 dX3_note_28 (by decide) (fun q => ?_) (fun q => ?_)
        · have hM := ite_t q hM
          obtain ⟨rfl, rfl⟩ := so_inj hM
          exact h_vret C h dX3_note_41
        · have hM := ite_f q hM
          refine lv_aload_n C.1 C.2.1 dX3_note_31 rfl (lv_at hl 0 rfl) ?_
          refine lv_iload_n C.1 C.2.1 dX3_note_32 rfl (lv_at hl 1 rfl) ?_
          refine pt_3_0 C h tx0 fl_X3_9 dX3_note_33 (fun H locs h => ?_)
          refine lv_aload_n C.1 C.2.1 dX3_note_36 rfl (lv_at hl 0 rfl) ?_
          refine lv_iload_n C.1 C.2.1 dX3_note_37 rfl (lv_at hl 2 rfl) ?_
          refine pt_3_1 C h tx0 fl_X3_15 dX3_note_38 (fun H locs h => ?_)
          obtain ⟨rfl, rfl⟩ := so_inj hM
          exact h_vret C h dX3_note_41
theorem cy_X3_note : Cy yX3_note cX3_note 3 none 2 := ⟨cd_yX3_note, ii_X3, by decide, by decide, by decide +kernel⟩
set_option maxRecDepth 100000 in
theorem c_X3_note {l : Launch} {E : EE} {G : GG} {x0 : Nat} {x1 : Int32} {x2 : Int32} {m m9 : MM} {r9 : Unit} (hM : M_X3_note G x0 x1 x2 m = some (r9, m9)) (tx0 : Ty E G x0 3) : Mc l E yX3_note cX3_note 3 none rmX3_note [.ref x0, .int x1, .int x2] G m (cQv E G m9) := M_of (by decide) (Nat.le_of_ble_eq_true rfl) (fun p e s mth below meth c C h ls hl => cM_X3_note C hM tx0 _ _ h ls hl)
abbrev rmX3_noteText : Room := { frames := 0, cells := 0, slots := 0, locals := 0 }
def M_X3_noteText (G : GG) (x0 : Nat) (x1 : Int32) (m : MM) : Option (Unit × MM) :=
  some ((), sI (sI m x0 0 1) x0 1 x1)
set_option maxRecDepth 100000 in
set_option maxHeartbeats 4000000 in
theorem cM_X3_noteText {p : Program} {l : Launch} {e : Env} {s : State} {mth : MethodId} {args : Array Value} {below : List Frame} {meth : Method} {c : Code} {E : EE} {G : GG} {r9 : Unit} {m9 : MM} (C : Cx E G p s mth args meth c cX3_noteText RX3 "noteText" 2 none) {x0 : Nat} {x1 : Int32} {m : MM} (hM : M_X3_noteText G x0 x1 m = some (r9, m9)) (tx0 : Ty E G x0 3) : ∀ (H : Heap) (locs : List Loc), Hp E G m s H locs → ∀ ls : Array Slot, lv_has ls 2 [(0, .ref x0), (1, .int x1)] → W p l e rmX3_noteText s mth args below meth c H locs 0 0 (MQ below (cQv E G m9) args s 0 0 (fun q => E.2.2.1 ≤ q)) (F0 mth 0 ls []) := by
  intro H locs h ls hl
  unfold M_X3_noteText at hM
  refine lv_aload_n C.1 C.2.1 dX3_noteText_0 rfl (lv_at hl 0 rfl) ?_
  refine lv_iconst (v := 1) C.1 C.2.1 dX3_noteText_1 (by decide) ?_
  refine pt_3_0 C h tx0 fl_X3_9 dX3_noteText_2 (fun H locs h => ?_)
  refine lv_aload_n C.1 C.2.1 dX3_noteText_5 rfl (lv_at hl 0 rfl) ?_
  refine lv_iload_n C.1 C.2.1 dX3_noteText_6 rfl (lv_at hl 1 rfl) ?_
  refine pt_3_1 C h tx0 fl_X3_15 dX3_noteText_7 (fun H locs h => ?_)
  obtain ⟨rfl, rfl⟩ := so_inj hM
  exact h_vret C h dX3_noteText_10
theorem cy_X3_noteText : Cy yX3_noteText cX3_noteText 2 none 1 := ⟨cd_yX3_noteText, ii_X3, by decide, by decide, by decide +kernel⟩
set_option maxRecDepth 100000 in
theorem c_X3_noteText {l : Launch} {E : EE} {G : GG} {x0 : Nat} {x1 : Int32} {m m9 : MM} {r9 : Unit} (hM : M_X3_noteText G x0 x1 m = some (r9, m9)) (tx0 : Ty E G x0 3) : Mc l E yX3_noteText cX3_noteText 2 none rmX3_noteText [.ref x0, .int x1] G m (cQv E G m9) := M_of (by decide) (Nat.le_of_ble_eq_true rfl) (fun p e s mth below meth c C h ls hl => cM_X3_noteText C hM tx0 _ _ h ls hl)
abbrev rmX6_begin : Room := { frames := 0, cells := 0, slots := 0, locals := 0 }
def M_X6_begin (G : GG) (x0 : Nat) (x1 : Nat) (m : MM) : Option (Unit × MM) :=
  some ((), sI (sI (sR m x0 5 (some x1)) x0 3 0) x0 4 0)
set_option maxRecDepth 100000 in
set_option maxHeartbeats 4000000 in
theorem cM_X6_begin {p : Program} {l : Launch} {e : Env} {s : State} {mth : MethodId} {args : Array Value} {below : List Frame} {meth : Method} {c : Code} {E : EE} {G : GG} {r9 : Unit} {m9 : MM} (C : Cx E G p s mth args meth c cX6_begin RX6 "begin" 2 none) {x0 : Nat} {x1 : Nat} {m : MM} (hM : M_X6_begin G x0 x1 m = some (r9, m9)) (tx0 : Ty E G x0 6) (tx1 : Ty E G x1 8) : ∀ (H : Heap) (locs : List Loc), Hp E G m s H locs → ∀ ls : Array Slot, lv_has ls 2 [(0, .ref x0), (1, .ref x1)] → W p l e rmX6_begin s mth args below meth c H locs 0 0 (MQ below (cQv E G m9) args s 0 0 (fun q => E.2.2.1 ≤ q)) (F0 mth 0 ls []) := by
  intro H locs h ls hl
  unfold M_X6_begin at hM
  refine lv_aload_n C.1 C.2.1 dX6_begin_0 rfl (lv_at hl 0 rfl) ?_
  refine lv_aload_n C.1 C.2.1 dX6_begin_1 rfl (lv_at hl 1 rfl) ?_
  refine st_some ?_
  refine pt_6_5 C h (fun b hb => by cases hb; exact tx1) tx0 fl_X6_26 dX6_begin_2 (fun H locs h => ?_)
  refine lv_aload_n C.1 C.2.1 dX6_begin_5 rfl (lv_at hl 0 rfl) ?_
  refine lv_iconst (v := 0) C.1 C.2.1 dX6_begin_6 (by decide) ?_
  refine pt_6_3 C h tx0 fl_X6_30 dX6_begin_7 (fun H locs h => ?_)
  refine lv_aload_n C.1 C.2.1 dX6_begin_10 rfl (lv_at hl 0 rfl) ?_
  refine lv_iconst (v := 0) C.1 C.2.1 dX6_begin_11 (by decide) ?_
  refine pt_6_4 C h tx0 fl_X6_34 dX6_begin_12 (fun H locs h => ?_)
  obtain ⟨rfl, rfl⟩ := so_inj hM
  exact h_vret C h dX6_begin_15
theorem cy_X6_begin : Cy yX6_begin cX6_begin 2 none 1 := ⟨cd_yX6_begin, ii_X6, by decide, by decide, by decide +kernel⟩
set_option maxRecDepth 100000 in
theorem c_X6_begin {l : Launch} {E : EE} {G : GG} {x0 : Nat} {x1 : Nat} {m m9 : MM} {r9 : Unit} (hM : M_X6_begin G x0 x1 m = some (r9, m9)) (tx0 : Ty E G x0 6) (tx1 : Ty E G x1 8) : Mc l E yX6_begin cX6_begin 2 none rmX6_begin [.ref x0, .ref x1] G m (cQv E G m9) := M_of (by decide) (Nat.le_of_ble_eq_true rfl) (fun p e s mth below meth c C h ls hl => cM_X6_begin C hM tx0 tx1 _ _ h ls hl)
abbrev rmX6_addEnum : Room := { frames := 1, cells := 0, slots := 0, locals := 20 }
def M_X6_addEnum (G : GG) (x0 : Nat) (x1 : Int32) (m : MM) : Option (Option Nat × MM) :=
  nb (gR m x0 0) fun b_1 =>
    if (nI (G.2.2 b_1)) ≤ (gI m x0 3) then
      some (none, m)
    else
      nb (gR m x0 1) fun b_2 =>
        if (gI m x0 3) < (nI (G.2.2 b_2)) then
          ib (gI m x0 3) (G.2.2 b_2) <|
            nb (gR (sI m b_2 ((gI m x0 3).toNatClampNeg) x1) x0 0) fun b_3 =>
              ib (gI (sI m b_2 ((gI m x0 3).toNatClampNeg) x1) x0 3) (G.2.2 b_3) <|
                nb (gR (sI m b_2 ((gI m x0 3).toNatClampNeg) x1) b_3 ((gI (sI m b_2 ((gI m x0 3).toNatClampNeg) x1) x0 3).toNatClampNeg)) fun b_4 =>
                  bd (M_X1_begin G b_4 (sI m b_2 ((gI m x0 3).toNatClampNeg) x1)) fun _ m_6 =>
                    nb (gR (sI m_6 x0 3 ((gI m_6 x0 3) + 1)) x0 0) fun b_7 =>
                      ib ((gI (sI m_6 x0 3 ((gI m_6 x0 3) + 1)) x0 3) - 1) (G.2.2 b_7) <|
                        some (gR (sI m_6 x0 3 ((gI m_6 x0 3) + 1)) b_7 (((gI (sI m_6 x0 3 ((gI m_6 x0 3) + 1)) x0 3) - 1).toNatClampNeg), sI m_6 x0 3 ((gI m_6 x0 3) + 1))
        else
          some (none, m)
set_option maxRecDepth 100000 in
set_option maxHeartbeats 4000000 in
theorem cM_X6_addEnum {p : Program} {l : Launch} {e : Env} {s : State} {mth : MethodId} {args : Array Value} {below : List Frame} {meth : Method} {c : Code} {E : EE} {G : GG} {r9 : Option Nat} {m9 : MM} (C : Cx E G p s mth args meth c cX6_addEnum RX6 "addEnum" 2 (some (.object "EnumRules$Enumeration"))) {x0 : Nat} {x1 : Int32} {m : MM} (hM : M_X6_addEnum G x0 x1 m = some (r9, m9)) (tx0 : Ty E G x0 6) : ∀ (H : Heap) (locs : List Loc), Hp E G m s H locs → ∀ ls : Array Slot, lv_has ls 2 [(0, .ref x0), (1, .int x1)] → W p l e rmX6_addEnum s mth args below meth c H locs 0 0 (MQ below (cQq E r9 1 G m9) args s 0 0 (fun q => E.2.2.1 ≤ q)) (F0 mth 0 ls []) := by
  intro H locs h ls hl
  unfold M_X6_addEnum at hM
  refine lv_aload_n C.1 C.2.1 dX6_addEnum_0 rfl (lv_at hl 0 rfl) ?_
  refine gt_6_3 C h tx0 fl_X6_30 dX6_addEnum_1 ?_
  refine lv_aload_n C.1 C.2.1 dX6_addEnum_4 rfl (lv_at hl 0 rfl) ?_
  refine gt_6_0 C h tx0 fl_X6_11 dX6_addEnum_5 ?_
  obtain ⟨b_1, hb_1, hM⟩ := nb_some hM
  have tb_1 : Ty E G b_1 16 := (fun b hb => tyf h tx0 hb) _ hb_1
  refine st_ref hb_1 ?_
  refine h_alen C h 16 (by decide) (by decide) tb_1 dX6_addEnum_8 ?_
  refine lv_icmp_ge (tgt := 24) C.1 C.2.1 dX6_addEnum_9 (by decide) (fun q => ?_) (fun q => ?_)
  · have hM := ite_t q hM
    refine lv_null C.1 C.2.1 dX6_addEnum_24 ?_
    refine st_null ?_
    obtain ⟨rfl, rfl⟩ := so_inj hM
    exact h_aret C (Or.inl ⟨_, rfl⟩) h (fun b hb => by cases hb) dX6_addEnum_25
  · have hM := ite_f q hM
    refine lv_aload_n C.1 C.2.1 dX6_addEnum_12 rfl (lv_at hl 0 rfl) ?_
    refine gt_6_3 C h tx0 fl_X6_30 dX6_addEnum_13 ?_
    refine lv_aload_n C.1 C.2.1 dX6_addEnum_16 rfl (lv_at hl 0 rfl) ?_
    refine gt_6_1 C h tx0 fl_X6_17 dX6_addEnum_17 ?_
    obtain ⟨b_2, hb_2, hM⟩ := nb_some hM
    have tb_2 : Ty E G b_2 12 := (fun b hb => tyf h tx0 hb) _ hb_2
    refine st_ref hb_2 ?_
    refine h_alen C h 12 (by decide) (by decide) tb_2 dX6_addEnum_20 ?_
    refine lv_icmp_lt (tgt := 26) C.1 C.2.1 dX6_addEnum_21 (by decide) (fun q => ?_) (fun q => ?_)
    · have hM := ite_t q hM
      refine lv_aload_n C.1 C.2.1 dX6_addEnum_26 rfl (lv_at hl 0 rfl) ?_
      refine gt_6_1 C h tx0 fl_X6_17 dX6_addEnum_27 ?_
      refine st_ref hb_2 ?_
      refine lv_aload_n C.1 C.2.1 dX6_addEnum_30 rfl (lv_at hl 0 rfl) ?_
      refine gt_6_3 C h tx0 fl_X6_30 dX6_addEnum_31 ?_
      refine lv_iload_n C.1 C.2.1 dX6_addEnum_34 rfl (lv_at hl 1 rfl) ?_
      obtain ⟨hi, hM⟩ := ib_some hM
      refine h_iast C h tb_2 hi dX6_addEnum_35 (fun H locs h => ?_)
      refine lv_aload_n C.1 C.2.1 dX6_addEnum_36 rfl (lv_at hl 0 rfl) ?_
      refine gt_6_0 C h tx0 fl_X6_11 dX6_addEnum_37 ?_
      obtain ⟨b_3, hb_3, hM⟩ := nb_some hM
      have tb_3 : Ty E G b_3 16 := (fun b hb => tyf h tx0 hb) _ hb_3
      refine st_ref hb_3 ?_
      refine lv_aload_n C.1 C.2.1 dX6_addEnum_40 rfl (lv_at hl 0 rfl) ?_
      refine gt_6_3 C h tx0 fl_X6_30 dX6_addEnum_41 ?_
      obtain ⟨hi, hM⟩ := ib_some hM
      refine h_aald C h tb_3 hi dX6_addEnum_44 ?_
      obtain ⟨b_4, hb_4, hM⟩ := nb_some hM
      have tb_4 : Ty E G b_4 1 := (fun b hb => tyf h tb_3 hb) _ hb_4
      refine st_ref hb_4 ?_
      obtain ⟨r_5, m_6, hc_5, hM⟩ := bd_some hM
      refine h_callVv C h (As := []) (rest := []) m_6 (c_X1_begin hc_5 tb_4) 1 rfl (by decide) tb_4 im_yX1_begin se_yX1_begin cy_X1_begin rfl ml_X6_37 ⟨by decide, by decide⟩ ⟨Nat.zero_le _, Nat.zero_le _⟩ hl.1 rfl (Nat.le_of_ble_eq_true rfl) dX6_addEnum_45 (fun H locs h => ?_)
      refine lv_aload_n C.1 C.2.1 dX6_addEnum_48 rfl (lv_at hl 0 rfl) ?_
      refine lv_dup C.1 C.2.1 dX6_addEnum_49 rfl ?_
      refine gt_6_3 C h tx0 fl_X6_30 dX6_addEnum_50 ?_
      refine lv_iconst (v := 1) C.1 C.2.1 dX6_addEnum_53 (by decide) ?_
      refine lv_iadd C.1 C.2.1 dX6_addEnum_54 ?_
      refine pt_6_3 C h tx0 fl_X6_30 dX6_addEnum_55 (fun H locs h => ?_)
      refine lv_aload_n C.1 C.2.1 dX6_addEnum_58 rfl (lv_at hl 0 rfl) ?_
      refine gt_6_0 C h tx0 fl_X6_11 dX6_addEnum_59 ?_
      obtain ⟨b_7, hb_7, hM⟩ := nb_some hM
      have tb_7 : Ty E G b_7 16 := (fun b hb => tyf h tx0 hb) _ hb_7
      refine st_ref hb_7 ?_
      refine lv_aload_n C.1 C.2.1 dX6_addEnum_62 rfl (lv_at hl 0 rfl) ?_
      refine gt_6_3 C h tx0 fl_X6_30 dX6_addEnum_63 ?_
      refine lv_iconst (v := 1) C.1 C.2.1 dX6_addEnum_66 (by decide) ?_
      refine lv_isub C.1 C.2.1 dX6_addEnum_67 ?_
      obtain ⟨hi, hM⟩ := ib_some hM
      refine h_aald C h tb_7 hi dX6_addEnum_68 ?_
      have tq_8 : ∀ b, gR (sI m_6 x0 3 ((gI m_6 x0 3) + 1)) b_7 (((gI (sI m_6 x0 3 ((gI m_6 x0 3) + 1)) x0 3) - 1).toNatClampNeg) = some b → Ty E G b 1 := (fun b hb => tyf h tb_7 hb)
      obtain ⟨rfl, rfl⟩ := so_inj hM
      exact h_aret C (Or.inl ⟨_, rfl⟩) h tq_8 dX6_addEnum_69
    · have hM := ite_f q hM
      refine lv_null C.1 C.2.1 dX6_addEnum_24 ?_
      refine st_null ?_
      obtain ⟨rfl, rfl⟩ := so_inj hM
      exact h_aret C (Or.inl ⟨_, rfl⟩) h (fun b hb => by cases hb) dX6_addEnum_25
theorem cy_X6_addEnum : Cy yX6_addEnum cX6_addEnum 2 (some (.object "EnumRules$Enumeration")) 1 := ⟨cd_yX6_addEnum, ii_X6, by decide, by decide, by decide +kernel⟩
set_option maxRecDepth 100000 in
theorem c_X6_addEnum {l : Launch} {E : EE} {G : GG} {x0 : Nat} {x1 : Int32} {m m9 : MM} {r9 : Option Nat} (hM : M_X6_addEnum G x0 x1 m = some (r9, m9)) (tx0 : Ty E G x0 6) : Mc l E yX6_addEnum cX6_addEnum 2 (some (.object "EnumRules$Enumeration")) rmX6_addEnum [.ref x0, .int x1] G m (cQq E r9 1 G m9) := M_of (by decide) (Nat.le_of_ble_eq_true rfl) (fun p e s mth below meth c C h ls hl => cM_X6_addEnum C hM tx0 _ _ h ls hl)
abbrev rmX6_enumAt : Room := { frames := 0, cells := 0, slots := 0, locals := 0 }
def M_X6_enumAt (G : GG) (x0 : Nat) (x1 : Int32) (m : MM) : Option (Option Nat × MM) :=
  if x1 < 0 then
    some (none, m)
  else
    if (gI m x0 3) ≤ x1 then
      some (none, m)
    else
      nb (gR m x0 0) fun b_1 =>
        if x1 < (nI (G.2.2 b_1)) then
          ib x1 (G.2.2 b_1) <|
            some (gR m b_1 x1.toNatClampNeg, m)
        else
          some (none, m)
set_option maxRecDepth 100000 in
set_option maxHeartbeats 4000000 in
theorem cM_X6_enumAt {p : Program} {l : Launch} {e : Env} {s : State} {mth : MethodId} {args : Array Value} {below : List Frame} {meth : Method} {c : Code} {E : EE} {G : GG} {r9 : Option Nat} {m9 : MM} (C : Cx E G p s mth args meth c cX6_enumAt RX6 "enumAt" 2 (some (.object "EnumRules$Enumeration"))) {x0 : Nat} {x1 : Int32} {m : MM} (hM : M_X6_enumAt G x0 x1 m = some (r9, m9)) (tx0 : Ty E G x0 6) : ∀ (H : Heap) (locs : List Loc), Hp E G m s H locs → ∀ ls : Array Slot, lv_has ls 2 [(0, .ref x0), (1, .int x1)] → W p l e rmX6_enumAt s mth args below meth c H locs 0 0 (MQ below (cQq E r9 1 G m9) args s 0 0 (fun q => E.2.2.1 ≤ q)) (F0 mth 0 ls []) := by
  intro H locs h ls hl
  unfold M_X6_enumAt at hM
  refine lv_iload_n C.1 C.2.1 dX6_enumAt_0 rfl (lv_at hl 1 rfl) ?_
  refine lv_if_lt (tgt := 21) C.1 C.2.1 dX6_enumAt_1 (by decide) (fun q => ?_) (fun q => ?_)
  · have hM := ite_t q hM
    refine lv_null C.1 C.2.1 dX6_enumAt_21 ?_
    refine st_null ?_
    refine lv_goto (tgt := 31) C.1 C.2.1 dX6_enumAt_22 (by decide) ?_
    obtain ⟨rfl, rfl⟩ := so_inj hM
    exact h_aret C (Or.inl ⟨_, rfl⟩) h (fun b hb => by cases hb) dX6_enumAt_31
  · have hM := ite_f q hM
    refine lv_iload_n C.1 C.2.1 dX6_enumAt_4 rfl (lv_at hl 1 rfl) ?_
    refine lv_aload_n C.1 C.2.1 dX6_enumAt_5 rfl (lv_at hl 0 rfl) ?_
    refine gt_6_3 C h tx0 fl_X6_30 dX6_enumAt_6 ?_
    refine lv_icmp_ge (tgt := 21) C.1 C.2.1 dX6_enumAt_9 (by decide) (fun q => ?_) (fun q => ?_)
    · have hM := ite_t q hM
      refine lv_null C.1 C.2.1 dX6_enumAt_21 ?_
      refine st_null ?_
      refine lv_goto (tgt := 31) C.1 C.2.1 dX6_enumAt_22 (by decide) ?_
      obtain ⟨rfl, rfl⟩ := so_inj hM
      exact h_aret C (Or.inl ⟨_, rfl⟩) h (fun b hb => by cases hb) dX6_enumAt_31
    · have hM := ite_f q hM
      refine lv_iload_n C.1 C.2.1 dX6_enumAt_12 rfl (lv_at hl 1 rfl) ?_
      refine lv_aload_n C.1 C.2.1 dX6_enumAt_13 rfl (lv_at hl 0 rfl) ?_
      refine gt_6_0 C h tx0 fl_X6_11 dX6_enumAt_14 ?_
      obtain ⟨b_1, hb_1, hM⟩ := nb_some hM
      have tb_1 : Ty E G b_1 16 := (fun b hb => tyf h tx0 hb) _ hb_1
      refine st_ref hb_1 ?_
      refine h_alen C h 16 (by decide) (by decide) tb_1 dX6_enumAt_17 ?_
      refine lv_icmp_lt (tgt := 25) C.1 C.2.1 dX6_enumAt_18 (by decide) (fun q => ?_) (fun q => ?_)
      · have hM := ite_t q hM
        refine lv_aload_n C.1 C.2.1 dX6_enumAt_25 rfl (lv_at hl 0 rfl) ?_
        refine gt_6_0 C h tx0 fl_X6_11 dX6_enumAt_26 ?_
        refine st_ref hb_1 ?_
        refine lv_iload_n C.1 C.2.1 dX6_enumAt_29 rfl (lv_at hl 1 rfl) ?_
        obtain ⟨hi, hM⟩ := ib_some hM
        refine h_aald C h tb_1 hi dX6_enumAt_30 ?_
        have tq_2 : ∀ b, gR m b_1 x1.toNatClampNeg = some b → Ty E G b 1 := (fun b hb => tyf h tb_1 hb)
        obtain ⟨rfl, rfl⟩ := so_inj hM
        exact h_aret C (Or.inl ⟨_, rfl⟩) h tq_2 dX6_enumAt_31
      · have hM := ite_f q hM
        refine lv_null C.1 C.2.1 dX6_enumAt_21 ?_
        refine st_null ?_
        refine lv_goto (tgt := 31) C.1 C.2.1 dX6_enumAt_22 (by decide) ?_
        obtain ⟨rfl, rfl⟩ := so_inj hM
        exact h_aret C (Or.inl ⟨_, rfl⟩) h (fun b hb => by cases hb) dX6_enumAt_31
theorem cy_X6_enumAt : Cy yX6_enumAt cX6_enumAt 2 (some (.object "EnumRules$Enumeration")) 1 := ⟨cd_yX6_enumAt, ii_X6, by decide, by decide, by decide +kernel⟩
set_option maxRecDepth 100000 in
theorem c_X6_enumAt {l : Launch} {E : EE} {G : GG} {x0 : Nat} {x1 : Int32} {m m9 : MM} {r9 : Option Nat} (hM : M_X6_enumAt G x0 x1 m = some (r9, m9)) (tx0 : Ty E G x0 6) : Mc l E yX6_enumAt cX6_enumAt 2 (some (.object "EnumRules$Enumeration")) rmX6_enumAt [.ref x0, .int x1] G m (cQq E r9 1 G m9) := M_of (by decide) (Nat.le_of_ble_eq_true rfl) (fun p e s mth below meth c C h ls hl => cM_X6_enumAt C hM tx0 _ _ h ls hl)
abbrev rmX6_put : Room := { frames := 0, cells := 0, slots := 0, locals := 0 }
def M_X6_put (G : GG) (x0 : Nat) (x1 : Int32) (x2 : Int32) (m : MM) : Option (Bool × MM) :=
  nb (gR m x0 2) fun b_1 =>
    if (gI m x0 4) < (nI (G.2.2 b_1)) then
      ib (gI m x0 4) (G.2.2 b_1) <|
        some (true, sI (sL m b_1 ((gI m x0 4).toNatClampNeg) ((x2.toInt64 * 16) + x1.toInt64)) x0 4 ((gI (sL m b_1 ((gI m x0 4).toNatClampNeg) ((x2.toInt64 * 16) + x1.toInt64)) x0 4) + 1))
    else
      some (false, m)
set_option maxRecDepth 100000 in
set_option maxHeartbeats 4000000 in
theorem cM_X6_put {p : Program} {l : Launch} {e : Env} {s : State} {mth : MethodId} {args : Array Value} {below : List Frame} {meth : Method} {c : Code} {E : EE} {G : GG} {r9 : Bool} {m9 : MM} (C : Cx E G p s mth args meth c cX6_put RX6 "put" 3 (some .boolean)) {x0 : Nat} {x1 : Int32} {x2 : Int32} {m : MM} (hM : M_X6_put G x0 x1 x2 m = some (r9, m9)) (tx0 : Ty E G x0 6) : ∀ (H : Heap) (locs : List Loc), Hp E G m s H locs → ∀ ls : Array Slot, lv_has ls 3 [(0, .ref x0), (1, .int x1), (2, .int x2)] → W p l e rmX6_put s mth args below meth c H locs 0 0 (MQ below (cQi E (bz r9) G m9) args s 0 0 (fun q => E.2.2.1 ≤ q)) (F0 mth 0 ls []) := by
  intro H locs h ls hl
  unfold M_X6_put at hM
  refine lv_aload_n C.1 C.2.1 dX6_put_0 rfl (lv_at hl 0 rfl) ?_
  refine gt_6_4 C h tx0 fl_X6_34 dX6_put_1 ?_
  refine lv_aload_n C.1 C.2.1 dX6_put_4 rfl (lv_at hl 0 rfl) ?_
  refine gt_6_2 C h tx0 fl_X6_21 dX6_put_5 ?_
  obtain ⟨b_1, hb_1, hM⟩ := nb_some hM
  have tb_1 : Ty E G b_1 15 := (fun b hb => tyf h tx0 hb) _ hb_1
  refine st_ref hb_1 ?_
  refine h_alen C h 15 (by decide) (by decide) tb_1 dX6_put_8 ?_
  refine lv_icmp_lt (tgt := 14) C.1 C.2.1 dX6_put_9 (by decide) (fun q => ?_) (fun q => ?_)
  · have hM := ite_t q hM
    refine lv_aload_n C.1 C.2.1 dX6_put_14 rfl (lv_at hl 0 rfl) ?_
    refine gt_6_2 C h tx0 fl_X6_21 dX6_put_15 ?_
    refine st_ref hb_1 ?_
    refine lv_aload_n C.1 C.2.1 dX6_put_18 rfl (lv_at hl 0 rfl) ?_
    refine gt_6_4 C h tx0 fl_X6_34 dX6_put_19 ?_
    refine lv_iload_n C.1 C.2.1 dX6_put_22 rfl (lv_at hl 2 rfl) ?_
    refine lv_i2l (v := x2.toInt64) C.1 C.2.1 dX6_put_23 rfl ?_
    refine lv_ldc2 C.1 C.2.1 C.2.2.2.1 (C.2.2.2.2.1 _ cj_X6_42) dX6_put_24 ?_
    refine lv_lmul C.1 C.2.1 dX6_put_27 ?_
    refine lv_iload_n C.1 C.2.1 dX6_put_28 rfl (lv_at hl 1 rfl) ?_
    refine lv_i2l (v := x1.toInt64) C.1 C.2.1 dX6_put_29 rfl ?_
    refine lv_ladd C.1 C.2.1 dX6_put_30 ?_
    obtain ⟨hi, hM⟩ := ib_some hM
    refine h_last C h tb_1 hi dX6_put_31 (fun H locs h => ?_)
    refine lv_aload_n C.1 C.2.1 dX6_put_32 rfl (lv_at hl 0 rfl) ?_
    refine lv_dup C.1 C.2.1 dX6_put_33 rfl ?_
    refine gt_6_4 C h tx0 fl_X6_34 dX6_put_34 ?_
    refine lv_iconst (v := 1) C.1 C.2.1 dX6_put_37 (by decide) ?_
    refine lv_iadd C.1 C.2.1 dX6_put_38 ?_
    refine pt_6_4 C h tx0 fl_X6_34 dX6_put_39 (fun H locs h => ?_)
    refine lv_iconst (v := 1) C.1 C.2.1 dX6_put_42 (by decide) ?_
    obtain ⟨rfl, rfl⟩ := so_inj hM
    exact h_zret C h (bz_ok _).1 dX6_put_43
  · have hM := ite_f q hM
    refine lv_iconst (v := 0) C.1 C.2.1 dX6_put_12 (by decide) ?_
    obtain ⟨rfl, rfl⟩ := so_inj hM
    exact h_zret C h (bz_ok _).1 dX6_put_13
theorem cy_X6_put : Cy yX6_put cX6_put 3 (some .boolean) 2 := ⟨cd_yX6_put, ii_X6, by decide, by decide, by decide +kernel⟩
set_option maxRecDepth 100000 in
theorem c_X6_put {l : Launch} {E : EE} {G : GG} {x0 : Nat} {x1 : Int32} {x2 : Int32} {m m9 : MM} {r9 : Bool} (hM : M_X6_put G x0 x1 x2 m = some (r9, m9)) (tx0 : Ty E G x0 6) : Mc l E yX6_put cX6_put 3 (some .boolean) rmX6_put [.ref x0, .int x1, .int x2] G m (cQi E (bz r9) G m9) := M_of (by decide) (Nat.le_of_ble_eq_true rfl) (fun p e s mth below meth c C h ls hl => cM_X6_put C hM tx0 _ _ h ls hl)
abbrev rmX6_opAt : Room := { frames := 0, cells := 0, slots := 0, locals := 0 }
def M_X6_opAt (G : GG) (x0 : Nat) (x1 : Int32) (m : MM) : Option (Int32 × MM) :=
  if x1 < 0 then
    some (0, m)
  else
    if (gI m x0 4) ≤ x1 then
      some (0, m)
    else
      nb (gR m x0 2) fun b_1 =>
        if x1 < (nI (G.2.2 b_1)) then
          ib x1 (G.2.2 b_1) <|
            some (((gL m b_1 x1.toNatClampNeg) - (gL m b_1 x1.toNatClampNeg) / 16 * 16).toInt32, m)
        else
          some (0, m)
set_option maxRecDepth 100000 in
set_option maxHeartbeats 4000000 in
theorem cM_X6_opAt {p : Program} {l : Launch} {e : Env} {s : State} {mth : MethodId} {args : Array Value} {below : List Frame} {meth : Method} {c : Code} {E : EE} {G : GG} {r9 : Int32} {m9 : MM} (C : Cx E G p s mth args meth c cX6_opAt RX6 "opAt" 2 (some .int)) {x0 : Nat} {x1 : Int32} {m : MM} (hM : M_X6_opAt G x0 x1 m = some (r9, m9)) (tx0 : Ty E G x0 6) : ∀ (H : Heap) (locs : List Loc), Hp E G m s H locs → ∀ ls : Array Slot, lv_has ls 2 [(0, .ref x0), (1, .int x1)] → W p l e rmX6_opAt s mth args below meth c H locs 0 0 (MQ below (cQi E r9 G m9) args s 0 0 (fun q => E.2.2.1 ≤ q)) (F0 mth 0 ls []) := by
  intro H locs h ls hl
  unfold M_X6_opAt at hM
  refine lv_iload_n C.1 C.2.1 dX6_opAt_0 rfl (lv_at hl 1 rfl) ?_
  refine lv_if_lt (tgt := 21) C.1 C.2.1 dX6_opAt_1 (by decide) (fun q => ?_) (fun q => ?_)
  · have hM := ite_t q hM
    refine lv_iconst (v := 0) C.1 C.2.1 dX6_opAt_21 (by decide) ?_
    refine lv_goto (tgt := 36) C.1 C.2.1 dX6_opAt_22 (by decide) ?_
    obtain ⟨rfl, rfl⟩ := so_inj hM
    exact h_iret C h dX6_opAt_36
  · have hM := ite_f q hM
    refine lv_iload_n C.1 C.2.1 dX6_opAt_4 rfl (lv_at hl 1 rfl) ?_
    refine lv_aload_n C.1 C.2.1 dX6_opAt_5 rfl (lv_at hl 0 rfl) ?_
    refine gt_6_4 C h tx0 fl_X6_34 dX6_opAt_6 ?_
    refine lv_icmp_ge (tgt := 21) C.1 C.2.1 dX6_opAt_9 (by decide) (fun q => ?_) (fun q => ?_)
    · have hM := ite_t q hM
      refine lv_iconst (v := 0) C.1 C.2.1 dX6_opAt_21 (by decide) ?_
      refine lv_goto (tgt := 36) C.1 C.2.1 dX6_opAt_22 (by decide) ?_
      obtain ⟨rfl, rfl⟩ := so_inj hM
      exact h_iret C h dX6_opAt_36
    · have hM := ite_f q hM
      refine lv_iload_n C.1 C.2.1 dX6_opAt_12 rfl (lv_at hl 1 rfl) ?_
      refine lv_aload_n C.1 C.2.1 dX6_opAt_13 rfl (lv_at hl 0 rfl) ?_
      refine gt_6_2 C h tx0 fl_X6_21 dX6_opAt_14 ?_
      obtain ⟨b_1, hb_1, hM⟩ := nb_some hM
      have tb_1 : Ty E G b_1 15 := (fun b hb => tyf h tx0 hb) _ hb_1
      refine st_ref hb_1 ?_
      refine h_alen C h 15 (by decide) (by decide) tb_1 dX6_opAt_17 ?_
      refine lv_icmp_lt (tgt := 25) C.1 C.2.1 dX6_opAt_18 (by decide) (fun q => ?_) (fun q => ?_)
      · have hM := ite_t q hM
        refine lv_aload_n C.1 C.2.1 dX6_opAt_25 rfl (lv_at hl 0 rfl) ?_
        refine gt_6_2 C h tx0 fl_X6_21 dX6_opAt_26 ?_
        refine st_ref hb_1 ?_
        refine lv_iload_n C.1 C.2.1 dX6_opAt_29 rfl (lv_at hl 1 rfl) ?_
        obtain ⟨hi, hM⟩ := ib_some hM
        refine h_lald C h tb_1 hi dX6_opAt_30 ?_
        refine lv_ldc2 C.1 C.2.1 C.2.2.2.1 (C.2.2.2.2.1 _ cj_X6_42) dX6_opAt_31 ?_
        refine lv_lrem C.1 C.2.1 dX6_opAt_34 (by decide) ?_
        refine lv_l2i (v := ((gL m b_1 x1.toNatClampNeg) - (gL m b_1 x1.toNatClampNeg) / 16 * 16).toInt32) C.1 C.2.1 dX6_opAt_35 rfl ?_
        obtain ⟨rfl, rfl⟩ := so_inj hM
        exact h_iret C h dX6_opAt_36
      · have hM := ite_f q hM
        refine lv_iconst (v := 0) C.1 C.2.1 dX6_opAt_21 (by decide) ?_
        refine lv_goto (tgt := 36) C.1 C.2.1 dX6_opAt_22 (by decide) ?_
        obtain ⟨rfl, rfl⟩ := so_inj hM
        exact h_iret C h dX6_opAt_36
theorem cy_X6_opAt : Cy yX6_opAt cX6_opAt 2 (some .int) 1 := ⟨cd_yX6_opAt, ii_X6, by decide, by decide, by decide +kernel⟩
set_option maxRecDepth 100000 in
theorem c_X6_opAt {l : Launch} {E : EE} {G : GG} {x0 : Nat} {x1 : Int32} {m m9 : MM} {r9 : Int32} (hM : M_X6_opAt G x0 x1 m = some (r9, m9)) (tx0 : Ty E G x0 6) : Mc l E yX6_opAt cX6_opAt 2 (some .int) rmX6_opAt [.ref x0, .int x1] G m (cQi E r9 G m9) := M_of (by decide) (Nat.le_of_ble_eq_true rfl) (fun p e s mth below meth c C h ls hl => cM_X6_opAt C hM tx0 _ _ h ls hl)
abbrev rmX6_bindTo : Room := { frames := 1, cells := 0, slots := 0, locals := 21 }
def M_X6_bindTo (G : GG) (x0 : Nat) (x1 : Int32) (x2 : Int32) (m : MM) : Option (Unit × MM) :=
  if x1 < 0 then
    some ((), m)
  else
    if (gI m x0 4) ≤ x1 then
      some ((), m)
    else
      nb (gR m x0 2) fun b_1 =>
        if (nI (G.2.2 b_1)) ≤ x1 then
          some ((), m)
        else
          bd (M_X6_opAt G x0 x1 m) fun r_2 m_3 =>
            ib x1 (G.2.2 b_1) <|
              some ((), sL m_3 b_1 x1.toNatClampNeg ((x2.toInt64 * 16) + r_2.toInt64))
set_option maxRecDepth 100000 in
set_option maxHeartbeats 4000000 in
theorem cM_X6_bindTo {p : Program} {l : Launch} {e : Env} {s : State} {mth : MethodId} {args : Array Value} {below : List Frame} {meth : Method} {c : Code} {E : EE} {G : GG} {r9 : Unit} {m9 : MM} (C : Cx E G p s mth args meth c cX6_bindTo RX6 "bindTo" 3 none) {x0 : Nat} {x1 : Int32} {x2 : Int32} {m : MM} (hM : M_X6_bindTo G x0 x1 x2 m = some (r9, m9)) (tx0 : Ty E G x0 6) : ∀ (H : Heap) (locs : List Loc), Hp E G m s H locs → ∀ ls : Array Slot, lv_has ls 3 [(0, .ref x0), (1, .int x1), (2, .int x2)] → W p l e rmX6_bindTo s mth args below meth c H locs 0 0 (MQ below (cQv E G m9) args s 0 0 (fun q => E.2.2.1 ≤ q)) (F0 mth 0 ls []) := by
  intro H locs h ls hl
  unfold M_X6_bindTo at hM
  refine lv_iload_n C.1 C.2.1 dX6_bindTo_0 rfl (lv_at hl 1 rfl) ?_
  refine lv_if_lt (tgt := 40) C.1 C.2.1 dX6_bindTo_1 (by decide) (fun q => ?_) (fun q => ?_)
  · have hM := ite_t q hM
    obtain ⟨rfl, rfl⟩ := so_inj hM
    exact h_vret C h dX6_bindTo_40
  · have hM := ite_f q hM
    refine lv_iload_n C.1 C.2.1 dX6_bindTo_4 rfl (lv_at hl 1 rfl) ?_
    refine lv_aload_n C.1 C.2.1 dX6_bindTo_5 rfl (lv_at hl 0 rfl) ?_
    refine gt_6_4 C h tx0 fl_X6_34 dX6_bindTo_6 ?_
    refine lv_icmp_ge (tgt := 40) C.1 C.2.1 dX6_bindTo_9 (by decide) (fun q => ?_) (fun q => ?_)
    · have hM := ite_t q hM
      obtain ⟨rfl, rfl⟩ := so_inj hM
      exact h_vret C h dX6_bindTo_40
    · have hM := ite_f q hM
      refine lv_iload_n C.1 C.2.1 dX6_bindTo_12 rfl (lv_at hl 1 rfl) ?_
      refine lv_aload_n C.1 C.2.1 dX6_bindTo_13 rfl (lv_at hl 0 rfl) ?_
      refine gt_6_2 C h tx0 fl_X6_21 dX6_bindTo_14 ?_
      obtain ⟨b_1, hb_1, hM⟩ := nb_some hM
      have tb_1 : Ty E G b_1 15 := (fun b hb => tyf h tx0 hb) _ hb_1
      refine st_ref hb_1 ?_
      refine h_alen C h 15 (by decide) (by decide) tb_1 dX6_bindTo_17 ?_
      refine lv_icmp_ge (tgt := 40) C.1 C.2.1 dX6_bindTo_18 (by decide) (fun q => ?_) (fun q => ?_)
      · have hM := ite_t q hM
        obtain ⟨rfl, rfl⟩ := so_inj hM
        exact h_vret C h dX6_bindTo_40
      · have hM := ite_f q hM
        refine lv_aload_n C.1 C.2.1 dX6_bindTo_21 rfl (lv_at hl 0 rfl) ?_
        refine gt_6_2 C h tx0 fl_X6_21 dX6_bindTo_22 ?_
        refine st_ref hb_1 ?_
        refine lv_iload_n C.1 C.2.1 dX6_bindTo_25 rfl (lv_at hl 1 rfl) ?_
        refine lv_iload_n C.1 C.2.1 dX6_bindTo_26 rfl (lv_at hl 2 rfl) ?_
        refine lv_i2l (v := x2.toInt64) C.1 C.2.1 dX6_bindTo_27 rfl ?_
        refine lv_ldc2 C.1 C.2.1 C.2.2.2.1 (C.2.2.2.2.1 _ cj_X6_42) dX6_bindTo_28 ?_
        refine lv_lmul C.1 C.2.1 dX6_bindTo_31 ?_
        refine lv_aload_n C.1 C.2.1 dX6_bindTo_32 rfl (lv_at hl 0 rfl) ?_
        refine lv_iload_n C.1 C.2.1 dX6_bindTo_33 rfl (lv_at hl 1 rfl) ?_
        obtain ⟨r_2, m_3, hc_2, hM⟩ := bd_some hM
        refine h_callVi C h (As := [.int x1]) (rest := [.long (x2.toInt64 * 16), .int x1, .ref b_1]) r_2 m_3 (c_X6_opAt hc_2 tx0) 6 rfl (by decide) tx0 im_yX6_opAt se_yX6_opAt cy_X6_opAt rfl ml_X6_44 ⟨by decide, by decide⟩ ⟨Nat.zero_le _, Nat.zero_le _⟩ hl.1 rfl (Nat.le_of_ble_eq_true rfl) dX6_bindTo_34 (fun H locs h => ?_)
        refine lv_i2l (v := r_2.toInt64) C.1 C.2.1 dX6_bindTo_37 rfl ?_
        refine lv_ladd C.1 C.2.1 dX6_bindTo_38 ?_
        obtain ⟨hi, hM⟩ := ib_some hM
        refine h_last C h tb_1 hi dX6_bindTo_39 (fun H locs h => ?_)
        obtain ⟨rfl, rfl⟩ := so_inj hM
        exact h_vret C h dX6_bindTo_40
theorem cy_X6_bindTo : Cy yX6_bindTo cX6_bindTo 3 none 2 := ⟨cd_yX6_bindTo, ii_X6, by decide, by decide, by decide +kernel⟩
set_option maxRecDepth 100000 in
theorem c_X6_bindTo {l : Launch} {E : EE} {G : GG} {x0 : Nat} {x1 : Int32} {x2 : Int32} {m m9 : MM} {r9 : Unit} (hM : M_X6_bindTo G x0 x1 x2 m = some (r9, m9)) (tx0 : Ty E G x0 6) : Mc l E yX6_bindTo cX6_bindTo 3 none rmX6_bindTo [.ref x0, .int x1, .int x2] G m (cQv E G m9) := M_of (by decide) (Nat.le_of_ble_eq_true rfl) (fun p e s mth below meth c C h ls hl => cM_X6_bindTo C hM tx0 _ _ h ls hl)
abbrev rmX6_operandAt : Room := { frames := 0, cells := 0, slots := 0, locals := 0 }
def M_X6_operandAt (G : GG) (x0 : Nat) (x1 : Int32) (m : MM) : Option (Int32 × MM) :=
  if x1 < 0 then
    some (0, m)
  else
    if (gI m x0 4) ≤ x1 then
      some (0, m)
    else
      nb (gR m x0 2) fun b_1 =>
        if x1 < (nI (G.2.2 b_1)) then
          ib x1 (G.2.2 b_1) <|
            some (((gL m b_1 x1.toNatClampNeg) / 16).toInt32, m)
        else
          some (0, m)
set_option maxRecDepth 100000 in
set_option maxHeartbeats 4000000 in
theorem cM_X6_operandAt {p : Program} {l : Launch} {e : Env} {s : State} {mth : MethodId} {args : Array Value} {below : List Frame} {meth : Method} {c : Code} {E : EE} {G : GG} {r9 : Int32} {m9 : MM} (C : Cx E G p s mth args meth c cX6_operandAt RX6 "operandAt" 2 (some .int)) {x0 : Nat} {x1 : Int32} {m : MM} (hM : M_X6_operandAt G x0 x1 m = some (r9, m9)) (tx0 : Ty E G x0 6) : ∀ (H : Heap) (locs : List Loc), Hp E G m s H locs → ∀ ls : Array Slot, lv_has ls 2 [(0, .ref x0), (1, .int x1)] → W p l e rmX6_operandAt s mth args below meth c H locs 0 0 (MQ below (cQi E r9 G m9) args s 0 0 (fun q => E.2.2.1 ≤ q)) (F0 mth 0 ls []) := by
  intro H locs h ls hl
  unfold M_X6_operandAt at hM
  refine lv_iload_n C.1 C.2.1 dX6_operandAt_0 rfl (lv_at hl 1 rfl) ?_
  refine lv_if_lt (tgt := 21) C.1 C.2.1 dX6_operandAt_1 (by decide) (fun q => ?_) (fun q => ?_)
  · have hM := ite_t q hM
    refine lv_iconst (v := 0) C.1 C.2.1 dX6_operandAt_21 (by decide) ?_
    refine lv_goto (tgt := 36) C.1 C.2.1 dX6_operandAt_22 (by decide) ?_
    obtain ⟨rfl, rfl⟩ := so_inj hM
    exact h_iret C h dX6_operandAt_36
  · have hM := ite_f q hM
    refine lv_iload_n C.1 C.2.1 dX6_operandAt_4 rfl (lv_at hl 1 rfl) ?_
    refine lv_aload_n C.1 C.2.1 dX6_operandAt_5 rfl (lv_at hl 0 rfl) ?_
    refine gt_6_4 C h tx0 fl_X6_34 dX6_operandAt_6 ?_
    refine lv_icmp_ge (tgt := 21) C.1 C.2.1 dX6_operandAt_9 (by decide) (fun q => ?_) (fun q => ?_)
    · have hM := ite_t q hM
      refine lv_iconst (v := 0) C.1 C.2.1 dX6_operandAt_21 (by decide) ?_
      refine lv_goto (tgt := 36) C.1 C.2.1 dX6_operandAt_22 (by decide) ?_
      obtain ⟨rfl, rfl⟩ := so_inj hM
      exact h_iret C h dX6_operandAt_36
    · have hM := ite_f q hM
      refine lv_iload_n C.1 C.2.1 dX6_operandAt_12 rfl (lv_at hl 1 rfl) ?_
      refine lv_aload_n C.1 C.2.1 dX6_operandAt_13 rfl (lv_at hl 0 rfl) ?_
      refine gt_6_2 C h tx0 fl_X6_21 dX6_operandAt_14 ?_
      obtain ⟨b_1, hb_1, hM⟩ := nb_some hM
      have tb_1 : Ty E G b_1 15 := (fun b hb => tyf h tx0 hb) _ hb_1
      refine st_ref hb_1 ?_
      refine h_alen C h 15 (by decide) (by decide) tb_1 dX6_operandAt_17 ?_
      refine lv_icmp_lt (tgt := 25) C.1 C.2.1 dX6_operandAt_18 (by decide) (fun q => ?_) (fun q => ?_)
      · have hM := ite_t q hM
        refine lv_aload_n C.1 C.2.1 dX6_operandAt_25 rfl (lv_at hl 0 rfl) ?_
        refine gt_6_2 C h tx0 fl_X6_21 dX6_operandAt_26 ?_
        refine st_ref hb_1 ?_
        refine lv_iload_n C.1 C.2.1 dX6_operandAt_29 rfl (lv_at hl 1 rfl) ?_
        obtain ⟨hi, hM⟩ := ib_some hM
        refine h_lald C h tb_1 hi dX6_operandAt_30 ?_
        refine lv_ldc2 C.1 C.2.1 C.2.2.2.1 (C.2.2.2.2.1 _ cj_X6_42) dX6_operandAt_31 ?_
        refine lv_ldiv C.1 C.2.1 dX6_operandAt_34 (by decide) ?_
        refine lv_l2i (v := ((gL m b_1 x1.toNatClampNeg) / 16).toInt32) C.1 C.2.1 dX6_operandAt_35 rfl ?_
        obtain ⟨rfl, rfl⟩ := so_inj hM
        exact h_iret C h dX6_operandAt_36
      · have hM := ite_f q hM
        refine lv_iconst (v := 0) C.1 C.2.1 dX6_operandAt_21 (by decide) ?_
        refine lv_goto (tgt := 36) C.1 C.2.1 dX6_operandAt_22 (by decide) ?_
        obtain ⟨rfl, rfl⟩ := so_inj hM
        exact h_iret C h dX6_operandAt_36
theorem cy_X6_operandAt : Cy yX6_operandAt cX6_operandAt 2 (some .int) 1 := ⟨cd_yX6_operandAt, ii_X6, by decide, by decide, by decide +kernel⟩
set_option maxRecDepth 100000 in
theorem c_X6_operandAt {l : Launch} {E : EE} {G : GG} {x0 : Nat} {x1 : Int32} {m m9 : MM} {r9 : Int32} (hM : M_X6_operandAt G x0 x1 m = some (r9, m9)) (tx0 : Ty E G x0 6) : Mc l E yX6_operandAt cX6_operandAt 2 (some .int) rmX6_operandAt [.ref x0, .int x1] G m (cQi E r9 G m9) := M_of (by decide) (Nat.le_of_ble_eq_true rfl) (fun p e s mth below meth c C h ls hl => cM_X6_operandAt C hM tx0 _ _ h ls hl)
