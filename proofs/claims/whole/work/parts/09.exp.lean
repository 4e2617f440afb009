abbrev rmX2_begin : Room := { frames := 0, cells := 0, slots := 0, locals := 0 }
def M_X2_begin (G : GG) (x0 : Nat) (x1 : Nat) (x2 : Nat) (x3 : Nat) (m : MM) : Option (Unit × MM) :=
  some ((), sR (sR (sR m x0 1 (some x1)) x0 2 (some x2)) x0 3 (some x3))
set_option maxRecDepth 100000 in
set_option maxHeartbeats 4000000 in
theorem cM_X2_begin {p : Program} {l : Launch} {e : Env} {s : State} {mth : MethodId} {args : Array Value} {below : List Frame} {meth : Method} {c : Code} {E : EE} {G : GG} {r9 : Unit} {m9 : MM} (C : Cx E G p s mth args meth c cX2_begin RX2 "begin" 4 none) {x0 : Nat} {x1 : Nat} {x2 : Nat} {x3 : Nat} {m : MM} (hM : M_X2_begin G x0 x1 x2 x3 m = some (r9, m9)) (tx0 : Ty E G x0 2) (tx1 : Ty E G x1 9) (tx2 : Ty E G x2 6) (tx3 : Ty E G x3 3) : ∀ (H : Heap) (locs : List Loc), Hp E G m s H locs → ∀ ls : Array Slot, lv_has ls 4 [(0, .ref x0), (1, .ref x1), (2, .ref x2), (3, .ref x3)] → W p l e rmX2_begin s mth args below meth c H locs 0 0 (MQ below (cQv E G m9) args s 0 0 (fun q => E.2.2.1 ≤ q)) (F0 mth 0 ls []) := by
  intro H locs h ls hl
  unfold M_X2_begin at hM
  refine lv_aload_n C.1 C.2.1 dX2_begin_0 rfl (lv_at hl 0 rfl) ?_
  refine lv_aload_n C.1 C.2.1 dX2_begin_1 rfl (lv_at hl 1 rfl) ?_
  refine st_some ?_
  refine pt_2_1 C h (fun b hb => by cases hb; exact tx1) tx0 fl_X2_15 dX2_begin_2 (fun H locs h => ?_)
  refine lv_aload_n C.1 C.2.1 dX2_begin_5 rfl (lv_at hl 0 rfl) ?_
  refine lv_aload_n C.1 C.2.1 dX2_begin_6 rfl (lv_at hl 2 rfl) ?_
  refine st_some ?_
  refine pt_2_2 C h (fun b hb => by cases hb; exact tx2) tx0 fl_X2_19 dX2_begin_7 (fun H locs h => ?_)
  refine lv_aload_n C.1 C.2.1 dX2_begin_10 rfl (lv_at hl 0 rfl) ?_
  refine lv_aload_n C.1 C.2.1 dX2_begin_11 rfl (lv_at hl 3 rfl) ?_
  refine st_some ?_
  refine pt_2_3 C h (fun b hb => by cases hb; exact tx3) tx0 fl_X2_23 dX2_begin_12 (fun H locs h => ?_)
  obtain ⟨rfl, rfl⟩ := so_inj hM
  exact h_vret C h dX2_begin_15
theorem cy_X2_begin : Cy yX2_begin cX2_begin 4 none 3 := ⟨cd_yX2_begin, ii_X2, by decide, by decide, by decide +kernel⟩
set_option maxRecDepth 100000 in
theorem c_X2_begin {l : Launch} {E : EE} {G : GG} {x0 : Nat} {x1 : Nat} {x2 : Nat} {x3 : Nat} {m m9 : MM} {r9 : Unit} (hM : M_X2_begin G x0 x1 x2 x3 m = some (r9, m9)) (tx0 : Ty E G x0 2) (tx1 : Ty E G x1 9) (tx2 : Ty E G x2 6) (tx3 : Ty E G x3 3) : Mc l E yX2_begin cX2_begin 4 none rmX2_begin [.ref x0, .ref x1, .ref x2, .ref x3] G m (cQv E G m9) := M_of (by decide) (Nat.le_of_ble_eq_true rfl) (fun p e s mth below meth c C h ls hl => cM_X2_begin C hM tx0 tx1 tx2 tx3 _ _ h ls hl)
abbrev rmX2_pushWaiting : Room := { frames := 0, cells := 0, slots := 0, locals := 0 }
def M_X2_pushWaiting (G : GG) (x0 : Nat) (x1 : Int32) (m : MM) : Option (Unit × MM) :=
  if (gI m x0 5) < 0 then
    some ((), m)
  else
    nb (gR m x0 0) fun b_1 =>
      if (nI (G.2.2 b_1)) ≤ (gI m x0 5) then
        some ((), m)
      else
        ib (gI m x0 5) (G.2.2 b_1) <|
          some ((), sI (sI m b_1 ((gI m x0 5).toNatClampNeg) x1) x0 5 ((gI (sI m b_1 ((gI m x0 5).toNatClampNeg) x1) x0 5) + 1))
set_option maxRecDepth 100000 in
set_option maxHeartbeats 4000000 in
theorem cM_X2_pushWaiting {p : Program} {l : Launch} {e : Env} {s : State} {mth : MethodId} {args : Array Value} {below : List Frame} {meth : Method} {c : Code} {E : EE} {G : GG} {r9 : Unit} {m9 : MM} (C : Cx E G p s mth args meth c cX2_pushWaiting RX2 "pushWaiting" 2 none) {x0 : Nat} {x1 : Int32} {m : MM} (hM : M_X2_pushWaiting G x0 x1 m = some (r9, m9)) (tx0 : Ty E G x0 2) : ∀ (H : Heap) (locs : List Loc), Hp E G m s H locs → ∀ ls : Array Slot, lv_has ls 2 [(0, .ref x0), (1, .int x1)] → W p l e rmX2_pushWaiting s mth args below meth c H locs 0 0 (MQ below (cQv E G m9) args s 0 0 (fun q => E.2.2.1 ≤ q)) (F0 mth 0 ls []) := by
  intro H locs h ls hl
  unfold M_X2_pushWaiting at hM
  refine lv_aload_n C.1 C.2.1 dX2_pushWaiting_0 rfl (lv_at hl 0 rfl) ?_
  refine gt_2_5 C h tx0 fl_X2_31 dX2_pushWaiting_1 ?_
  refine lv_if_lt (tgt := 39) C.1 C.2.1 dX2_pushWaiting_4 (by decide) (fun q => ?_) (fun q => ?_)
  · have hM := ite_t q hM
    obtain ⟨rfl, rfl⟩ := so_inj hM
    exact h_vret C h dX2_pushWaiting_39
  · have hM := ite_f q hM
    refine lv_aload_n C.1 C.2.1 dX2_pushWaiting_7 rfl (lv_at hl 0 rfl) ?_
    refine gt_2_5 C h tx0 fl_X2_31 dX2_pushWaiting_8 ?_
    refine lv_aload_n C.1 C.2.1 dX2_pushWaiting_11 rfl (lv_at hl 0 rfl) ?_
    refine gt_2_0 C h tx0 fl_X2_9 dX2_pushWaiting_12 ?_
    obtain ⟨b_1, hb_1, hM⟩ := nb_some hM
    have tb_1 : Ty E G b_1 12 := (fun b hb => tyf h tx0 hb) _ hb_1
    refine st_ref hb_1 ?_
    refine h_alen C h 12 (by decide) (by decide) tb_1 dX2_pushWaiting_15 ?_
    refine lv_icmp_ge (tgt := 39) C.1 C.2.1 dX2_pushWaiting_16 (by decide) (fun q => ?_) (fun q => ?_)
    · have hM := ite_t q hM
      obtain ⟨rfl, rfl⟩ := so_inj hM
      exact h_vret C h dX2_pushWaiting_39
    · have hM := ite_f q hM
      refine lv_aload_n C.1 C.2.1 dX2_pushWaiting_19 rfl (lv_at hl 0 rfl) ?_
      refine gt_2_0 C h tx0 fl_X2_9 dX2_pushWaiting_20 ?_
      refine st_ref hb_1 ?_
      refine lv_aload_n C.1 C.2.1 dX2_pushWaiting_23 rfl (lv_at hl 0 rfl) ?_
      refine gt_2_5 C h tx0 fl_X2_31 dX2_pushWaiting_24 ?_
      refine lv_iload_n C.1 C.2.1 dX2_pushWaiting_27 rfl (lv_at hl 1 rfl) ?_
      obtain ⟨hi, hM⟩ := ib_some hM
      refine h_iast C h tb_1 hi dX2_pushWaiting_28 (fun H locs h => ?_)
      refine lv_aload_n C.1 C.2.1 dX2_pushWaiting_29 rfl (lv_at hl 0 rfl) ?_
      refine lv_dup C.1 C.2.1 dX2_pushWaiting_30 rfl ?_
      refine gt_2_5 C h tx0 fl_X2_31 dX2_pushWaiting_31 ?_
      refine lv_iconst (v := 1) C.1 C.2.1 dX2_pushWaiting_34 (by decide) ?_
      refine lv_iadd C.1 C.2.1 dX2_pushWaiting_35 ?_
      refine pt_2_5 C h tx0 fl_X2_31 dX2_pushWaiting_36 (fun H locs h => ?_)
      obtain ⟨rfl, rfl⟩ := so_inj hM
      exact h_vret C h dX2_pushWaiting_39
theorem cy_X2_pushWaiting : Cy yX2_pushWaiting cX2_pushWaiting 2 none 1 := ⟨cd_yX2_pushWaiting, ii_X2, by decide, by decide, by decide +kernel⟩
set_option maxRecDepth 100000 in
theorem c_X2_pushWaiting {l : Launch} {E : EE} {G : GG} {x0 : Nat} {x1 : Int32} {m m9 : MM} {r9 : Unit} (hM : M_X2_pushWaiting G x0 x1 m = some (r9, m9)) (tx0 : Ty E G x0 2) : Mc l E yX2_pushWaiting cX2_pushWaiting 2 none rmX2_pushWaiting [.ref x0, .int x1] G m (cQv E G m9) := M_of (by decide) (Nat.le_of_ble_eq_true rfl) (fun p e s mth below meth c C h ls hl => cM_X2_pushWaiting C hM tx0 _ _ h ls hl)
abbrev rmX2_readNesting : Room := { frames := 1, cells := 0, slots := 0, locals := 22 }
def B_X2_readNesting_75 (G : GG) (k2 : Nat → Int32 → MM → Option (Bool × MM)) (x0 : Nat) (x1 : Int32) (m : MM) : Option (Bool × MM) :=
  nb (gR m x0 1) fun b_1 =>
    if (gI m b_1 3) = 40 then
      bd (M_X2_pushWaiting G x0 (-1) m) fun _ m_8 =>
        nb (gR m_8 x0 1) fun b_9 =>
          bd (M_X9_advance G b_9 m_8) fun r_10 m_11 =>
            k2 x0 (x1 + 1) m_11
    else
      bd (M_X2_pushWaiting G x0 7 m) fun _ m_3 =>
        nb (gR m_3 x0 1) fun b_4 =>
          bd (M_X9_advance G b_4 m_3) fun r_5 m_6 =>
            k2 x0 (x1 + 1) m_6
set_option maxRecDepth 100000 in
set_option maxHeartbeats 4000000 in
theorem cB_X2_readNesting_75 {p : Program} {l : Launch} {e : Env} {s : State} {mth : MethodId} {args : Array Value} {below : List Frame} {meth : Method} {c : Code} {E : EE} {G : GG} {r9 : Bool} {m9 : MM} {k2 : Nat → Int32 → MM → Option (Bool × MM)} (C : Cx E G p s mth args meth c cX2_readNesting RX2 "readNesting" 2 (some .boolean)) (hk2 : ∀ (x0 : Nat) (x1 : Int32) (m : MM), k2 x0 x1 m = some (r9, m9) → (Ty E G x0 2) → ∀ (H : Heap) (locs : List Loc), Hp E G m s H locs → ∀ ls : Array Slot, lv_has ls 2 [(0, .ref x0), (1, .int x1)] → W p l e rmX2_readNesting s mth args below meth c H locs 0 0 (MQ below (cQi E (bz r9) G m9) args s 0 0 (fun q => E.2.2.1 ≤ q)) (F0 mth 2 ls [])) {x0 : Nat} {x1 : Int32} {m : MM} (hM : B_X2_readNesting_75 G k2 x0 x1 m = some (r9, m9)) (tx0 : Ty E G x0 2) : ∀ (H : Heap) (locs : List Loc), Hp E G m s H locs → ∀ ls : Array Slot, lv_has ls 2 [(0, .ref x0), (1, .int x1)] → W p l e rmX2_readNesting s mth args below meth c H locs 0 0 (MQ below (cQi E (bz r9) G m9) args s 0 0 (fun q => E.2.2.1 ≤ q)) (F0 mth 75 ls []) := by
  intro H locs h ls hl
  unfold B_X2_readNesting_75 at hM
  refine lv_aload_n C.1 C.2.1 dX2_readNesting_75 rfl (lv_at hl 0 rfl) ?_
  refine lv_aload_n C.1 C.2.1 dX2_readNesting_76 rfl (lv_at hl 0 rfl) ?_
  refine gt_2_1 C h tx0 fl_X2_15 dX2_readNesting_77 ?_
  obtain ⟨b_1, hb_1, hM⟩ := nb_some hM
  have tb_1 : Ty E G b_1 9 := (fun b hb => tyf h tx0 hb) _ hb_1
  refine st_ref hb_1 ?_
  refine gt_9_3 C h tb_1 fl_X2_64 dX2_readNesting_80 ?_
  refine lv_bipush (v := 40) C.1 C.2.1 dX2_readNesting_83 (by decide) ?_
  refine lv_icmp_ne (tgt := 92) C.1 C.2.1 dX2_readNesting_85 (by decide) (fun q => ?_) (fun q => ?_)
  · have hM := ite_f q hM
    refine lv_bipush (v := 7) C.1 C.2.1 dX2_readNesting_92 (by decide) ?_
    obtain ⟨r_2, m_3, hc_2, hM⟩ := bd_some hM
    refine h_callVv C h (As := [.int 7]) (rest := []) m_3 (c_X2_pushWaiting hc_2 tx0) 2 rfl (by decide) tx0 im_yX2_pushWaiting se_yX2_pushWaiting cy_X2_pushWaiting rfl ml_X2_71 ⟨by decide, by decide⟩ ⟨Nat.zero_le _, Nat.zero_le _⟩ hl.1 rfl (Nat.le_of_ble_eq_true rfl) dX2_readNesting_94 (fun H locs h => ?_)
    refine lv_aload_n C.1 C.2.1 dX2_readNesting_97 rfl (lv_at hl 0 rfl) ?_
    refine gt_2_1 C h tx0 fl_X2_15 dX2_readNesting_98 ?_
    obtain ⟨b_4, hb_4, hM⟩ := nb_some hM
    have tb_4 : Ty E G b_4 9 := (fun b hb => tyf h tx0 hb) _ hb_4
    refine st_ref hb_4 ?_
    obtain ⟨r_5, m_6, hc_5, hM⟩ := bd_some hM
    refine h_callVi C h (As := []) (rest := []) (bz r_5) m_6 (c_X9_advance hc_5 tb_4) 9 rfl (by decide) tb_4 im_yX9_advance se_yX9_advance cy_X9_advance rfl ml_X2_75 ⟨by decide, by decide⟩ ⟨Nat.zero_le _, Nat.zero_le _⟩ hl.1 rfl (Nat.le_of_ble_eq_true rfl) dX2_readNesting_101 (fun H locs h => ?_)
    refine lv_pop C.1 C.2.1 dX2_readNesting_104 rfl ?_
    refine lv_iinc (v := x1 + 1) (lv' := [(1, .int (x1 + 1)), (0, .ref x0)]) C.1 C.2.1 dX2_readNesting_105 hl (k := 1) rfl rfl (by decide) rfl (fun ls hl => ?_)
    refine lv_goto (tgt := 2) C.1 C.2.1 dX2_readNesting_108 (by decide) ?_
    exact hk2 _ _ _ hM tx0 _ _ h ls (lv_sub hl [1, 0] rfl)
  · have hM := ite_t q hM
    refine lv_iconst (v := (-1)) C.1 C.2.1 dX2_readNesting_88 (by decide) ?_
    refine lv_goto (tgt := 94) C.1 C.2.1 dX2_readNesting_89 (by decide) ?_
    obtain ⟨r_7, m_8, hc_7, hM⟩ := bd_some hM
    refine h_callVv C h (As := [.int (-1)]) (rest := []) m_8 (c_X2_pushWaiting hc_7 tx0) 2 rfl (by decide) tx0 im_yX2_pushWaiting se_yX2_pushWaiting cy_X2_pushWaiting rfl ml_X2_71 ⟨by decide, by decide⟩ ⟨Nat.zero_le _, Nat.zero_le _⟩ hl.1 rfl (Nat.le_of_ble_eq_true rfl) dX2_readNesting_94 (fun H locs h => ?_)
    refine lv_aload_n C.1 C.2.1 dX2_readNesting_97 rfl (lv_at hl 0 rfl) ?_
    refine gt_2_1 C h tx0 fl_X2_15 dX2_readNesting_98 ?_
    obtain ⟨b_9, hb_9, hM⟩ := nb_some hM
    have tb_9 : Ty E G b_9 9 := (fun b hb => tyf h tx0 hb) _ hb_9
    refine st_ref hb_9 ?_
    obtain ⟨r_10, m_11, hc_10, hM⟩ := bd_some hM
    refine h_callVi C h (As := []) (rest := []) (bz r_10) m_11 (c_X9_advance hc_10 tb_9) 9 rfl (by decide) tb_9 im_yX9_advance se_yX9_advance cy_X9_advance rfl ml_X2_75 ⟨by decide, by decide⟩ ⟨Nat.zero_le _, Nat.zero_le _⟩ hl.1 rfl (Nat.le_of_ble_eq_true rfl) dX2_readNesting_101 (fun H locs h => ?_)
    refine lv_pop C.1 C.2.1 dX2_readNesting_104 rfl ?_
    refine lv_iinc (v := x1 + 1) (lv' := [(1, .int (x1 + 1)), (0, .ref x0)]) C.1 C.2.1 dX2_readNesting_105 hl (k := 1) rfl rfl (by decide) rfl (fun ls hl => ?_)
    refine lv_goto (tgt := 2) C.1 C.2.1 dX2_readNesting_108 (by decide) ?_
    exact hk2 _ _ _ hM tx0 _ _ h ls (lv_sub hl [1, 0] rfl)
def B_X2_readNesting_32 (G : GG) (k2 : Nat → Int32 → MM → Option (Bool × MM)) (x0 : Nat) (x1 : Int32) (m : MM) : Option (Bool × MM) :=
  if (gI m x0 7) < 8 then
    nb (gR (sI m x0 7 ((gI m x0 7) + 1)) x0 1) fun b_12 =>
      if (gI (sI m x0 7 ((gI m x0 7) + 1)) b_12 3) = 40 then
        B_X2_readNesting_75 G k2 x0 x1 (sI (sI m x0 7 ((gI m x0 7) + 1)) x0 6 ((gI (sI m x0 7 ((gI m x0 7) + 1)) x0 6) + 1))
      else
        B_X2_readNesting_75 G k2 x0 x1 (sI m x0 7 ((gI m x0 7) + 1))
  else
    some (false, m)
set_option maxRecDepth 100000 in
set_option maxHeartbeats 4000000 in
theorem cB_X2_readNesting_32 {p : Program} {l : Launch} {e : Env} {s : State} {mth : MethodId} {args : Array Value} {below : List Frame} {meth : Method} {c : Code} {E : EE} {G : GG} {r9 : Bool} {m9 : MM} {k2 : Nat → Int32 → MM → Option (Bool × MM)} (C : Cx E G p s mth args meth c cX2_readNesting RX2 "readNesting" 2 (some .boolean)) (hk2 : ∀ (x0 : Nat) (x1 : Int32) (m : MM), k2 x0 x1 m = some (r9, m9) → (Ty E G x0 2) → ∀ (H : Heap) (locs : List Loc), Hp E G m s H locs → ∀ ls : Array Slot, lv_has ls 2 [(0, .ref x0), (1, .int x1)] → W p l e rmX2_readNesting s mth args below meth c H locs 0 0 (MQ below (cQi E (bz r9) G m9) args s 0 0 (fun q => E.2.2.1 ≤ q)) (F0 mth 2 ls [])) {x0 : Nat} {x1 : Int32} {m : MM} (hM : B_X2_readNesting_32 G k2 x0 x1 m = some (r9, m9)) (tx0 : Ty E G x0 2) : ∀ (H : Heap) (locs : List Loc), Hp E G m s H locs → ∀ ls : Array Slot, lv_has ls 2 [(0, .ref x0), (1, .int x1)] → W p l e rmX2_readNesting s mth args below meth c H locs 0 0 (MQ below (cQi E (bz r9) G m9) args s 0 0 (fun q => E.2.2.1 ≤ q)) (F0 mth 32 ls []) := by
  intro H locs h ls hl
  unfold B_X2_readNesting_32 at hM
  refine lv_aload_n C.1 C.2.1 dX2_readNesting_32 rfl (lv_at hl 0 rfl) ?_
  refine gt_2_7 C h tx0 fl_X2_37 dX2_readNesting_33 ?_
  refine lv_bipush (v := 8) C.1 C.2.1 dX2_readNesting_36 (by decide) ?_
  refine lv_icmp_lt (tgt := 43) C.1 C.2.1 dX2_readNesting_38 (by decide) (fun q => ?_) (fun q => ?_)
  · have hM := ite_t q hM
    refine lv_aload_n C.1 C.2.1 dX2_readNesting_43 rfl (lv_at hl 0 rfl) ?_
    refine lv_dup C.1 C.2.1 dX2_readNesting_44 rfl ?_
    refine gt_2_7 C h tx0 fl_X2_37 dX2_readNesting_45 ?_
    refine lv_iconst (v := 1) C.1 C.2.1 dX2_readNesting_48 (by decide) ?_
    refine lv_iadd C.1 C.2.1 dX2_readNesting_49 ?_
    refine pt_2_7 C h tx0 fl_X2_37 dX2_readNesting_50 (fun H locs h => ?_)
    refine lv_aload_n C.1 C.2.1 dX2_readNesting_53 rfl (lv_at hl 0 rfl) ?_
    refine gt_2_1 C h tx0 fl_X2_15 dX2_readNesting_54 ?_
    obtain ⟨b_12, hb_12, hM⟩ := nb_some hM
    have tb_12 : Ty E G b_12 9 := (fun b hb => tyf h tx0 hb) _ hb_12
    refine st_ref hb_12 ?_
    refine gt_9_3 C h tb_12 fl_X2_64 dX2_readNesting_57 ?_
    refine lv_bipush (v := 40) C.1 C.2.1 dX2_readNesting_60 (by decide) ?_
    refine lv_icmp_ne (tgt := 75) C.1 C.2.1 dX2_readNesting_62 (by decide) (fun q => ?_) (fun q => ?_)
    · have hM := ite_f q hM
      exact cB_X2_readNesting_75 C hk2 hM tx0 _ _ h ls (lv_sub hl [0, 1] rfl)
    · have hM := ite_t q hM
      refine lv_aload_n C.1 C.2.1 dX2_readNesting_65 rfl (lv_at hl 0 rfl) ?_
      refine lv_dup C.1 C.2.1 dX2_readNesting_66 rfl ?_
      refine gt_2_6 C h tx0 fl_X2_34 dX2_readNesting_67 ?_
      refine lv_iconst (v := 1) C.1 C.2.1 dX2_readNesting_70 (by decide) ?_
      refine lv_iadd C.1 C.2.1 dX2_readNesting_71 ?_
      refine pt_2_6 C h tx0 fl_X2_34 dX2_readNesting_72 (fun H locs h => ?_)
      exact cB_X2_readNesting_75 C hk2 hM tx0 _ _ h ls (lv_sub hl [0, 1] rfl)
  · have hM := ite_f q hM
    refine lv_iconst (v := 0) C.1 C.2.1 dX2_readNesting_41 (by decide) ?_
    obtain ⟨rfl, rfl⟩ := so_inj hM
    exact h_zret C h (bz_ok _).1 dX2_readNesting_42
def B_X2_readNesting_2 (G : GG) : Nat → Nat → Int32 → MM → Option (Bool × MM)
  | 0, _, _, _ => none
  | fu + 1, x0, x1, m =>
    if 8 < x1 then
      some (true, m)
    else
      nb (gR m x0 1) fun b_13 =>
        if (gI m b_13 3) = 40 then
          B_X2_readNesting_32 G (B_X2_readNesting_2 G fu) x0 x1 m
        else
          if (gI m b_13 3) = 45 then
            B_X2_readNesting_32 G (B_X2_readNesting_2 G fu) x0 x1 m
          else
            some (true, m)
set_option maxRecDepth 100000 in
set_option maxHeartbeats 4000000 in
theorem cB_X2_readNesting_2 {p : Program} {l : Launch} {e : Env} {s : State} {mth : MethodId} {args : Array Value} {below : List Frame} {meth : Method} {c : Code} {E : EE} {G : GG} {r9 : Bool} {m9 : MM} (C : Cx E G p s mth args meth c cX2_readNesting RX2 "readNesting" 2 (some .boolean)) : ∀ (fu : Nat) (x0 : Nat) (x1 : Int32) (m : MM), B_X2_readNesting_2 G fu x0 x1 m = some (r9, m9) → (Ty E G x0 2) → ∀ (H : Heap) (locs : List Loc), Hp E G m s H locs → ∀ ls : Array Slot, lv_has ls 2 [(0, .ref x0), (1, .int x1)] → W p l e rmX2_readNesting s mth args below meth c H locs 0 0 (MQ below (cQi E (bz r9) G m9) args s 0 0 (fun q => E.2.2.1 ≤ q)) (F0 mth 2 ls []) := by
  intro fu
  induction fu with
  | zero =>
    intro x0 x1 m hM
    rw [B_X2_readNesting_2] at hM
    cases hM
  | succ fu ih =>
    intro x0 x1 m hM tx0 H locs h ls hl
    rw [B_X2_readNesting_2] at hM
    refine lv_iload_n C.1 C.2.1 dX2_readNesting_2 rfl (lv_at hl 1 rfl) ?_
    refine lv_bipush (v := 8) C.1 C.2.1 dX2_readNesting_3 (by decide) ?_
    refine lv_icmp_gt (tgt := 111) C.1 C.2.1 dX2_readNesting_5 (by decide) (fun q => ?_) (fun q => ?_)
    · have hM := ite_t q hM
      refine lv_iconst (v := 1) C.1 C.2.1 dX2_readNesting_111 (by decide) ?_
      obtain ⟨rfl, rfl⟩ := so_inj hM
      exact h_zret C h (bz_ok _).1 dX2_readNesting_112
    · have hM := ite_f q hM
      refine lv_aload_n C.1 C.2.1 dX2_readNesting_8 rfl (lv_at hl 0 rfl) ?_
      refine gt_2_1 C h tx0 fl_X2_15 dX2_readNesting_9 ?_
      obtain ⟨b_13, hb_13, hM⟩ := nb_some hM
      have tb_13 : Ty E G b_13 9 := (fun b hb => tyf h tx0 hb) _ hb_13
      refine st_ref hb_13 ?_
      refine gt_9_3 C h tb_13 fl_X2_64 dX2_readNesting_12 ?_
      refine lv_bipush (v := 40) C.1 C.2.1 dX2_readNesting_15 (by decide) ?_
      refine lv_icmp_eq (tgt := 32) C.1 C.2.1 dX2_readNesting_17 (by decide) (fun q => ?_) (fun q => ?_)
      · have hM := ite_t q hM
        exact cB_X2_readNesting_32 C ih hM tx0 _ _ h ls (lv_sub hl [0, 1] rfl)
      · have hM := ite_f q hM
        refine lv_aload_n C.1 C.2.1 dX2_readNesting_20 rfl (lv_at hl 0 rfl) ?_
        refine gt_2_1 C h tx0 fl_X2_15 dX2_readNesting_21 ?_
        refine st_ref hb_13 ?_
        refine gt_9_3 C h tb_13 fl_X2_64 dX2_readNesting_24 ?_
        refine lv_bipush (v := 45) C.1 C.2.1 dX2_readNesting_27 (by decide) ?_
        refine lv_icmp_ne (tgt := 111) C.1 C.2.1 dX2_readNesting_29 (by decide) (fun q => ?_) (fun q => ?_)
        · have hM := ite_f q hM
          refine lv_iconst (v := 1) C.1 C.2.1 dX2_readNesting_111 (by decide) ?_
          obtain ⟨rfl, rfl⟩ := so_inj hM
          exact h_zret C h (bz_ok _).1 dX2_readNesting_112
        · have hM := ite_t q hM
          exact cB_X2_readNesting_32 C ih hM tx0 _ _ h ls (lv_sub hl [0, 1] rfl)
def M_X2_readNesting (G : GG) (x0 : Nat) (m : MM) : Option (Bool × MM) :=
  B_X2_readNesting_2 G FU x0 0 m
set_option maxRecDepth 100000 in
set_option maxHeartbeats 4000000 in
theorem cM_X2_readNesting {p : Program} {l : Launch} {e : Env} {s : State} {mth : MethodId} {args : Array Value} {below : List Frame} {meth : Method} {c : Code} {E : EE} {G : GG} {r9 : Bool} {m9 : MM} (C : Cx E G p s mth args meth c cX2_readNesting RX2 "readNesting" 2 (some .boolean)) {x0 : Nat} {m : MM} (hM : M_X2_readNesting G x0 m = some (r9, m9)) (tx0 : Ty E G x0 2) : ∀ (H : Heap) (locs : List Loc), Hp E G m s H locs → ∀ ls : Array Slot, lv_has ls 2 [(0, .ref x0)] → W p l e rmX2_readNesting s mth args below meth c H locs 0 0 (MQ below (cQi E (bz r9) G m9) args s 0 0 (fun q => E.2.2.1 ≤ q)) (F0 mth 0 ls []) := by
  intro H locs h ls hl
  unfold M_X2_readNesting at hM
  refine lv_iconst (v := 0) C.1 C.2.1 dX2_readNesting_0 (by decide) ?_
  refine lv_istore_n (lv' := [(1, .int 0), (0, .ref x0)]) C.1 C.2.1 dX2_readNesting_1 rfl hl (by decide) rfl (fun ls hl => ?_)
  exact cB_X2_readNesting_2 C _ _ _ _ hM tx0 _ _ h ls (lv_sub hl [1, 0] rfl)
theorem cy_X2_readNesting : Cy yX2_readNesting cX2_readNesting 2 (some .boolean) 0 := ⟨cd_yX2_readNesting, ii_X2, by decide, by decide, by decide +kernel⟩
set_option maxRecDepth 100000 in
theorem c_X2_readNesting {l : Launch} {E : EE} {G : GG} {x0 : Nat} {m m9 : MM} {r9 : Bool} (hM : M_X2_readNesting G x0 m = some (r9, m9)) (tx0 : Ty E G x0 2) : Mc l E yX2_readNesting cX2_readNesting 2 (some .boolean) rmX2_readNesting [.ref x0] G m (cQi E (bz r9) G m9) := M_of (by decide) (Nat.le_of_ble_eq_true rfl) (fun p e s mth below meth c C h ls hl => cM_X2_readNesting C hM tx0 _ _ h ls hl)
abbrev rmX2_readName : Room := { frames := 1, cells := 0, slots := 0, locals := 22 }
def M_X2_readName (G : GG) (x0 : Nat) (m : MM) : Option (Bool × MM) :=
  nb (gR m x0 1) fun b_1 =>
    bd (M_X9_advance G b_1 m) fun r_2 m_3 =>
      nb (gR m_3 x0 1) fun b_4 =>
        if (gI m_3 b_4 3) = 46 then
          bd (M_X9_advance G b_4 m_3) fun r_5 m_6 =>
            nb (gR m_6 x0 1) fun b_7 =>
              if (gI m_6 b_7 3) = 128 then
                nb (gR m_6 x0 2) fun b_8 =>
                  bd (M_X6_put G b_8 3 (((gI m b_1 4) * 4096) + (gI m_6 b_7 4)) m_6) fun r_9 m_10 =>
                    if r_9 = true then
                      nb (gR m_10 x0 1) fun b_11 =>
                        bd (M_X9_advance G b_11 m_10) fun r_12 m_13 =>
                          if r_12 = true then
                            some (true, m_13)
                          else
                            some (false, m_13)
                    else
                      some (false, m_10)
              else
                some (false, m_6)
        else
          nb (gR m_3 x0 2) fun b_14 =>
            bd (M_X6_put G b_14 2 (gI m b_1 4) m_3) fun r_15 m_16 =>
              some (r_15, m_16)
set_option maxRecDepth 100000 in
set_option maxHeartbeats 4000000 in
theorem cM_X2_readName {p : Program} {l : Launch} {e : Env} {s : State} {mth : MethodId} {args : Array Value} {below : List Frame} {meth : Method} {c : Code} {E : EE} {G : GG} {r9 : Bool} {m9 : MM} (C : Cx E G p s mth args meth c cX2_readName RX2 "readName" 2 (some .boolean)) {x0 : Nat} {m : MM} (hM : M_X2_readName G x0 m = some (r9, m9)) (tx0 : Ty E G x0 2) : ∀ (H : Heap) (locs : List Loc), Hp E G m s H locs → ∀ ls : Array Slot, lv_has ls 2 [(0, .ref x0)] → W p l e rmX2_readName s mth args below meth c H locs 0 0 (MQ below (cQi E (bz r9) G m9) args s 0 0 (fun q => E.2.2.1 ≤ q)) (F0 mth 0 ls []) := by
  intro H locs h ls hl
  unfold M_X2_readName at hM
  refine lv_aload_n C.1 C.2.1 dX2_readName_0 rfl (lv_at hl 0 rfl) ?_
  refine gt_2_1 C h tx0 fl_X2_15 dX2_readName_1 ?_
  obtain ⟨b_1, hb_1, hM⟩ := nb_some hM
  have tb_1 : Ty E G b_1 9 := (fun b hb => tyf h tx0 hb) _ hb_1
  refine st_ref hb_1 ?_
  refine gt_9_4 C h tb_1 fl_X2_94 dX2_readName_4 ?_
  refine lv_istore_n (lv' := [(1, .int (gI m b_1 4)), (0, .ref x0)]) C.1 C.2.1 dX2_readName_7 rfl hl (by decide) rfl (fun ls hl => ?_)
  refine lv_aload_n C.1 C.2.1 dX2_readName_8 rfl (lv_at hl 1 rfl) ?_
  refine gt_2_1 C h tx0 fl_X2_15 dX2_readName_9 ?_
  refine st_ref hb_1 ?_
  obtain ⟨r_2, m_3, hc_2, hM⟩ := bd_some hM
  refine h_callVi C h (As := []) (rest := []) (bz r_2) m_3 (c_X9_advance hc_2 tb_1) 9 rfl (by decide) tb_1 im_yX9_advance se_yX9_advance cy_X9_advance rfl ml_X2_75 ⟨by decide, by decide⟩ ⟨Nat.zero_le _, Nat.zero_le _⟩ hl.1 rfl (Nat.le_of_ble_eq_true rfl) dX2_readName_12 (fun H locs h => ?_)
  refine lv_pop C.1 C.2.1 dX2_readName_15 rfl ?_
  refine lv_aload_n C.1 C.2.1 dX2_readName_16 rfl (lv_at hl 1 rfl) ?_
  refine gt_2_1 C h tx0 fl_X2_15 dX2_readName_17 ?_
  obtain ⟨b_4, hb_4, hM⟩ := nb_some hM
  have tb_4 : Ty E G b_4 9 := (fun b hb => tyf h tx0 hb) _ hb_4
  refine st_ref hb_4 ?_
  refine gt_9_3 C h tb_4 fl_X2_64 dX2_readName_20 ?_
  refine lv_bipush (v := 46) C.1 C.2.1 dX2_readName_23 (by decide) ?_
  refine lv_icmp_eq (tgt := 38) C.1 C.2.1 dX2_readName_25 (by decide) (fun q => ?_) (fun q => ?_)
  · have hM := ite_t q hM
    refine lv_aload_n C.1 C.2.1 dX2_readName_38 rfl (lv_at hl 1 rfl) ?_
    refine gt_2_1 C h tx0 fl_X2_15 dX2_readName_39 ?_
    refine st_ref hb_4 ?_
    obtain ⟨r_5, m_6, hc_5, hM⟩ := bd_some hM
    refine h_callVi C h (As := []) (rest := []) (bz r_5) m_6 (c_X9_advance hc_5 tb_4) 9 rfl (by decide) tb_4 im_yX9_advance se_yX9_advance cy_X9_advance rfl ml_X2_75 ⟨by decide, by decide⟩ ⟨Nat.zero_le _, Nat.zero_le _⟩ hl.1 rfl (Nat.le_of_ble_eq_true rfl) dX2_readName_42 (fun H locs h => ?_)
    refine lv_pop C.1 C.2.1 dX2_readName_45 rfl ?_
    refine lv_aload_n C.1 C.2.1 dX2_readName_46 rfl (lv_at hl 1 rfl) ?_
    refine gt_2_1 C h tx0 fl_X2_15 dX2_readName_47 ?_
    obtain ⟨b_7, hb_7, hM⟩ := nb_some hM
    have tb_7 : Ty E G b_7 9 := (fun b hb => tyf h tx0 hb) _ hb_7
    refine st_ref hb_7 ?_
    refine gt_9_3 C h tb_7 fl_X2_64 dX2_readName_50 ?_
    refine lv_sipush (v := 128) C.1 C.2.1 dX2_readName_53 (by decide) ?_
    refine lv_icmp_ne (tgt := 97) C.1 C.2.1 dX2_readName_56 (by decide) (fun q => ?_) (fun q => ?_)
    · have hM := ite_f q hM
      refine lv_iconst (v := 0) C.1 C.2.1 dX2_readName_97 (by decide) ?_
      obtain ⟨rfl, rfl⟩ := so_inj hM
      exact h_zret C h (bz_ok _).1 dX2_readName_98
    · have hM := ite_t q hM
      refine lv_aload_n C.1 C.2.1 dX2_readName_59 rfl (lv_at hl 1 rfl) ?_
      refine gt_2_2 C h tx0 fl_X2_19 dX2_readName_60 ?_
      obtain ⟨b_8, hb_8, hM⟩ := nb_some hM
      have tb_8 : Ty E G b_8 6 := (fun b hb => tyf h tx0 hb) _ hb_8
      refine st_ref hb_8 ?_
      refine lv_iconst (v := 3) C.1 C.2.1 dX2_readName_63 (by decide) ?_
      refine lv_iload_n C.1 C.2.1 dX2_readName_64 rfl (lv_at hl 0 rfl) ?_
      refine lv_sipush (v := 4096) C.1 C.2.1 dX2_readName_65 (by decide) ?_
      refine lv_imul C.1 C.2.1 dX2_readName_68 ?_
      refine lv_aload_n C.1 C.2.1 dX2_readName_69 rfl (lv_at hl 1 rfl) ?_
      refine gt_2_1 C h tx0 fl_X2_15 dX2_readName_70 ?_
      refine st_ref hb_7 ?_
      refine gt_9_4 C h tb_7 fl_X2_94 dX2_readName_73 ?_
      refine lv_iadd C.1 C.2.1 dX2_readName_76 ?_
      obtain ⟨r_9, m_10, hc_9, hM⟩ := bd_some hM
      refine h_callVi C h (As := [.int 3, .int (((gI m b_1 4) * 4096) + (gI m_6 b_7 4))]) (rest := []) (bz r_9) m_10 (c_X6_put hc_9 tb_8) 6 rfl (by decide) tb_8 im_yX6_put se_yX6_put cy_X6_put rfl ml_X2_81 ⟨by decide, by decide⟩ ⟨Nat.zero_le _, Nat.zero_le _⟩ hl.1 rfl (Nat.le_of_ble_eq_true rfl) dX2_readName_77 (fun H locs h => ?_)
      refine h_ifz (tgt := 97) C.1 C.2.1 dX2_readName_80 (by decide) (fun q => ?_) (fun q => ?_)
      · have hM := ite_f q hM
        refine lv_iconst (v := 0) C.1 C.2.1 dX2_readName_97 (by decide) ?_
        obtain ⟨rfl, rfl⟩ := so_inj hM
        exact h_zret C h (bz_ok _).1 dX2_readName_98
      · have hM := ite_t q hM
        refine lv_aload_n C.1 C.2.1 dX2_readName_83 rfl (lv_at hl 1 rfl) ?_
        refine gt_2_1 C h tx0 fl_X2_15 dX2_readName_84 ?_
        obtain ⟨b_11, hb_11, hM⟩ := nb_some hM
        have tb_11 : Ty E G b_11 9 := (fun b hb => tyf h tx0 hb) _ hb_11
        refine st_ref hb_11 ?_
        obtain ⟨r_12, m_13, hc_12, hM⟩ := bd_some hM
        refine h_callVi C h (As := []) (rest := []) (bz r_12) m_13 (c_X9_advance hc_12 tb_11) 9 rfl (by decide) tb_11 im_yX9_advance se_yX9_advance cy_X9_advance rfl ml_X2_75 ⟨by decide, by decide⟩ ⟨Nat.zero_le _, Nat.zero_le _⟩ hl.1 rfl (Nat.le_of_ble_eq_true rfl) dX2_readName_87 (fun H locs h => ?_)
        refine h_ifz (tgt := 97) C.1 C.2.1 dX2_readName_90 (by decide) (fun q => ?_) (fun q => ?_)
        · have hM := ite_f q hM
          refine lv_iconst (v := 0) C.1 C.2.1 dX2_readName_97 (by decide) ?_
          obtain ⟨rfl, rfl⟩ := so_inj hM
          exact h_zret C h (bz_ok _).1 dX2_readName_98
        · have hM := ite_t q hM
          refine lv_iconst (v := 1) C.1 C.2.1 dX2_readName_93 (by decide) ?_
          refine lv_goto (tgt := 98) C.1 C.2.1 dX2_readName_94 (by decide) ?_
          obtain ⟨rfl, rfl⟩ := so_inj hM
          exact h_zret C h (bz_ok _).1 dX2_readName_98
  · have hM := ite_f q hM
    refine lv_aload_n C.1 C.2.1 dX2_readName_28 rfl (lv_at hl 1 rfl) ?_
    refine gt_2_2 C h tx0 fl_X2_19 dX2_readName_29 ?_
    obtain ⟨b_14, hb_14, hM⟩ := nb_some hM
    have tb_14 : Ty E G b_14 6 := (fun b hb => tyf h tx0 hb) _ hb_14
    refine st_ref hb_14 ?_
    refine lv_iconst (v := 2) C.1 C.2.1 dX2_readName_32 (by decide) ?_
    refine lv_iload_n C.1 C.2.1 dX2_readName_33 rfl (lv_at hl 0 rfl) ?_
    obtain ⟨r_15, m_16, hc_15, hM⟩ := bd_some hM
    refine h_callVi C h (As := [.int 2, .int (gI m b_1 4)]) (rest := []) (bz r_15) m_16 (c_X6_put hc_15 tb_14) 6 rfl (by decide) tb_14 im_yX6_put se_yX6_put cy_X6_put rfl ml_X2_81 ⟨by decide, by decide⟩ ⟨Nat.zero_le _, Nat.zero_le _⟩ hl.1 rfl (Nat.le_of_ble_eq_true rfl) dX2_readName_34 (fun H locs h => ?_)
    obtain ⟨rfl, rfl⟩ := so_inj hM
    exact h_zret C h (bz_ok _).1 dX2_readName_37
theorem cy_X2_readName : Cy yX2_readName cX2_readName 2 (some .boolean) 0 := ⟨cd_yX2_readName, ii_X2, by decide, by decide, by decide +kernel⟩
set_option maxRecDepth 100000 in
theorem c_X2_readName {l : Launch} {E : EE} {G : GG} {x0 : Nat} {m m9 : MM} {r9 : Bool} (hM : M_X2_readName G x0 m = some (r9, m9)) (tx0 : Ty E G x0 2) : Mc l E yX2_readName cX2_readName 2 (some .boolean) rmX2_readName [.ref x0] G m (cQi E (bz r9) G m9) := M_of (by decide) (Nat.le_of_ble_eq_true rfl) (fun p e s mth below meth c C h ls hl => cM_X2_readName C hM tx0 _ _ h ls hl)
abbrev rmX2_readWord : Room := { frames := 1, cells := 0, slots := 0, locals := 22 }
def B_X2_readWord_20 (G : GG) (x0 : Nat) (x1 : Int32) (m : MM) : Option (Bool × MM) :=
  nb (gR m x0 2) fun b_1 =>
    bd (M_X6_put G b_1 x1 0 m) fun r_2 m_3 =>
      if r_2 = true then
        nb (gR m_3 x0 1) fun b_4 =>
          bd (M_X9_advance G b_4 m_3) fun r_5 m_6 =>
            if r_5 = true then
              some (true, m_6)
            else
              some (false, m_6)
      else
        some (false, m_3)
set_option maxRecDepth 100000 in
set_option maxHeartbeats 4000000 in
theorem cB_X2_readWord_20 {p : Program} {l : Launch} {e : Env} {s : State} {mth : MethodId} {args : Array Value} {below : List Frame} {meth : Method} {c : Code} {E : EE} {G : GG} {r9 : Bool} {m9 : MM} (C : Cx E G p s mth args meth c cX2_readWord RX2 "readWord" 3 (some .boolean)) {x0 : Nat} {x1 : Int32} {m : MM} (hM : B_X2_readWord_20 G x0 x1 m = some (r9, m9)) (tx0 : Ty E G x0 2) : ∀ (H : Heap) (locs : List Loc), Hp E G m s H locs → ∀ ls : Array Slot, lv_has ls 3 [(0, .ref x0), (1, .int x1)] → W p l e rmX2_readWord s mth args below meth c H locs 0 0 (MQ below (cQi E (bz r9) G m9) args s 0 0 (fun q => E.2.2.1 ≤ q)) (F0 mth 20 ls []) := by
  intro H locs h ls hl
  unfold B_X2_readWord_20 at hM
  refine lv_aload_n C.1 C.2.1 dX2_readWord_20 rfl (lv_at hl 0 rfl) ?_
  refine gt_2_2 C h tx0 fl_X2_19 dX2_readWord_21 ?_
  obtain ⟨b_1, hb_1, hM⟩ := nb_some hM
  have tb_1 : Ty E G b_1 6 := (fun b hb => tyf h tx0 hb) _ hb_1
  refine st_ref hb_1 ?_
  refine lv_iload_n C.1 C.2.1 dX2_readWord_24 rfl (lv_at hl 1 rfl) ?_
  refine lv_iconst (v := 0) C.1 C.2.1 dX2_readWord_25 (by decide) ?_
  obtain ⟨r_2, m_3, hc_2, hM⟩ := bd_some hM
  refine h_callVi C h (As := [.int x1, .int 0]) (rest := []) (bz r_2) m_3 (c_X6_put hc_2 tb_1) 6 rfl (by decide) tb_1 im_yX6_put se_yX6_put cy_X6_put rfl ml_X2_81 ⟨by decide, by decide⟩ ⟨Nat.zero_le _, Nat.zero_le _⟩ hl.1 rfl (Nat.le_of_ble_eq_true rfl) dX2_readWord_26 (fun H locs h => ?_)
  refine h_ifz (tgt := 46) C.1 C.2.1 dX2_readWord_29 (by decide) (fun q => ?_) (fun q => ?_)
  · have hM := ite_f q hM
    refine lv_iconst (v := 0) C.1 C.2.1 dX2_readWord_46 (by decide) ?_
    obtain ⟨rfl, rfl⟩ := so_inj hM
    exact h_zret C h (bz_ok _).1 dX2_readWord_47
  · have hM := ite_t q hM
    refine lv_aload_n C.1 C.2.1 dX2_readWord_32 rfl (lv_at hl 0 rfl) ?_
    refine gt_2_1 C h tx0 fl_X2_15 dX2_readWord_33 ?_
    obtain ⟨b_4, hb_4, hM⟩ := nb_some hM
    have tb_4 : Ty E G b_4 9 := (fun b hb => tyf h tx0 hb) _ hb_4
    refine st_ref hb_4 ?_
    obtain ⟨r_5, m_6, hc_5, hM⟩ := bd_some hM
    refine h_callVi C h (As := []) (rest := []) (bz r_5) m_6 (c_X9_advance hc_5 tb_4) 9 rfl (by decide) tb_4 im_yX9_advance se_yX9_advance cy_X9_advance rfl ml_X2_75 ⟨by decide, by decide⟩ ⟨Nat.zero_le _, Nat.zero_le _⟩ hl.1 rfl (Nat.le_of_ble_eq_true rfl) dX2_readWord_36 (fun H locs h => ?_)
    refine h_ifz (tgt := 46) C.1 C.2.1 dX2_readWord_39 (by decide) (fun q => ?_) (fun q => ?_)
    · have hM := ite_f q hM
      refine lv_iconst (v := 0) C.1 C.2.1 dX2_readWord_46 (by decide) ?_
      obtain ⟨rfl, rfl⟩ := so_inj hM
      exact h_zret C h (bz_ok _).1 dX2_readWord_47
    · have hM := ite_t q hM
      refine lv_iconst (v := 1) C.1 C.2.1 dX2_readWord_42 (by decide) ?_
      refine lv_goto (tgt := 47) C.1 C.2.1 dX2_readWord_43 (by decide) ?_
      obtain ⟨rfl, rfl⟩ := so_inj hM
      exact h_zret C h (bz_ok _).1 dX2_readWord_47
def M_X2_readWord (G : GG) (x0 : Nat) (x1 : Int32) (x2 : Bool) (m : MM) : Option (Bool × MM) :=
  if x2 = true then
    B_X2_readWord_20 G x0 x1 m
  else
    nb (gR m x0 3) fun b_7 =>
      nb (gR m x0 1) fun b_8 =>
        bd (M_X3_note G b_7 6 (gI m b_8 4) m) fun _ m_10 =>
          B_X2_readWord_20 G x0 x1 m_10
set_option maxRecDepth 100000 in
set_option maxHeartbeats 4000000 in
theorem cM_X2_readWord {p : Program} {l : Launch} {e : Env} {s : State} {mth : MethodId} {args : Array Value} {below : List Frame} {meth : Method} {c : Code} {E : EE} {G : GG} {r9 : Bool} {m9 : MM} (C : Cx E G p s mth args meth c cX2_readWord RX2 "readWord" 3 (some .boolean)) {x0 : Nat} {x1 : Int32} {x2 : Bool} {m : MM} (hM : M_X2_readWord G x0 x1 x2 m = some (r9, m9)) (tx0 : Ty E G x0 2) : ∀ (H : Heap) (locs : List Loc), Hp E G m s H locs → ∀ ls : Array Slot, lv_has ls 3 [(0, .ref x0), (1, .int x1), (2, .int (bz x2))] → W p l e rmX2_readWord s mth args below meth c H locs 0 0 (MQ below (cQi E (bz r9) G m9) args s 0 0 (fun q => E.2.2.1 ≤ q)) (F0 mth 0 ls []) := by
  intro H locs h ls hl
  unfold M_X2_readWord at hM
  refine lv_iload_n C.1 C.2.1 dX2_readWord_0 rfl (lv_at hl 2 rfl) ?_
  refine h_ifnz (tgt := 20) C.1 C.2.1 dX2_readWord_1 (by decide) (fun q => ?_) (fun q => ?_)
  · have hM := ite_t q hM
    exact cB_X2_readWord_20 C hM tx0 _ _ h ls (lv_sub hl [0, 1] rfl)
  · have hM := ite_f q hM
    refine lv_aload_n C.1 C.2.1 dX2_readWord_4 rfl (lv_at hl 0 rfl) ?_
    refine gt_2_3 C h tx0 fl_X2_23 dX2_readWord_5 ?_
    obtain ⟨b_7, hb_7, hM⟩ := nb_some hM
    have tb_7 : Ty E G b_7 3 := (fun b hb => tyf h tx0 hb) _ hb_7
    refine st_ref hb_7 ?_
    refine lv_bipush (v := 6) C.1 C.2.1 dX2_readWord_8 (by decide) ?_
    refine lv_aload_n C.1 C.2.1 dX2_readWord_10 rfl (lv_at hl 0 rfl) ?_
    refine gt_2_1 C h tx0 fl_X2_15 dX2_readWord_11 ?_
    obtain ⟨b_8, hb_8, hM⟩ := nb_some hM
    have tb_8 : Ty E G b_8 9 := (fun b hb => tyf h tx0 hb) _ hb_8
    refine st_ref hb_8 ?_
    refine gt_9_4 C h tb_8 fl_X2_94 dX2_readWord_14 ?_
    obtain ⟨r_9, m_10, hc_9, hM⟩ := bd_some hM
    refine h_callVv C h (As := [.int 6, .int (gI m b_8 4)]) (rest := []) m_10 (c_X3_note hc_9 tb_7) 3 rfl (by decide) tb_7 im_yX3_note se_yX3_note cy_X3_note rfl ml_X2_97 ⟨by decide, by decide⟩ ⟨Nat.zero_le _, Nat.zero_le _⟩ hl.1 rfl (Nat.le_of_ble_eq_true rfl) dX2_readWord_17 (fun H locs h => ?_)
    exact cB_X2_readWord_20 C hM tx0 _ _ h ls (lv_sub hl [0, 1] rfl)
theorem cy_X2_readWord : Cy yX2_readWord cX2_readWord 3 (some .boolean) 2 := ⟨cd_yX2_readWord, ii_X2, by decide, by decide, by decide +kernel⟩
set_option maxRecDepth 100000 in
theorem c_X2_readWord {l : Launch} {E : EE} {G : GG} {x0 : Nat} {x1 : Int32} {x2 : Bool} {m m9 : MM} {r9 : Bool} (hM : M_X2_readWord G x0 x1 x2 m = some (r9, m9)) (tx0 : Ty E G x0 2) : Mc l E yX2_readWord cX2_readWord 3 (some .boolean) rmX2_readWord [.ref x0, .int x1, .int (bz x2)] G m (cQi E (bz r9) G m9) := M_of (by decide) (Nat.le_of_ble_eq_true rfl) (fun p e s mth below meth c C h ls hl => cM_X2_readWord C hM tx0 _ _ h ls hl)
abbrev rmX2_readOne : Room := { frames := 2, cells := 0, slots := 0, locals := 44 }
def M_X2_readOne (G : GG) (x0 : Nat) (m : MM) : Option (Bool × MM) :=
  nb (gR m x0 1) fun b_1 =>
    if (gI m b_1 3) = 128 then
      bd (M_X2_readName G x0 m) fun r_2 m_3 =>
        some (r_2, m_3)
    else
      if (gI m b_1 3) = 129 then
        nb (gR m x0 2) fun b_4 =>
          bd (M_X6_put G b_4 1 (gI m b_1 5) m) fun r_5 m_6 =>
            if r_5 = true then
              nb (gR m_6 x0 1) fun b_7 =>
                bd (M_X9_advance G b_7 m_6) fun r_8 m_9 =>
                  if r_8 = true then
                    some (true, m_9)
                  else
                    some (false, m_9)
            else
              some (false, m_6)
      else
        if (gI m b_1 3) = 130 then
          some (false, m)
        else
          if (gI m b_1 3) = 131 then
            some (false, m)
          else
            if (gI m b_1 3) = 132 then
              some (false, m)
            else
              if (gI m b_1 3) = 133 then
                some (false, m)
              else
                if (gI m b_1 3) = 134 then
                  some (false, m)
                else
                  if (gI m b_1 3) = 135 then
                    some (false, m)
                  else
                    if (gI m b_1 3) = 136 then
                      some (false, m)
                    else
                      if (gI m b_1 3) = 137 then
                        some (false, m)
                      else
                        if (gI m b_1 3) = 138 then
                          if (gI m x0 4) = 2 then
                            bd (M_X2_readWord G x0 4 true m) fun r_12 m_13 =>
                              some (r_12, m_13)
                          else
                            bd (M_X2_readWord G x0 4 false m) fun r_10 m_11 =>
                              some (r_10, m_11)
                        else
                          if (gI m b_1 3) = 139 then
                            if (gI m x0 4) = 0 then
                              bd (M_X2_readWord G x0 5 true m) fun r_16 m_17 =>
                                some (r_16, m_17)
                            else
                              bd (M_X2_readWord G x0 5 false m) fun r_14 m_15 =>
                                some (r_14, m_15)
                          else
                            if (gI m b_1 3) = 140 then
                              if (gI m x0 4) = 1 then
                                bd (M_X2_readWord G x0 6 false m) fun r_18 m_19 =>
                                  some (r_18, m_19)
                              else
                                bd (M_X2_readWord G x0 6 true m) fun r_20 m_21 =>
                                  some (r_20, m_21)
                            else
                              some (false, m)
set_option maxRecDepth 100000 in
set_option maxHeartbeats 4000000 in
theorem cM_X2_readOne {p : Program} {l : Launch} {e : Env} {s : State} {mth : MethodId} {args : Array Value} {below : List Frame} {meth : Method} {c : Code} {E : EE} {G : GG} {r9 : Bool} {m9 : MM} (C : Cx E G p s mth args meth c cX2_readOne RX2 "readOne" 1 (some .boolean)) {x0 : Nat} {m : MM} (hM : M_X2_readOne G x0 m = some (r9, m9)) (tx0 : Ty E G x0 2) : ∀ (H : Heap) (locs : List Loc), Hp E G m s H locs → ∀ ls : Array Slot, lv_has ls 1 [(0, .ref x0)] → W p l e rmX2_readOne s mth args below meth c H locs 0 0 (MQ below (cQi E (bz r9) G m9) args s 0 0 (fun q => E.2.2.1 ≤ q)) (F0 mth 0 ls []) := by
  intro H locs h ls hl
  unfold M_X2_readOne at hM
  refine lv_aload_n C.1 C.2.1 dX2_readOne_0 rfl (lv_at hl 0 rfl) ?_
  refine gt_2_1 C h tx0 fl_X2_15 dX2_readOne_1 ?_
  obtain ⟨b_1, hb_1, hM⟩ := nb_some hM
  have tb_1 : Ty E G b_1 9 := (fun b hb => tyf h tx0 hb) _ hb_1
  refine st_ref hb_1 ?_
  refine gt_9_3 C h tb_1 fl_X2_64 dX2_readOne_4 ?_
  by_cases q0 : (gI m b_1 3) = 128
  · have hM := ite_t q0 hM
    refine h_tabIn q0 (tgt := 106) C.1 C.2.1 dX2_readOne_7 (by decide) (by decide) rfl (by decide) ?_
    refine lv_aload_n C.1 C.2.1 dX2_readOne_106 rfl (lv_at hl 0 rfl) ?_
    obtain ⟨r_2, m_3, hc_2, hM⟩ := bd_some hM
    refine h_callVi C h (As := []) (rest := []) (bz r_2) m_3 (c_X2_readName hc_2 tx0) 2 rfl (by decide) tx0 im_yX2_readName se_yX2_readName cy_X2_readName rfl ml_X2_87 ⟨by decide, by decide⟩ ⟨Nat.zero_le _, Nat.zero_le _⟩ hl.1 rfl (Nat.le_of_ble_eq_true rfl) dX2_readOne_107 (fun H locs h => ?_)
    obtain ⟨rfl, rfl⟩ := so_inj hM
    exact h_zret C h (bz_ok _).1 dX2_readOne_110
  · have hM := ite_f q0 hM
    by_cases q1 : (gI m b_1 3) = 129
    · have hM := ite_t q1 hM
      refine h_tabIn q1 (tgt := 72) C.1 C.2.1 dX2_readOne_7 (by decide) (by decide) rfl (by decide) ?_
      refine lv_aload_n C.1 C.2.1 dX2_readOne_72 rfl (lv_at hl 0 rfl) ?_
      refine gt_2_2 C h tx0 fl_X2_19 dX2_readOne_73 ?_
      obtain ⟨b_4, hb_4, hM⟩ := nb_some hM
      have tb_4 : Ty E G b_4 6 := (fun b hb => tyf h tx0 hb) _ hb_4
      refine st_ref hb_4 ?_
      refine lv_iconst (v := 1) C.1 C.2.1 dX2_readOne_76 (by decide) ?_
      refine lv_aload_n C.1 C.2.1 dX2_readOne_77 rfl (lv_at hl 0 rfl) ?_
      refine gt_2_1 C h tx0 fl_X2_15 dX2_readOne_78 ?_
      refine st_ref hb_1 ?_
      refine gt_9_5 C h tb_1 fl_X2_78 dX2_readOne_81 ?_
      obtain ⟨r_5, m_6, hc_5, hM⟩ := bd_some hM
      refine h_callVi C h (As := [.int 1, .int (gI m b_1 5)]) (rest := []) (bz r_5) m_6 (c_X6_put hc_5 tb_4) 6 rfl (by decide) tb_4 im_yX6_put se_yX6_put cy_X6_put rfl ml_X2_81 ⟨by decide, by decide⟩ ⟨Nat.zero_le _, Nat.zero_le _⟩ hl.1 rfl (Nat.le_of_ble_eq_true rfl) dX2_readOne_84 (fun H locs h => ?_)
      refine h_ifz (tgt := 104) C.1 C.2.1 dX2_readOne_87 (by decide) (fun q => ?_) (fun q => ?_)
      · have hM := ite_f q hM
        refine lv_iconst (v := 0) C.1 C.2.1 dX2_readOne_104 (by decide) ?_
        obtain ⟨rfl, rfl⟩ := so_inj hM
        exact h_zret C h (bz_ok _).1 dX2_readOne_105
      · have hM := ite_t q hM
        refine lv_aload_n C.1 C.2.1 dX2_readOne_90 rfl (lv_at hl 0 rfl) ?_
        refine gt_2_1 C h tx0 fl_X2_15 dX2_readOne_91 ?_
        obtain ⟨b_7, hb_7, hM⟩ := nb_some hM
        have tb_7 : Ty E G b_7 9 := (fun b hb => tyf h tx0 hb) _ hb_7
        refine st_ref hb_7 ?_
        obtain ⟨r_8, m_9, hc_8, hM⟩ := bd_some hM
        refine h_callVi C h (As := []) (rest := []) (bz r_8) m_9 (c_X9_advance hc_8 tb_7) 9 rfl (by decide) tb_7 im_yX9_advance se_yX9_advance cy_X9_advance rfl ml_X2_75 ⟨by decide, by decide⟩ ⟨Nat.zero_le _, Nat.zero_le _⟩ hl.1 rfl (Nat.le_of_ble_eq_true rfl) dX2_readOne_94 (fun H locs h => ?_)
        refine h_ifz (tgt := 104) C.1 C.2.1 dX2_readOne_97 (by decide) (fun q => ?_) (fun q => ?_)
        · have hM := ite_f q hM
          refine lv_iconst (v := 0) C.1 C.2.1 dX2_readOne_104 (by decide) ?_
          obtain ⟨rfl, rfl⟩ := so_inj hM
          exact h_zret C h (bz_ok _).1 dX2_readOne_105
        · have hM := ite_t q hM
          refine lv_iconst (v := 1) C.1 C.2.1 dX2_readOne_100 (by decide) ?_
          refine lv_goto (tgt := 105) C.1 C.2.1 dX2_readOne_101 (by decide) ?_
          obtain ⟨rfl, rfl⟩ := so_inj hM
          exact h_zret C h (bz_ok _).1 dX2_readOne_105
    · have hM := ite_f q1 hM
      by_cases q2 : (gI m b_1 3) = 130
      · have hM := ite_t q2 hM
        refine h_tabIn q2 (tgt := 168) C.1 C.2.1 dX2_readOne_7 (by decide) (by decide) rfl (by decide) ?_
        refine lv_iconst (v := 0) C.1 C.2.1 dX2_readOne_168 (by decide) ?_
        obtain ⟨rfl, rfl⟩ := so_inj hM
        exact h_zret C h (bz_ok _).1 dX2_readOne_169
      · have hM := ite_f q2 hM
        by_cases q3 : (gI m b_1 3) = 131
        · have hM := ite_t q3 hM
          refine h_tabIn q3 (tgt := 168) C.1 C.2.1 dX2_readOne_7 (by decide) (by decide) rfl (by decide) ?_
          refine lv_iconst (v := 0) C.1 C.2.1 dX2_readOne_168 (by decide) ?_
          obtain ⟨rfl, rfl⟩ := so_inj hM
          exact h_zret C h (bz_ok _).1 dX2_readOne_169
        · have hM := ite_f q3 hM
          by_cases q4 : (gI m b_1 3) = 132
          · have hM := ite_t q4 hM
            refine h_tabIn q4 (tgt := 168) C.1 C.2.1 dX2_readOne_7 (by decide) (by decide) rfl (by decide) ?_
            refine lv_iconst (v := 0) C.1 C.2.1 dX2_readOne_168 (by decide) ?_
            obtain ⟨rfl, rfl⟩ := so_inj hM
            exact h_zret C h (bz_ok _).1 dX2_readOne_169
          · have hM := ite_f q4 hM
            by_cases q5 : (gI m b_1 3) = 133
            · have hM := ite_t q5 hM
              refine h_tabIn q5 (tgt := 168) C.1 C.2.1 dX2_readOne_7 (by decide) (by decide) rfl (by decide) ?_
              refine lv_iconst (v := 0) C.1 C.2.1 dX2_readOne_168 (by decide) ?_
              obtain ⟨rfl, rfl⟩ := so_inj hM
              exact h_zret C h (bz_ok _).1 dX2_readOne_169
            · have hM := ite_f q5 hM
              by_cases q6 : (gI m b_1 3) = 134
              · have hM := ite_t q6 hM
                refine h_tabIn q6 (tgt := 168) C.1 C.2.1 dX2_readOne_7 (by decide) (by decide) rfl (by decide) ?_
                refine lv_iconst (v := 0) C.1 C.2.1 dX2_readOne_168 (by decide) ?_
                obtain ⟨rfl, rfl⟩ := so_inj hM
                exact h_zret C h (bz_ok _).1 dX2_readOne_169
              · have hM := ite_f q6 hM
                by_cases q7 : (gI m b_1 3) = 135
                · have hM := ite_t q7 hM
                  refine h_tabIn q7 (tgt := 168) C.1 C.2.1 dX2_readOne_7 (by decide) (by decide) rfl (by decide) ?_
                  refine lv_iconst (v := 0) C.1 C.2.1 dX2_readOne_168 (by decide) ?_
                  obtain ⟨rfl, rfl⟩ := so_inj hM
                  exact h_zret C h (bz_ok _).1 dX2_readOne_169
                · have hM := ite_f q7 hM
                  by_cases q8 : (gI m b_1 3) = 136
                  · have hM := ite_t q8 hM
                    refine h_tabIn q8 (tgt := 168) C.1 C.2.1 dX2_readOne_7 (by decide) (by decide) rfl (by decide) ?_
                    refine lv_iconst (v := 0) C.1 C.2.1 dX2_readOne_168 (by decide) ?_
                    obtain ⟨rfl, rfl⟩ := so_inj hM
                    exact h_zret C h (bz_ok _).1 dX2_readOne_169
                  · have hM := ite_f q8 hM
                    by_cases q9 : (gI m b_1 3) = 137
                    · have hM := ite_t q9 hM
                      refine h_tabIn q9 (tgt := 168) C.1 C.2.1 dX2_readOne_7 (by decide) (by decide) rfl (by decide) ?_
                      refine lv_iconst (v := 0) C.1 C.2.1 dX2_readOne_168 (by decide) ?_
                      obtain ⟨rfl, rfl⟩ := so_inj hM
                      exact h_zret C h (bz_ok _).1 dX2_readOne_169
                    · have hM := ite_f q9 hM
                      by_cases q10 : (gI m b_1 3) = 138
                      · have hM := ite_t q10 hM
                        refine h_tabIn q10 (tgt := 111) C.1 C.2.1 dX2_readOne_7 (by decide) (by decide) rfl (by decide) ?_
                        refine lv_aload_n C.1 C.2.1 dX2_readOne_111 rfl (lv_at hl 0 rfl) ?_
                        refine lv_iconst (v := 4) C.1 C.2.1 dX2_readOne_112 (by decide) ?_
                        refine lv_aload_n C.1 C.2.1 dX2_readOne_113 rfl (lv_at hl 0 rfl) ?_
                        refine gt_2_4 C h tx0 fl_X2_27 dX2_readOne_114 ?_
                        refine lv_iconst (v := 2) C.1 C.2.1 dX2_readOne_117 (by decide) ?_
                        refine lv_icmp_ne (tgt := 125) C.1 C.2.1 dX2_readOne_118 (by decide) (fun q => ?_) (fun q => ?_)
                        · have hM := ite_f q hM
                          refine lv_iconst (v := 0) C.1 C.2.1 dX2_readOne_125 (by decide) ?_
                          obtain ⟨r_10, m_11, hc_10, hM⟩ := bd_some hM
                          refine h_callVi C h (As := [.int 4, .int (bz false)]) (rest := []) (bz r_10) m_11 (c_X2_readWord hc_10 tx0) 2 rfl (by decide) tx0 im_yX2_readWord se_yX2_readWord cy_X2_readWord rfl ml_X2_90 ⟨by decide, by decide⟩ ⟨Nat.zero_le _, Nat.zero_le _⟩ hl.1 rfl (Nat.le_of_ble_eq_true rfl) dX2_readOne_126 (fun H locs h => ?_)
                          obtain ⟨rfl, rfl⟩ := so_inj hM
                          exact h_zret C h (bz_ok _).1 dX2_readOne_129
                        · have hM := ite_t q hM
                          refine lv_iconst (v := 1) C.1 C.2.1 dX2_readOne_121 (by decide) ?_
                          refine lv_goto (tgt := 126) C.1 C.2.1 dX2_readOne_122 (by decide) ?_
                          obtain ⟨r_12, m_13, hc_12, hM⟩ := bd_some hM
                          refine h_callVi C h (As := [.int 4, .int (bz true)]) (rest := []) (bz r_12) m_13 (c_X2_readWord hc_12 tx0) 2 rfl (by decide) tx0 im_yX2_readWord se_yX2_readWord cy_X2_readWord rfl ml_X2_90 ⟨by decide, by decide⟩ ⟨Nat.zero_le _, Nat.zero_le _⟩ hl.1 rfl (Nat.le_of_ble_eq_true rfl) dX2_readOne_126 (fun H locs h => ?_)
                          obtain ⟨rfl, rfl⟩ := so_inj hM
                          exact h_zret C h (bz_ok _).1 dX2_readOne_129
                      · have hM := ite_f q10 hM
                        by_cases q11 : (gI m b_1 3) = 139
                        · have hM := ite_t q11 hM
                          refine h_tabIn q11 (tgt := 130) C.1 C.2.1 dX2_readOne_7 (by decide) (by decide) rfl (by decide) ?_
                          refine lv_aload_n C.1 C.2.1 dX2_readOne_130 rfl (lv_at hl 0 rfl) ?_
                          refine lv_iconst (v := 5) C.1 C.2.1 dX2_readOne_131 (by decide) ?_
                          refine lv_aload_n C.1 C.2.1 dX2_readOne_132 rfl (lv_at hl 0 rfl) ?_
                          refine gt_2_4 C h tx0 fl_X2_27 dX2_readOne_133 ?_
                          refine lv_if_ne (tgt := 143) C.1 C.2.1 dX2_readOne_136 (by decide) (fun q => ?_) (fun q => ?_)
                          · have hM := ite_f q hM
                            refine lv_iconst (v := 0) C.1 C.2.1 dX2_readOne_143 (by decide) ?_
                            obtain ⟨r_14, m_15, hc_14, hM⟩ := bd_some hM
                            refine h_callVi C h (As := [.int 5, .int (bz false)]) (rest := []) (bz r_14) m_15 (c_X2_readWord hc_14 tx0) 2 rfl (by decide) tx0 im_yX2_readWord se_yX2_readWord cy_X2_readWord rfl ml_X2_90 ⟨by decide, by decide⟩ ⟨Nat.zero_le _, Nat.zero_le _⟩ hl.1 rfl (Nat.le_of_ble_eq_true rfl) dX2_readOne_144 (fun H locs h => ?_)
                            obtain ⟨rfl, rfl⟩ := so_inj hM
                            exact h_zret C h (bz_ok _).1 dX2_readOne_147
                          · have hM := ite_t q hM
                            refine lv_iconst (v := 1) C.1 C.2.1 dX2_readOne_139 (by decide) ?_
                            refine lv_goto (tgt := 144) C.1 C.2.1 dX2_readOne_140 (by decide) ?_
                            obtain ⟨r_16, m_17, hc_16, hM⟩ := bd_some hM
                            refine h_callVi C h (As := [.int 5, .int (bz true)]) (rest := []) (bz r_16) m_17 (c_X2_readWord hc_16 tx0) 2 rfl (by decide) tx0 im_yX2_readWord se_yX2_readWord cy_X2_readWord rfl ml_X2_90 ⟨by decide, by decide⟩ ⟨Nat.zero_le _, Nat.zero_le _⟩ hl.1 rfl (Nat.le_of_ble_eq_true rfl) dX2_readOne_144 (fun H locs h => ?_)
                            obtain ⟨rfl, rfl⟩ := so_inj hM
                            exact h_zret C h (bz_ok _).1 dX2_readOne_147
                        · have hM := ite_f q11 hM
                          by_cases q12 : (gI m b_1 3) = 140
                          · have hM := ite_t q12 hM
                            refine h_tabIn q12 (tgt := 148) C.1 C.2.1 dX2_readOne_7 (by decide) (by decide) rfl (by decide) ?_
                            refine lv_aload_n C.1 C.2.1 dX2_readOne_148 rfl (lv_at hl 0 rfl) ?_
                            refine lv_bipush (v := 6) C.1 C.2.1 dX2_readOne_149 (by decide) ?_
                            refine lv_aload_n C.1 C.2.1 dX2_readOne_151 rfl (lv_at hl 0 rfl) ?_
                            refine gt_2_4 C h tx0 fl_X2_27 dX2_readOne_152 ?_
                            refine lv_iconst (v := 1) C.1 C.2.1 dX2_readOne_155 (by decide) ?_
                            refine lv_icmp_eq (tgt := 163) C.1 C.2.1 dX2_readOne_156 (by decide) (fun q => ?_) (fun q => ?_)
                            · have hM := ite_t q hM
                              refine lv_iconst (v := 0) C.1 C.2.1 dX2_readOne_163 (by decide) ?_
                              obtain ⟨r_18, m_19, hc_18, hM⟩ := bd_some hM
                              refine h_callVi C h (As := [.int 6, .int (bz false)]) (rest := []) (bz r_18) m_19 (c_X2_readWord hc_18 tx0) 2 rfl (by decide) tx0 im_yX2_readWord se_yX2_readWord cy_X2_readWord rfl ml_X2_90 ⟨by decide, by decide⟩ ⟨Nat.zero_le _, Nat.zero_le _⟩ hl.1 rfl (Nat.le_of_ble_eq_true rfl) dX2_readOne_164 (fun H locs h => ?_)
                              obtain ⟨rfl, rfl⟩ := so_inj hM
                              exact h_zret C h (bz_ok _).1 dX2_readOne_167
                            · have hM := ite_f q hM
                              refine lv_iconst (v := 1) C.1 C.2.1 dX2_readOne_159 (by decide) ?_
                              refine lv_goto (tgt := 164) C.1 C.2.1 dX2_readOne_160 (by decide) ?_
                              obtain ⟨r_20, m_21, hc_20, hM⟩ := bd_some hM
                              refine h_callVi C h (As := [.int 6, .int (bz true)]) (rest := []) (bz r_20) m_21 (c_X2_readWord hc_20 tx0) 2 rfl (by decide) tx0 im_yX2_readWord se_yX2_readWord cy_X2_readWord rfl ml_X2_90 ⟨by decide, by decide⟩ ⟨Nat.zero_le _, Nat.zero_le _⟩ hl.1 rfl (Nat.le_of_ble_eq_true rfl) dX2_readOne_164 (fun H locs h => ?_)
                              obtain ⟨rfl, rfl⟩ := so_inj hM
                              exact h_zret C h (bz_ok _).1 dX2_readOne_167
                          · have hM := ite_f q12 hM
                            refine h_tabOut (tgt := 168) (lo := 128) (n := 13) C.1 C.2.1 dX2_readOne_7 (by decide) (by decide) (by decide) (fun k hk => ?_) ?_
                            · match k, hk with
                              | 0, _ => exact q0
                              | 1, _ => exact q1
                              | 2, _ => exact q2
                              | 3, _ => exact q3
                              | 4, _ => exact q4
                              | 5, _ => exact q5
                              | 6, _ => exact q6
                              | 7, _ => exact q7
                              | 8, _ => exact q8
                              | 9, _ => exact q9
                              | 10, _ => exact q10
                              | 11, _ => exact q11
                              | 12, _ => exact q12
                              | k + 13, hk => exact absurd hk (by omega)
                            · refine lv_iconst (v := 0) C.1 C.2.1 dX2_readOne_168 (by decide) ?_
                              obtain ⟨rfl, rfl⟩ := so_inj hM
                              exact h_zret C h (bz_ok _).1 dX2_readOne_169
theorem cy_X2_readOne : Cy yX2_readOne cX2_readOne 1 (some .boolean) 0 := ⟨cd_yX2_readOne, ii_X2, by decide, by decide, by decide +kernel⟩
set_option maxRecDepth 100000 in
theorem c_X2_readOne {l : Launch} {E : EE} {G : GG} {x0 : Nat} {m m9 : MM} {r9 : Bool} (hM : M_X2_readOne G x0 m = some (r9, m9)) (tx0 : Ty E G x0 2) : Mc l E yX2_readOne cX2_readOne 1 (some .boolean) rmX2_readOne [.ref x0] G m (cQi E (bz r9) G m9) := M_of (by decide) (Nat.le_of_ble_eq_true rfl) (fun p e s mth below meth c C h ls hl => cM_X2_readOne C hM tx0 _ _ h ls hl)
abbrev rmX2_strengthOf : Room := { frames := 0, cells := 0, slots := 0, locals := 0 }
def M_X2_strengthOf (G : GG) (x0 : Nat) (x1 : Int32) (m : MM) : Option (Int32 × MM) :=
  if x1 = 7 then
    some (3, m)
  else
    if x1 = 8 then
      some (1, m)
    else
      if x1 = 9 then
        some (1, m)
      else
        if x1 = 10 then
          some (2, m)
        else
          if x1 = 11 then
            some (2, m)
          else
            some (0, m)
set_option maxRecDepth 100000 in
set_option maxHeartbeats 4000000 in
theorem cM_X2_strengthOf {p : Program} {l : Launch} {e : Env} {s : State} {mth : MethodId} {args : Array Value} {below : List Frame} {meth : Method} {c : Code} {E : EE} {G : GG} {r9 : Int32} {m9 : MM} (C : Cx E G p s mth args meth c cX2_strengthOf RX2 "strengthOf" 2 (some .int)) {x0 : Nat} {x1 : Int32} {m : MM} (hM : M_X2_strengthOf G x0 x1 m = some (r9, m9)) (tx0 : Ty E G x0 2) : ∀ (H : Heap) (locs : List Loc), Hp E G m s H locs → ∀ ls : Array Slot, lv_has ls 2 [(0, .ref x0), (1, .int x1)] → W p l e rmX2_strengthOf s mth args below meth c H locs 0 0 (MQ below (cQi E r9 G m9) args s 0 0 (fun q => E.2.2.1 ≤ q)) (F0 mth 0 ls []) := by
  intro H locs h ls hl
  unfold M_X2_strengthOf at hM
  refine lv_iload_n C.1 C.2.1 dX2_strengthOf_0 rfl (lv_at hl 1 rfl) ?_
  by_cases q0 : x1 = 7
  · have hM := ite_t q0 hM
    refine h_tabIn q0 (tgt := 40) C.1 C.2.1 dX2_strengthOf_1 (by decide) (by decide) rfl (by decide) ?_
    refine lv_iconst (v := 3) C.1 C.2.1 dX2_strengthOf_40 (by decide) ?_
    obtain ⟨rfl, rfl⟩ := so_inj hM
    exact h_iret C h dX2_strengthOf_41
  · have hM := ite_f q0 hM
    by_cases q1 : x1 = 8
    · have hM := ite_t q1 hM
      refine h_tabIn q1 (tgt := 36) C.1 C.2.1 dX2_strengthOf_1 (by decide) (by decide) rfl (by decide) ?_
      refine lv_iconst (v := 1) C.1 C.2.1 dX2_strengthOf_36 (by decide) ?_
      obtain ⟨rfl, rfl⟩ := so_inj hM
      exact h_iret C h dX2_strengthOf_37
    · have hM := ite_f q1 hM
      by_cases q2 : x1 = 9
      · have hM := ite_t q2 hM
        refine h_tabIn q2 (tgt := 36) C.1 C.2.1 dX2_strengthOf_1 (by decide) (by decide) rfl (by decide) ?_
        refine lv_iconst (v := 1) C.1 C.2.1 dX2_strengthOf_36 (by decide) ?_
        obtain ⟨rfl, rfl⟩ := so_inj hM
        exact h_iret C h dX2_strengthOf_37
      · have hM := ite_f q2 hM
        by_cases q3 : x1 = 10
        · have hM := ite_t q3 hM
          refine h_tabIn q3 (tgt := 38) C.1 C.2.1 dX2_strengthOf_1 (by decide) (by decide) rfl (by decide) ?_
          refine lv_iconst (v := 2) C.1 C.2.1 dX2_strengthOf_38 (by decide) ?_
          obtain ⟨rfl, rfl⟩ := so_inj hM
          exact h_iret C h dX2_strengthOf_39
        · have hM := ite_f q3 hM
          by_cases q4 : x1 = 11
          · have hM := ite_t q4 hM
            refine h_tabIn q4 (tgt := 38) C.1 C.2.1 dX2_strengthOf_1 (by decide) (by decide) rfl (by decide) ?_
            refine lv_iconst (v := 2) C.1 C.2.1 dX2_strengthOf_38 (by decide) ?_
            obtain ⟨rfl, rfl⟩ := so_inj hM
            exact h_iret C h dX2_strengthOf_39
          · have hM := ite_f q4 hM
            refine h_tabOut (tgt := 42) (lo := 7) (n := 5) C.1 C.2.1 dX2_strengthOf_1 (by decide) (by decide) (by decide) (fun k hk => ?_) ?_
            · match k, hk with
              | 0, _ => exact q0
              | 1, _ => exact q1
              | 2, _ => exact q2
              | 3, _ => exact q3
              | 4, _ => exact q4
              | k + 5, hk => exact absurd hk (by omega)
            · refine lv_iconst (v := 0) C.1 C.2.1 dX2_strengthOf_42 (by decide) ?_
              obtain ⟨rfl, rfl⟩ := so_inj hM
              exact h_iret C h dX2_strengthOf_43
theorem cy_X2_strengthOf : Cy yX2_strengthOf cX2_strengthOf 2 (some .int) 1 := ⟨cd_yX2_strengthOf, ii_X2, by decide, by decide, by decide +kernel⟩
set_option maxRecDepth 100000 in
theorem c_X2_strengthOf {l : Launch} {E : EE} {G : GG} {x0 : Nat} {x1 : Int32} {m m9 : MM} {r9 : Int32} (hM : M_X2_strengthOf G x0 x1 m = some (r9, m9)) (tx0 : Ty E G x0 2) : Mc l E yX2_strengthOf cX2_strengthOf 2 (some .int) rmX2_strengthOf [.ref x0, .int x1] G m (cQi E r9 G m9) := M_of (by decide) (Nat.le_of_ble_eq_true rfl) (fun p e s mth below meth c C h ls hl => cM_X2_strengthOf C hM tx0 _ _ h ls hl)
abbrev rmX2_putWaiting : Room := { frames := 1, cells := 0, slots := 0, locals := 22 }
def B_X2_putWaiting_7 (G : GG) : Nat → Nat → Int32 → Int32 → MM → Option (Unit × MM)
  | 0, _, _, _, _ => none
  | fu + 1, x0, x1, x2, m =>
    if x2 < 0 then
      some ((), m)
    else
      nb (gR m x0 0) fun b_1 =>
        if (nI (G.2.2 b_1)) ≤ x2 then
          some ((), m)
        else
          ib x2 (G.2.2 b_1) <|
            bd (M_X2_strengthOf G x0 (gI m b_1 x2.toNatClampNeg) m) fun r_2 m_3 =>
              if r_2 < x1 then
                some ((), m_3)
              else
                nb (gR m_3 x0 2) fun b_4 =>
                  nb (gR m_3 x0 0) fun b_5 =>
                    ib x2 (G.2.2 b_5) <|
                      bd (M_X6_put G b_4 (gI m_3 b_5 x2.toNatClampNeg) 0 m_3) fun r_6 m_7 =>
                        nb (gR m_7 x0 0) fun b_8 =>
                          ib x2 (G.2.2 b_8) <|
                            if (gI m_7 b_8 x2.toNatClampNeg) = 7 then
                              B_X2_putWaiting_7 G fu x0 x1 (x2 + (-1)) (sI (sI m_7 x0 7 ((gI m_7 x0 7) - 1)) x0 5 x2)
                            else
                              B_X2_putWaiting_7 G fu x0 x1 (x2 + (-1)) (sI m_7 x0 5 x2)
set_option maxRecDepth 100000 in
set_option maxHeartbeats 4000000 in
theorem cB_X2_putWaiting_7 {p : Program} {l : Launch} {e : Env} {s : State} {mth : MethodId} {args : Array Value} {below : List Frame} {meth : Method} {c : Code} {E : EE} {G : GG} {r9 : Unit} {m9 : MM} (C : Cx E G p s mth args meth c cX2_putWaiting RX2 "putWaiting" 3 none) : ∀ (fu : Nat) (x0 : Nat) (x1 : Int32) (x2 : Int32) (m : MM), B_X2_putWaiting_7 G fu x0 x1 x2 m = some (r9, m9) → (Ty E G x0 2) → ∀ (H : Heap) (locs : List Loc), Hp E G m s H locs → ∀ ls : Array Slot, lv_has ls 3 [(0, .ref x0), (1, .int x1), (2, .int x2)] → W p l e rmX2_putWaiting s mth args below meth c H locs 0 0 (MQ below (cQv E G m9) args s 0 0 (fun q => E.2.2.1 ≤ q)) (F0 mth 7 ls []) := by
  intro fu
  induction fu with
  | zero =>
    intro x0 x1 x2 m hM
    rw [B_X2_putWaiting_7] at hM
    cases hM
  | succ fu ih =>
    intro x0 x1 x2 m hM tx0 H locs h ls hl
    rw [B_X2_putWaiting_7] at hM
    refine lv_iload_n C.1 C.2.1 dX2_putWaiting_7 rfl (lv_at hl 2 rfl) ?_
    refine lv_if_lt (tgt := 81) C.1 C.2.1 dX2_putWaiting_8 (by decide) (fun q => ?_) (fun q => ?_)
    · have hM := ite_t q hM
      obtain ⟨rfl, rfl⟩ := so_inj hM
      exact h_vret C h dX2_putWaiting_81
    · have hM := ite_f q hM
      refine lv_iload_n C.1 C.2.1 dX2_putWaiting_11 rfl (lv_at hl 2 rfl) ?_
      refine lv_aload_n C.1 C.2.1 dX2_putWaiting_12 rfl (lv_at hl 0 rfl) ?_
      refine gt_2_0 C h tx0 fl_X2_9 dX2_putWaiting_13 ?_
      obtain ⟨b_1, hb_1, hM⟩ := nb_some hM
      have tb_1 : Ty E G b_1 12 := (fun b hb => tyf h tx0 hb) _ hb_1
      refine st_ref hb_1 ?_
      refine h_alen C h 12 (by decide) (by decide) tb_1 dX2_putWaiting_16 ?_
      refine lv_icmp_ge (tgt := 81) C.1 C.2.1 dX2_putWaiting_17 (by decide) (fun q => ?_) (fun q => ?_)
      · have hM := ite_t q hM
        obtain ⟨rfl, rfl⟩ := so_inj hM
        exact h_vret C h dX2_putWaiting_81
      · have hM := ite_f q hM
        refine lv_aload_n C.1 C.2.1 dX2_putWaiting_20 rfl (lv_at hl 0 rfl) ?_
        refine lv_aload_n C.1 C.2.1 dX2_putWaiting_21 rfl (lv_at hl 0 rfl) ?_
        refine gt_2_0 C h tx0 fl_X2_9 dX2_putWaiting_22 ?_
        refine st_ref hb_1 ?_
        refine lv_iload_n C.1 C.2.1 dX2_putWaiting_25 rfl (lv_at hl 2 rfl) ?_
        obtain ⟨hi, hM⟩ := ib_some hM
        refine h_iald C h tb_1 hi dX2_putWaiting_26 ?_
        obtain ⟨r_2, m_3, hc_2, hM⟩ := bd_some hM
        refine h_callVi C h (As := [.int (gI m b_1 x2.toNatClampNeg)]) (rest := []) r_2 m_3 (c_X2_strengthOf hc_2 tx0) 2 rfl (by decide) tx0 im_yX2_strengthOf se_yX2_strengthOf cy_X2_strengthOf rfl ml_X2_106 ⟨by decide, by decide⟩ ⟨Nat.zero_le _, Nat.zero_le _⟩ hl.1 rfl (Nat.le_of_ble_eq_true rfl) dX2_putWaiting_27 (fun H locs h => ?_)
        refine lv_iload_n C.1 C.2.1 dX2_putWaiting_30 rfl (lv_at hl 1 rfl) ?_
        refine lv_icmp_lt (tgt := 81) C.1 C.2.1 dX2_putWaiting_31 (by decide) (fun q => ?_) (fun q => ?_)
        · have hM := ite_t q hM
          obtain ⟨rfl, rfl⟩ := so_inj hM
          exact h_vret C h dX2_putWaiting_81
        · have hM := ite_f q hM
          refine lv_aload_n C.1 C.2.1 dX2_putWaiting_34 rfl (lv_at hl 0 rfl) ?_
          refine gt_2_2 C h tx0 fl_X2_19 dX2_putWaiting_35 ?_
          obtain ⟨b_4, hb_4, hM⟩ := nb_some hM
          have tb_4 : Ty E G b_4 6 := (fun b hb => tyf h tx0 hb) _ hb_4
          refine st_ref hb_4 ?_
          refine lv_aload_n C.1 C.2.1 dX2_putWaiting_38 rfl (lv_at hl 0 rfl) ?_
          refine gt_2_0 C h tx0 fl_X2_9 dX2_putWaiting_39 ?_
          obtain ⟨b_5, hb_5, hM⟩ := nb_some hM
          have tb_5 : Ty E G b_5 12 := (fun b hb => tyf h tx0 hb) _ hb_5
          refine st_ref hb_5 ?_
          refine lv_iload_n C.1 C.2.1 dX2_putWaiting_42 rfl (lv_at hl 2 rfl) ?_
          obtain ⟨hi, hM⟩ := ib_some hM
          refine h_iald C h tb_5 hi dX2_putWaiting_43 ?_
          refine lv_iconst (v := 0) C.1 C.2.1 dX2_putWaiting_44 (by decide) ?_
          obtain ⟨r_6, m_7, hc_6, hM⟩ := bd_some hM
          refine h_callVi C h (As := [.int (gI m_3 b_5 x2.toNatClampNeg), .int 0]) (rest := []) (bz r_6) m_7 (c_X6_put hc_6 tb_4) 6 rfl (by decide) tb_4 im_yX6_put se_yX6_put cy_X6_put rfl ml_X2_81 ⟨by decide, by decide⟩ ⟨Nat.zero_le _, Nat.zero_le _⟩ hl.1 rfl (Nat.le_of_ble_eq_true rfl) dX2_putWaiting_45 (fun H locs h => ?_)
          refine lv_pop C.1 C.2.1 dX2_putWaiting_48 rfl ?_
          refine lv_aload_n C.1 C.2.1 dX2_putWaiting_49 rfl (lv_at hl 0 rfl) ?_
          refine gt_2_0 C h tx0 fl_X2_9 dX2_putWaiting_50 ?_
          obtain ⟨b_8, hb_8, hM⟩ := nb_some hM
          have tb_8 : Ty E G b_8 12 := (fun b hb => tyf h tx0 hb) _ hb_8
          refine st_ref hb_8 ?_
          refine lv_iload_n C.1 C.2.1 dX2_putWaiting_53 rfl (lv_at hl 2 rfl) ?_
          obtain ⟨hi, hM⟩ := ib_some hM
          refine h_iald C h tb_8 hi dX2_putWaiting_54 ?_
          refine lv_bipush (v := 7) C.1 C.2.1 dX2_putWaiting_55 (by decide) ?_
          refine lv_icmp_ne (tgt := 70) C.1 C.2.1 dX2_putWaiting_57 (by decide) (fun q => ?_) (fun q => ?_)
          · have hM := ite_f q hM
            refine lv_aload_n C.1 C.2.1 dX2_putWaiting_70 rfl (lv_at hl 0 rfl) ?_
            refine lv_iload_n C.1 C.2.1 dX2_putWaiting_71 rfl (lv_at hl 2 rfl) ?_
            refine pt_2_5 C h tx0 fl_X2_31 dX2_putWaiting_72 (fun H locs h => ?_)
            refine lv_iinc (v := x2 + (-1)) (lv' := [(2, .int (x2 + (-1))), (0, .ref x0), (1, .int x1)]) C.1 C.2.1 dX2_putWaiting_75 hl (k := 2) rfl rfl (by decide) rfl (fun ls hl => ?_)
            refine lv_goto (tgt := 7) C.1 C.2.1 dX2_putWaiting_78 (by decide) ?_
            exact ih _ _ _ _ hM tx0 _ _ h ls (lv_sub hl [1, 2, 0] rfl)
          · have hM := ite_t q hM
            refine lv_aload_n C.1 C.2.1 dX2_putWaiting_60 rfl (lv_at hl 0 rfl) ?_
            refine lv_dup C.1 C.2.1 dX2_putWaiting_61 rfl ?_
            refine gt_2_7 C h tx0 fl_X2_37 dX2_putWaiting_62 ?_
            refine lv_iconst (v := 1) C.1 C.2.1 dX2_putWaiting_65 (by decide) ?_
            refine lv_isub C.1 C.2.1 dX2_putWaiting_66 ?_
            refine pt_2_7 C h tx0 fl_X2_37 dX2_putWaiting_67 (fun H locs h => ?_)
            refine lv_aload_n C.1 C.2.1 dX2_putWaiting_70 rfl (lv_at hl 0 rfl) ?_
            refine lv_iload_n C.1 C.2.1 dX2_putWaiting_71 rfl (lv_at hl 2 rfl) ?_
            refine pt_2_5 C h tx0 fl_X2_31 dX2_putWaiting_72 (fun H locs h => ?_)
            refine lv_iinc (v := x2 + (-1)) (lv' := [(2, .int (x2 + (-1))), (0, .ref x0), (1, .int x1)]) C.1 C.2.1 dX2_putWaiting_75 hl (k := 2) rfl rfl (by decide) rfl (fun ls hl => ?_)
            refine lv_goto (tgt := 7) C.1 C.2.1 dX2_putWaiting_78 (by decide) ?_
            exact ih _ _ _ _ hM tx0 _ _ h ls (lv_sub hl [1, 2, 0] rfl)
def M_X2_putWaiting (G : GG) (x0 : Nat) (x1 : Int32) (m : MM) : Option (Unit × MM) :=
  B_X2_putWaiting_7 G FU x0 x1 ((gI m x0 5) - 1) m
set_option maxRecDepth 100000 in
set_option maxHeartbeats 4000000 in
theorem cM_X2_putWaiting {p : Program} {l : Launch} {e : Env} {s : State} {mth : MethodId} {args : Array Value} {below : List Frame} {meth : Method} {c : Code} {E : EE} {G : GG} {r9 : Unit} {m9 : MM} (C : Cx E G p s mth args meth c cX2_putWaiting RX2 "putWaiting" 3 none) {x0 : Nat} {x1 : Int32} {m : MM} (hM : M_X2_putWaiting G x0 x1 m = some (r9, m9)) (tx0 : Ty E G x0 2) : ∀ (H : Heap) (locs : List Loc), Hp E G m s H locs → ∀ ls : Array Slot, lv_has ls 3 [(0, .ref x0), (1, .int x1)] → W p l e rmX2_putWaiting s mth args below meth c H locs 0 0 (MQ below (cQv E G m9) args s 0 0 (fun q => E.2.2.1 ≤ q)) (F0 mth 0 ls []) := by
  intro H locs h ls hl
  unfold M_X2_putWaiting at hM
  refine lv_aload_n C.1 C.2.1 dX2_putWaiting_0 rfl (lv_at hl 0 rfl) ?_
  refine gt_2_5 C h tx0 fl_X2_31 dX2_putWaiting_1 ?_
  refine lv_iconst (v := 1) C.1 C.2.1 dX2_putWaiting_4 (by decide) ?_
  refine lv_isub C.1 C.2.1 dX2_putWaiting_5 ?_
  refine lv_istore_n (lv' := [(2, .int ((gI m x0 5) - 1)), (0, .ref x0), (1, .int x1)]) C.1 C.2.1 dX2_putWaiting_6 rfl hl (by decide) rfl (fun ls hl => ?_)
  exact cB_X2_putWaiting_7 C _ _ _ _ _ hM tx0 _ _ h ls (lv_sub hl [1, 2, 0] rfl)
theorem cy_X2_putWaiting : Cy yX2_putWaiting cX2_putWaiting 3 none 1 := ⟨cd_yX2_putWaiting, ii_X2, by decide, by decide, by decide +kernel⟩
set_option maxRecDepth 100000 in
theorem c_X2_putWaiting {l : Launch} {E : EE} {G : GG} {x0 : Nat} {x1 : Int32} {m m9 : MM} {r9 : Unit} (hM : M_X2_putWaiting G x0 x1 m = some (r9, m9)) (tx0 : Ty E G x0 2) : Mc l E yX2_putWaiting cX2_putWaiting 3 none rmX2_putWaiting [.ref x0, .int x1] G m (cQv E G m9) := M_of (by decide) (Nat.le_of_ble_eq_true rfl) (fun p e s mth below meth c C h ls hl => cM_X2_putWaiting C hM tx0 _ _ h ls hl)
abbrev rmX2_readClosing : Room := { frames := 2, cells := 0, slots := 0, locals := 44 }
def B_X2_readClosing_7 (G : GG) : Nat → Nat → Int32 → MM → Option (Bool × MM)
  | 0, _, _, _ => none
  | fu + 1, x0, x1, m =>
    if 8 ≤ x1 then
      some (true, m)
    else
      nb (gR m x0 1) fun b_1 =>
        if (gI m b_1 3) = 41 then
          if (gI m x0 6) ≤ 0 then
            some (true, m)
          else
            bd (M_X2_putWaiting G x0 1 m) fun _ m_3 =>
              nb (gR (sI (sI (sI m_3 x0 5 ((gI m_3 x0 5) - 1)) x0 6 ((gI (sI m_3 x0 5 ((gI m_3 x0 5) - 1)) x0 6) - 1)) x0 7 ((gI (sI (sI m_3 x0 5 ((gI m_3 x0 5) - 1)) x0 6 ((gI (sI m_3 x0 5 ((gI m_3 x0 5) - 1)) x0 6) - 1)) x0 7) - 1)) x0 1) fun b_4 =>
                bd (M_X9_advance G b_4 (sI (sI (sI m_3 x0 5 ((gI m_3 x0 5) - 1)) x0 6 ((gI (sI m_3 x0 5 ((gI m_3 x0 5) - 1)) x0 6) - 1)) x0 7 ((gI (sI (sI m_3 x0 5 ((gI m_3 x0 5) - 1)) x0 6 ((gI (sI m_3 x0 5 ((gI m_3 x0 5) - 1)) x0 6) - 1)) x0 7) - 1))) fun r_5 m_6 =>
                  bd (M_X2_putWaiting G x0 3 m_6) fun _ m_8 =>
                    B_X2_readClosing_7 G fu x0 (x1 + 1) m_8
        else
          some (true, m)
set_option maxRecDepth 100000 in
set_option maxHeartbeats 4000000 in
theorem cB_X2_readClosing_7 {p : Program} {l : Launch} {e : Env} {s : State} {mth : MethodId} {args : Array Value} {below : List Frame} {meth : Method} {c : Code} {E : EE} {G : GG} {r9 : Bool} {m9 : MM} (C : Cx E G p s mth args meth c cX2_readClosing RX2 "readClosing" 2 (some .boolean)) : ∀ (fu : Nat) (x0 : Nat) (x1 : Int32) (m : MM), B_X2_readClosing_7 G fu x0 x1 m = some (r9, m9) → (Ty E G x0 2) → ∀ (H : Heap) (locs : List Loc), Hp E G m s H locs → ∀ ls : Array Slot, lv_has ls 2 [(0, .ref x0), (1, .int x1)] → W p l e rmX2_readClosing s mth args below meth c H locs 0 0 (MQ below (cQi E (bz r9) G m9) args s 0 0 (fun q => E.2.2.1 ≤ q)) (F0 mth 7 ls []) := by
  intro fu
  induction fu with
  | zero =>
    intro x0 x1 m hM
    rw [B_X2_readClosing_7] at hM
    cases hM
  | succ fu ih =>
    intro x0 x1 m hM tx0 H locs h ls hl
    rw [B_X2_readClosing_7] at hM
    refine lv_iload_n C.1 C.2.1 dX2_readClosing_7 rfl (lv_at hl 1 rfl) ?_
    refine lv_bipush (v := 8) C.1 C.2.1 dX2_readClosing_8 (by decide) ?_
    refine lv_icmp_ge (tgt := 86) C.1 C.2.1 dX2_readClosing_10 (by decide) (fun q => ?_) (fun q => ?_)
    · have hM := ite_t q hM
      refine lv_iconst (v := 1) C.1 C.2.1 dX2_readClosing_86 (by decide) ?_
      obtain ⟨rfl, rfl⟩ := so_inj hM
      exact h_zret C h (bz_ok _).1 dX2_readClosing_87
    · have hM := ite_f q hM
      refine lv_aload_n C.1 C.2.1 dX2_readClosing_13 rfl (lv_at hl 0 rfl) ?_
      refine gt_2_1 C h tx0 fl_X2_15 dX2_readClosing_14 ?_
      obtain ⟨b_1, hb_1, hM⟩ := nb_some hM
      have tb_1 : Ty E G b_1 9 := (fun b hb => tyf h tx0 hb) _ hb_1
      refine st_ref hb_1 ?_
      refine gt_9_3 C h tb_1 fl_X2_64 dX2_readClosing_17 ?_
      refine lv_bipush (v := 41) C.1 C.2.1 dX2_readClosing_20 (by decide) ?_
      refine lv_icmp_ne (tgt := 86) C.1 C.2.1 dX2_readClosing_22 (by decide) (fun q => ?_) (fun q => ?_)
      · have hM := ite_f q hM
        refine lv_iconst (v := 1) C.1 C.2.1 dX2_readClosing_86 (by decide) ?_
        obtain ⟨rfl, rfl⟩ := so_inj hM
        exact h_zret C h (bz_ok _).1 dX2_readClosing_87
      · have hM := ite_t q hM
        refine lv_aload_n C.1 C.2.1 dX2_readClosing_25 rfl (lv_at hl 0 rfl) ?_
        refine gt_2_6 C h tx0 fl_X2_34 dX2_readClosing_26 ?_
        refine lv_if_le (tgt := 86) C.1 C.2.1 dX2_readClosing_29 (by decide) (fun q => ?_) (fun q => ?_)
        · have hM := ite_t q hM
          refine lv_iconst (v := 1) C.1 C.2.1 dX2_readClosing_86 (by decide) ?_
          obtain ⟨rfl, rfl⟩ := so_inj hM
          exact h_zret C h (bz_ok _).1 dX2_readClosing_87
        · have hM := ite_f q hM
          refine lv_aload_n C.1 C.2.1 dX2_readClosing_32 rfl (lv_at hl 0 rfl) ?_
          refine lv_iconst (v := 1) C.1 C.2.1 dX2_readClosing_33 (by decide) ?_
          obtain ⟨r_2, m_3, hc_2, hM⟩ := bd_some hM
          refine h_callVv C h (As := [.int 1]) (rest := []) m_3 (c_X2_putWaiting hc_2 tx0) 2 rfl (by decide) tx0 im_yX2_putWaiting se_yX2_putWaiting cy_X2_putWaiting rfl ml_X2_103 ⟨by decide, by decide⟩ ⟨Nat.zero_le _, Nat.zero_le _⟩ hl.1 rfl (Nat.le_of_ble_eq_true rfl) dX2_readClosing_34 (fun H locs h => ?_)
          refine lv_aload_n C.1 C.2.1 dX2_readClosing_37 rfl (lv_at hl 0 rfl) ?_
          refine lv_dup C.1 C.2.1 dX2_readClosing_38 rfl ?_
          refine gt_2_5 C h tx0 fl_X2_31 dX2_readClosing_39 ?_
          refine lv_iconst (v := 1) C.1 C.2.1 dX2_readClosing_42 (by decide) ?_
          refine lv_isub C.1 C.2.1 dX2_readClosing_43 ?_
          refine pt_2_5 C h tx0 fl_X2_31 dX2_readClosing_44 (fun H locs h => ?_)
          refine lv_aload_n C.1 C.2.1 dX2_readClosing_47 rfl (lv_at hl 0 rfl) ?_
          refine lv_dup C.1 C.2.1 dX2_readClosing_48 rfl ?_
          refine gt_2_6 C h tx0 fl_X2_34 dX2_readClosing_49 ?_
          refine lv_iconst (v := 1) C.1 C.2.1 dX2_readClosing_52 (by decide) ?_
          refine lv_isub C.1 C.2.1 dX2_readClosing_53 ?_
          refine pt_2_6 C h tx0 fl_X2_34 dX2_readClosing_54 (fun H locs h => ?_)
          refine lv_aload_n C.1 C.2.1 dX2_readClosing_57 rfl (lv_at hl 0 rfl) ?_
          refine lv_dup C.1 C.2.1 dX2_readClosing_58 rfl ?_
          refine gt_2_7 C h tx0 fl_X2_37 dX2_readClosing_59 ?_
          refine lv_iconst (v := 1) C.1 C.2.1 dX2_readClosing_62 (by decide) ?_
          refine lv_isub C.1 C.2.1 dX2_readClosing_63 ?_
          refine pt_2_7 C h tx0 fl_X2_37 dX2_readClosing_64 (fun H locs h => ?_)
          refine lv_aload_n C.1 C.2.1 dX2_readClosing_67 rfl (lv_at hl 0 rfl) ?_
          refine gt_2_1 C h tx0 fl_X2_15 dX2_readClosing_68 ?_
          obtain ⟨b_4, hb_4, hM⟩ := nb_some hM
          have tb_4 : Ty E G b_4 9 := (fun b hb => tyf h tx0 hb) _ hb_4
          refine st_ref hb_4 ?_
          obtain ⟨r_5, m_6, hc_5, hM⟩ := bd_some hM
          refine h_callVi C h (As := []) (rest := []) (bz r_5) m_6 (c_X9_advance hc_5 tb_4) 9 rfl (by decide) tb_4 im_yX9_advance se_yX9_advance cy_X9_advance rfl ml_X2_75 ⟨by decide, by decide⟩ ⟨Nat.zero_le _, Nat.zero_le _⟩ hl.1 rfl (Nat.le_of_ble_eq_true rfl) dX2_readClosing_71 (fun H locs h => ?_)
          refine lv_pop C.1 C.2.1 dX2_readClosing_74 rfl ?_
          refine lv_aload_n C.1 C.2.1 dX2_readClosing_75 rfl (lv_at hl 0 rfl) ?_
          refine lv_iconst (v := 3) C.1 C.2.1 dX2_readClosing_76 (by decide) ?_
          obtain ⟨r_7, m_8, hc_7, hM⟩ := bd_some hM
          refine h_callVv C h (As := [.int 3]) (rest := []) m_8 (c_X2_putWaiting hc_7 tx0) 2 rfl (by decide) tx0 im_yX2_putWaiting se_yX2_putWaiting cy_X2_putWaiting rfl ml_X2_103 ⟨by decide, by decide⟩ ⟨Nat.zero_le _, Nat.zero_le _⟩ hl.1 rfl (Nat.le_of_ble_eq_true rfl) dX2_readClosing_77 (fun H locs h => ?_)
          refine lv_iinc (v := x1 + 1) (lv' := [(1, .int (x1 + 1)), (0, .ref x0)]) C.1 C.2.1 dX2_readClosing_80 hl (k := 1) rfl rfl (by decide) rfl (fun ls hl => ?_)
          refine lv_goto (tgt := 7) C.1 C.2.1 dX2_readClosing_83 (by decide) ?_
          exact ih _ _ _ hM tx0 _ _ h ls (lv_sub hl [1, 0] rfl)
def M_X2_readClosing (G : GG) (x0 : Nat) (m : MM) : Option (Bool × MM) :=
  bd (M_X2_putWaiting G x0 3 m) fun _ m_10 =>
    B_X2_readClosing_7 G FU x0 0 m_10
set_option maxRecDepth 100000 in
set_option maxHeartbeats 4000000 in
theorem cM_X2_readClosing {p : Program} {l : Launch} {e : Env} {s : State} {mth : MethodId} {args : Array Value} {below : List Frame} {meth : Method} {c : Code} {E : EE} {G : GG} {r9 : Bool} {m9 : MM} (C : Cx E G p s mth args meth c cX2_readClosing RX2 "readClosing" 2 (some .boolean)) {x0 : Nat} {m : MM} (hM : M_X2_readClosing G x0 m = some (r9, m9)) (tx0 : Ty E G x0 2) : ∀ (H : Heap) (locs : List Loc), Hp E G m s H locs → ∀ ls : Array Slot, lv_has ls 2 [(0, .ref x0)] → W p l e rmX2_readClosing s mth args below meth c H locs 0 0 (MQ below (cQi E (bz r9) G m9) args s 0 0 (fun q => E.2.2.1 ≤ q)) (F0 mth 0 ls []) := by
  intro H locs h ls hl
  unfold M_X2_readClosing at hM
  refine lv_aload_n C.1 C.2.1 dX2_readClosing_0 rfl (lv_at hl 0 rfl) ?_
  refine lv_iconst (v := 3) C.1 C.2.1 dX2_readClosing_1 (by decide) ?_
  obtain ⟨r_9, m_10, hc_9, hM⟩ := bd_some hM
  refine h_callVv C h (As := [.int 3]) (rest := []) m_10 (c_X2_putWaiting hc_9 tx0) 2 rfl (by decide) tx0 im_yX2_putWaiting se_yX2_putWaiting cy_X2_putWaiting rfl ml_X2_103 ⟨by decide, by decide⟩ ⟨Nat.zero_le _, Nat.zero_le _⟩ hl.1 rfl (Nat.le_of_ble_eq_true rfl) dX2_readClosing_2 (fun H locs h => ?_)
  refine lv_iconst (v := 0) C.1 C.2.1 dX2_readClosing_5 (by decide) ?_
  refine lv_istore_n (lv' := [(1, .int 0), (0, .ref x0)]) C.1 C.2.1 dX2_readClosing_6 rfl hl (by decide) rfl (fun ls hl => ?_)
  exact cB_X2_readClosing_7 C _ _ _ _ hM tx0 _ _ h ls (lv_sub hl [1, 0] rfl)
theorem cy_X2_readClosing : Cy yX2_readClosing cX2_readClosing 2 (some .boolean) 0 := ⟨cd_yX2_readClosing, ii_X2, by decide, by decide, by decide +kernel⟩
set_option maxRecDepth 100000 in
theorem c_X2_readClosing {l : Launch} {E : EE} {G : GG} {x0 : Nat} {m m9 : MM} {r9 : Bool} (hM : M_X2_readClosing G x0 m = some (r9, m9)) (tx0 : Ty E G x0 2) : Mc l E yX2_readClosing cX2_readClosing 2 (some .boolean) rmX2_readClosing [.ref x0] G m (cQi E (bz r9) G m9) := M_of (by decide) (Nat.le_of_ble_eq_true rfl) (fun p e s mth below meth c C h ls hl => cM_X2_readClosing C hM tx0 _ _ h ls hl)
abbrev rmX2_joiningOp : Room := { frames := 0, cells := 0, slots := 0, locals := 0 }
def M_X2_joiningOp (G : GG) (x0 : Nat) (m : MM) : Option (Int32 × MM) :=
  nb (gR m x0 1) fun b_1 =>
    if (gI m b_1 3) = 42 then
      some (10, m)
    else
      if (gI m b_1 3) = 43 then
        some (8, m)
      else
        if (gI m b_1 3) = 44 then
          some ((-1), m)
        else
          if (gI m b_1 3) = 45 then
            some (9, m)
          else
            if (gI m b_1 3) = 46 then
              some ((-1), m)
            else
              if (gI m b_1 3) = 47 then
                some (11, m)
              else
                some ((-1), m)
set_option maxRecDepth 100000 in
set_option maxHeartbeats 4000000 in
theorem cM_X2_joiningOp {p : Program} {l : Launch} {e : Env} {s : State} {mth : MethodId} {args : Array Value} {below : List Frame} {meth : Method} {c : Code} {E : EE} {G : GG} {r9 : Int32} {m9 : MM} (C : Cx E G p s mth args meth c cX2_joiningOp RX2 "joiningOp" 1 (some .int)) {x0 : Nat} {m : MM} (hM : M_X2_joiningOp G x0 m = some (r9, m9)) (tx0 : Ty E G x0 2) : ∀ (H : Heap) (locs : List Loc), Hp E G m s H locs → ∀ ls : Array Slot, lv_has ls 1 [(0, .ref x0)] → W p l e rmX2_joiningOp s mth args below meth c H locs 0 0 (MQ below (cQi E r9 G m9) args s 0 0 (fun q => E.2.2.1 ≤ q)) (F0 mth 0 ls []) := by
  intro H locs h ls hl
  unfold M_X2_joiningOp at hM
  refine lv_aload_n C.1 C.2.1 dX2_joiningOp_0 rfl (lv_at hl 0 rfl) ?_
  refine gt_2_1 C h tx0 fl_X2_15 dX2_joiningOp_1 ?_
  obtain ⟨b_1, hb_1, hM⟩ := nb_some hM
  have tb_1 : Ty E G b_1 9 := (fun b hb => tyf h tx0 hb) _ hb_1
  refine st_ref hb_1 ?_
  refine gt_9_3 C h tb_1 fl_X2_64 dX2_joiningOp_4 ?_
  by_cases q0 : (gI m b_1 3) = 42
  · have hM := ite_t q0 hM
    refine h_tabIn q0 (tgt := 50) C.1 C.2.1 dX2_joiningOp_7 (by decide) (by decide) rfl (by decide) ?_
    refine lv_bipush (v := 10) C.1 C.2.1 dX2_joiningOp_50 (by decide) ?_
    obtain ⟨rfl, rfl⟩ := so_inj hM
    exact h_iret C h dX2_joiningOp_52
  · have hM := ite_f q0 hM
    by_cases q1 : (gI m b_1 3) = 43
    · have hM := ite_t q1 hM
      refine h_tabIn q1 (tgt := 44) C.1 C.2.1 dX2_joiningOp_7 (by decide) (by decide) rfl (by decide) ?_
      refine lv_bipush (v := 8) C.1 C.2.1 dX2_joiningOp_44 (by decide) ?_
      obtain ⟨rfl, rfl⟩ := so_inj hM
      exact h_iret C h dX2_joiningOp_46
    · have hM := ite_f q1 hM
      by_cases q2 : (gI m b_1 3) = 44
      · have hM := ite_t q2 hM
        refine h_tabIn q2 (tgt := 56) C.1 C.2.1 dX2_joiningOp_7 (by decide) (by decide) rfl (by decide) ?_
        refine lv_iconst (v := (-1)) C.1 C.2.1 dX2_joiningOp_56 (by decide) ?_
        obtain ⟨rfl, rfl⟩ := so_inj hM
        exact h_iret C h dX2_joiningOp_57
      · have hM := ite_f q2 hM
        by_cases q3 : (gI m b_1 3) = 45
        · have hM := ite_t q3 hM
          refine h_tabIn q3 (tgt := 47) C.1 C.2.1 dX2_joiningOp_7 (by decide) (by decide) rfl (by decide) ?_
          refine lv_bipush (v := 9) C.1 C.2.1 dX2_joiningOp_47 (by decide) ?_
          obtain ⟨rfl, rfl⟩ := so_inj hM
          exact h_iret C h dX2_joiningOp_49
        · have hM := ite_f q3 hM
          by_cases q4 : (gI m b_1 3) = 46
          · have hM := ite_t q4 hM
            refine h_tabIn q4 (tgt := 56) C.1 C.2.1 dX2_joiningOp_7 (by decide) (by decide) rfl (by decide) ?_
            refine lv_iconst (v := (-1)) C.1 C.2.1 dX2_joiningOp_56 (by decide) ?_
            obtain ⟨rfl, rfl⟩ := so_inj hM
            exact h_iret C h dX2_joiningOp_57
          · have hM := ite_f q4 hM
            by_cases q5 : (gI m b_1 3) = 47
            · have hM := ite_t q5 hM
              refine h_tabIn q5 (tgt := 53) C.1 C.2.1 dX2_joiningOp_7 (by decide) (by decide) rfl (by decide) ?_
              refine lv_bipush (v := 11) C.1 C.2.1 dX2_joiningOp_53 (by decide) ?_
              obtain ⟨rfl, rfl⟩ := so_inj hM
              exact h_iret C h dX2_joiningOp_55
            · have hM := ite_f q5 hM
              refine h_tabOut (tgt := 56) (lo := 42) (n := 6) C.1 C.2.1 dX2_joiningOp_7 (by decide) (by decide) (by decide) (fun k hk => ?_) ?_
              · match k, hk with
                | 0, _ => exact q0
                | 1, _ => exact q1
                | 2, _ => exact q2
                | 3, _ => exact q3
                | 4, _ => exact q4
                | 5, _ => exact q5
                | k + 6, hk => exact absurd hk (by omega)
              · refine lv_iconst (v := (-1)) C.1 C.2.1 dX2_joiningOp_56 (by decide) ?_
                obtain ⟨rfl, rfl⟩ := so_inj hM
                exact h_iret C h dX2_joiningOp_57
theorem cy_X2_joiningOp : Cy yX2_joiningOp cX2_joiningOp 1 (some .int) 0 := ⟨cd_yX2_joiningOp, ii_X2, by decide, by decide, by decide +kernel⟩
set_option maxRecDepth 100000 in
theorem c_X2_joiningOp {l : Launch} {E : EE} {G : GG} {x0 : Nat} {m m9 : MM} {r9 : Int32} (hM : M_X2_joiningOp G x0 m = some (r9, m9)) (tx0 : Ty E G x0 2) : Mc l E yX2_joiningOp cX2_joiningOp 1 (some .int) rmX2_joiningOp [.ref x0] G m (cQi E r9 G m9) := M_of (by decide) (Nat.le_of_ble_eq_true rfl) (fun p e s mth below meth c C h ls hl => cM_X2_joiningOp C hM tx0 _ _ h ls hl)
abbrev rmX2_finishExp : Room := { frames := 2, cells := 0, slots := 0, locals := 44 }
def M_X2_finishExp (G : GG) (x0 : Nat) (m : MM) : Option (Bool × MM) :=
  if (gI m x0 6) ≤ 0 then
    bd (M_X2_putWaiting G x0 1 m) fun _ m_2 =>
      nb (gR m_2 x0 2) fun b_3 =>
        bd (M_X6_put G b_3 0 0 m_2) fun r_4 m_5 =>
          some (r_4, m_5)
  else
    some (false, m)
set_option maxRecDepth 100000 in
set_option maxHeartbeats 4000000 in
theorem cM_X2_finishExp {p : Program} {l : Launch} {e : Env} {s : State} {mth : MethodId} {args : Array Value} {below : List Frame} {meth : Method} {c : Code} {E : EE} {G : GG} {r9 : Bool} {m9 : MM} (C : Cx E G p s mth args meth c cX2_finishExp RX2 "finishExp" 1 (some .boolean)) {x0 : Nat} {m : MM} (hM : M_X2_finishExp G x0 m = some (r9, m9)) (tx0 : Ty E G x0 2) : ∀ (H : Heap) (locs : List Loc), Hp E G m s H locs → ∀ ls : Array Slot, lv_has ls 1 [(0, .ref x0)] → W p l e rmX2_finishExp s mth args below meth c H locs 0 0 (MQ below (cQi E (bz r9) G m9) args s 0 0 (fun q => E.2.2.1 ≤ q)) (F0 mth 0 ls []) := by
  intro H locs h ls hl
  unfold M_X2_finishExp at hM
  refine lv_aload_n C.1 C.2.1 dX2_finishExp_0 rfl (lv_at hl 0 rfl) ?_
  refine gt_2_6 C h tx0 fl_X2_34 dX2_finishExp_1 ?_
  refine lv_if_le (tgt := 9) C.1 C.2.1 dX2_finishExp_4 (by decide) (fun q => ?_) (fun q => ?_)
  · have hM := ite_t q hM
    refine lv_aload_n C.1 C.2.1 dX2_finishExp_9 rfl (lv_at hl 0 rfl) ?_
    refine lv_iconst (v := 1) C.1 C.2.1 dX2_finishExp_10 (by decide) ?_
    obtain ⟨r_1, m_2, hc_1, hM⟩ := bd_some hM
    refine h_callVv C h (As := [.int 1]) (rest := []) m_2 (c_X2_putWaiting hc_1 tx0) 2 rfl (by decide) tx0 im_yX2_putWaiting se_yX2_putWaiting cy_X2_putWaiting rfl ml_X2_103 ⟨by decide, by decide⟩ ⟨Nat.zero_le _, Nat.zero_le _⟩ hl.1 rfl (Nat.le_of_ble_eq_true rfl) dX2_finishExp_11 (fun H locs h => ?_)
    refine lv_aload_n C.1 C.2.1 dX2_finishExp_14 rfl (lv_at hl 0 rfl) ?_
    refine gt_2_2 C h tx0 fl_X2_19 dX2_finishExp_15 ?_
    obtain ⟨b_3, hb_3, hM⟩ := nb_some hM
    have tb_3 : Ty E G b_3 6 := (fun b hb => tyf h tx0 hb) _ hb_3
    refine st_ref hb_3 ?_
    refine lv_iconst (v := 0) C.1 C.2.1 dX2_finishExp_18 (by decide) ?_
    refine lv_iconst (v := 0) C.1 C.2.1 dX2_finishExp_19 (by decide) ?_
    obtain ⟨r_4, m_5, hc_4, hM⟩ := bd_some hM
    refine h_callVi C h (As := [.int 0, .int 0]) (rest := []) (bz r_4) m_5 (c_X6_put hc_4 tb_3) 6 rfl (by decide) tb_3 im_yX6_put se_yX6_put cy_X6_put rfl ml_X2_81 ⟨by decide, by decide⟩ ⟨Nat.zero_le _, Nat.zero_le _⟩ hl.1 rfl (Nat.le_of_ble_eq_true rfl) dX2_finishExp_20 (fun H locs h => ?_)
    obtain ⟨rfl, rfl⟩ := so_inj hM
    exact h_zret C h (bz_ok _).1 dX2_finishExp_23
  · have hM := ite_f q hM
    refine lv_iconst (v := 0) C.1 C.2.1 dX2_finishExp_7 (by decide) ?_
    obtain ⟨rfl, rfl⟩ := so_inj hM
    exact h_zret C h (bz_ok _).1 dX2_finishExp_8
theorem cy_X2_finishExp : Cy yX2_finishExp cX2_finishExp 1 (some .boolean) 0 := ⟨cd_yX2_finishExp, ii_X2, by decide, by decide, by decide +kernel⟩
set_option maxRecDepth 100000 in
theorem c_X2_finishExp {l : Launch} {E : EE} {G : GG} {x0 : Nat} {m m9 : MM} {r9 : Bool} (hM : M_X2_finishExp G x0 m = some (r9, m9)) (tx0 : Ty E G x0 2) : Mc l E yX2_finishExp cX2_finishExp 1 (some .boolean) rmX2_finishExp [.ref x0] G m (cQi E (bz r9) G m9) := M_of (by decide) (Nat.le_of_ble_eq_true rfl) (fun p e s mth below meth c C h ls hl => cM_X2_finishExp C hM tx0 _ _ h ls hl)
abbrev rmX2_readSign : Room := { frames := 2, cells := 0, slots := 0, locals := 44 }
def M_X2_readSign (G : GG) (x0 : Nat) (x1 : Int32) (m : MM) : Option (Bool × MM) :=
  if (gI m x0 8) < 20 then
    bd (M_X2_strengthOf G x0 x1 (sI m x0 8 ((gI m x0 8) + 1))) fun r_1 m_2 =>
      bd (M_X2_putWaiting G x0 r_1 m_2) fun _ m_4 =>
        bd (M_X2_pushWaiting G x0 x1 m_4) fun _ m_6 =>
          nb (gR m_6 x0 1) fun b_7 =>
            bd (M_X9_advance G b_7 m_6) fun r_8 m_9 =>
              some (r_8, m_9)
  else
    some (false, m)
set_option maxRecDepth 100000 in
set_option maxHeartbeats 4000000 in
theorem cM_X2_readSign {p : Program} {l : Launch} {e : Env} {s : State} {mth : MethodId} {args : Array Value} {below : List Frame} {meth : Method} {c : Code} {E : EE} {G : GG} {r9 : Bool} {m9 : MM} (C : Cx E G p s mth args meth c cX2_readSign RX2 "readSign" 2 (some .boolean)) {x0 : Nat} {x1 : Int32} {m : MM} (hM : M_X2_readSign G x0 x1 m = some (r9, m9)) (tx0 : Ty E G x0 2) : ∀ (H : Heap) (locs : List Loc), Hp E G m s H locs → ∀ ls : Array Slot, lv_has ls 2 [(0, .ref x0), (1, .int x1)] → W p l e rmX2_readSign s mth args below meth c H locs 0 0 (MQ below (cQi E (bz r9) G m9) args s 0 0 (fun q => E.2.2.1 ≤ q)) (F0 mth 0 ls []) := by
  intro H locs h ls hl
  unfold M_X2_readSign at hM
  refine lv_aload_n C.1 C.2.1 dX2_readSign_0 rfl (lv_at hl 0 rfl) ?_
  refine gt_2_8 C h tx0 fl_X2_40 dX2_readSign_1 ?_
  refine lv_bipush (v := 20) C.1 C.2.1 dX2_readSign_4 (by decide) ?_
  refine lv_icmp_lt (tgt := 11) C.1 C.2.1 dX2_readSign_6 (by decide) (fun q => ?_) (fun q => ?_)
  · have hM := ite_t q hM
    refine lv_aload_n C.1 C.2.1 dX2_readSign_11 rfl (lv_at hl 0 rfl) ?_
    refine lv_dup C.1 C.2.1 dX2_readSign_12 rfl ?_
    refine gt_2_8 C h tx0 fl_X2_40 dX2_readSign_13 ?_
    refine lv_iconst (v := 1) C.1 C.2.1 dX2_readSign_16 (by decide) ?_
    refine lv_iadd C.1 C.2.1 dX2_readSign_17 ?_
    refine pt_2_8 C h tx0 fl_X2_40 dX2_readSign_18 (fun H locs h => ?_)
    refine lv_aload_n C.1 C.2.1 dX2_readSign_21 rfl (lv_at hl 0 rfl) ?_
    refine lv_aload_n C.1 C.2.1 dX2_readSign_22 rfl (lv_at hl 0 rfl) ?_
    refine lv_iload_n C.1 C.2.1 dX2_readSign_23 rfl (lv_at hl 1 rfl) ?_
    obtain ⟨r_1, m_2, hc_1, hM⟩ := bd_some hM
    refine h_callVi C h (As := [.int x1]) (rest := [.ref x0]) r_1 m_2 (c_X2_strengthOf hc_1 tx0) 2 rfl (by decide) tx0 im_yX2_strengthOf se_yX2_strengthOf cy_X2_strengthOf rfl ml_X2_106 ⟨by decide, by decide⟩ ⟨Nat.zero_le _, Nat.zero_le _⟩ hl.1 rfl (Nat.le_of_ble_eq_true rfl) dX2_readSign_24 (fun H locs h => ?_)
    obtain ⟨r_3, m_4, hc_3, hM⟩ := bd_some hM
    refine h_callVv C h (As := [.int r_1]) (rest := []) m_4 (c_X2_putWaiting hc_3 tx0) 2 rfl (by decide) tx0 im_yX2_putWaiting se_yX2_putWaiting cy_X2_putWaiting rfl ml_X2_103 ⟨by decide, by decide⟩ ⟨Nat.zero_le _, Nat.zero_le _⟩ hl.1 rfl (Nat.le_of_ble_eq_true rfl) dX2_readSign_27 (fun H locs h => ?_)
    refine lv_aload_n C.1 C.2.1 dX2_readSign_30 rfl (lv_at hl 0 rfl) ?_
    refine lv_iload_n C.1 C.2.1 dX2_readSign_31 rfl (lv_at hl 1 rfl) ?_
    obtain ⟨r_5, m_6, hc_5, hM⟩ := bd_some hM
    refine h_callVv C h (As := [.int x1]) (rest := []) m_6 (c_X2_pushWaiting hc_5 tx0) 2 rfl (by decide) tx0 im_yX2_pushWaiting se_yX2_pushWaiting cy_X2_pushWaiting rfl ml_X2_71 ⟨by decide, by decide⟩ ⟨Nat.zero_le _, Nat.zero_le _⟩ hl.1 rfl (Nat.le_of_ble_eq_true rfl) dX2_readSign_32 (fun H locs h => ?_)
    refine lv_aload_n C.1 C.2.1 dX2_readSign_35 rfl (lv_at hl 0 rfl) ?_
    refine gt_2_1 C h tx0 fl_X2_15 dX2_readSign_36 ?_
    obtain ⟨b_7, hb_7, hM⟩ := nb_some hM
    have tb_7 : Ty E G b_7 9 := (fun b hb => tyf h tx0 hb) _ hb_7
    refine st_ref hb_7 ?_
    obtain ⟨r_8, m_9, hc_8, hM⟩ := bd_some hM
    refine h_callVi C h (As := []) (rest := []) (bz r_8) m_9 (c_X9_advance hc_8 tb_7) 9 rfl (by decide) tb_7 im_yX9_advance se_yX9_advance cy_X9_advance rfl ml_X2_75 ⟨by decide, by decide⟩ ⟨Nat.zero_le _, Nat.zero_le _⟩ hl.1 rfl (Nat.le_of_ble_eq_true rfl) dX2_readSign_39 (fun H locs h => ?_)
    obtain ⟨rfl, rfl⟩ := so_inj hM
    exact h_zret C h (bz_ok _).1 dX2_readSign_42
  · have hM := ite_f q hM
    refine lv_iconst (v := 0) C.1 C.2.1 dX2_readSign_9 (by decide) ?_
    obtain ⟨rfl, rfl⟩ := so_inj hM
    exact h_zret C h (bz_ok _).1 dX2_readSign_10
theorem cy_X2_readSign : Cy yX2_readSign cX2_readSign 2 (some .boolean) 1 := ⟨cd_yX2_readSign, ii_X2, by decide, by decide, by decide +kernel⟩
set_option maxRecDepth 100000 in
theorem c_X2_readSign {l : Launch} {E : EE} {G : GG} {x0 : Nat} {x1 : Int32} {m m9 : MM} {r9 : Bool} (hM : M_X2_readSign G x0 x1 m = some (r9, m9)) (tx0 : Ty E G x0 2) : Mc l E yX2_readSign cX2_readSign 2 (some .boolean) rmX2_readSign [.ref x0, .int x1] G m (cQi E (bz r9) G m9) := M_of (by decide) (Nat.le_of_ble_eq_true rfl) (fun p e s mth below meth c C h ls hl => cM_X2_readSign C hM tx0 _ _ h ls hl)
abbrev rmX2_read : Room := { frames := 3, cells := 0, slots := 0, locals := 65 }
def B_X2_read_27 (G : GG) : Nat → Nat → Int32 → MM → Option (Bool × MM)
  | 0, _, _, _ => none
  | fu + 1, x0, x2, m =>
    if 20 < x2 then
      some (false, m)
    else
      bd (M_X2_readNesting G x0 m) fun r_1 m_2 =>
        if r_1 = true then
          bd (M_X2_readOne G x0 m_2) fun r_3 m_4 =>
            if r_3 = true then
              bd (M_X2_readClosing G x0 m_4) fun r_5 m_6 =>
                if r_5 = true then
                  bd (M_X2_joiningOp G x0 m_6) fun r_7 m_8 =>
                    if r_7 = (-1) then
                      bd (M_X2_finishExp G x0 m_8) fun r_11 m_12 =>
                        some (r_11, m_12)
                    else
                      bd (M_X2_readSign G x0 r_7 m_8) fun r_9 m_10 =>
                        if r_9 = true then
                          B_X2_read_27 G fu x0 (x2 + 1) m_10
                        else
                          some (false, m_10)
                else
                  some (false, m_6)
            else
              some (false, m_4)
        else
          some (false, m_2)
set_option maxRecDepth 100000 in
set_option maxHeartbeats 4000000 in
theorem cB_X2_read_27 {p : Program} {l : Launch} {e : Env} {s : State} {mth : MethodId} {args : Array Value} {below : List Frame} {meth : Method} {c : Code} {E : EE} {G : GG} {r9 : Bool} {m9 : MM} (C : Cx E G p s mth args meth c cX2_read RX2 "read" 4 (some .boolean)) : ∀ (fu : Nat) (x0 : Nat) (x2 : Int32) (m : MM), B_X2_read_27 G fu x0 x2 m = some (r9, m9) → (Ty E G x0 2) → ∀ (H : Heap) (locs : List Loc), Hp E G m s H locs → ∀ ls : Array Slot, lv_has ls 4 [(0, .ref x0), (2, .int x2)] → W p l e rmX2_read s mth args below meth c H locs 0 0 (MQ below (cQi E (bz r9) G m9) args s 0 0 (fun q => E.2.2.1 ≤ q)) (F0 mth 27 ls []) := by
  intro fu
  induction fu with
  | zero =>
    intro x0 x2 m hM
    rw [B_X2_read_27] at hM
    cases hM
  | succ fu ih =>
    intro x0 x2 m hM tx0 H locs h ls hl
    rw [B_X2_read_27] at hM
    refine lv_iload_n C.1 C.2.1 dX2_read_27 rfl (lv_at hl 1 rfl) ?_
    refine lv_bipush (v := 20) C.1 C.2.1 dX2_read_28 (by decide) ?_
    refine lv_icmp_gt (tgt := 87) C.1 C.2.1 dX2_read_30 (by decide) (fun q => ?_) (fun q => ?_)
    · have hM := ite_t q hM
      refine lv_iconst (v := 0) C.1 C.2.1 dX2_read_87 (by decide) ?_
      obtain ⟨rfl, rfl⟩ := so_inj hM
      exact h_zret C h (bz_ok _).1 dX2_read_88
    · have hM := ite_f q hM
      refine lv_aload_n C.1 C.2.1 dX2_read_33 rfl (lv_at hl 0 rfl) ?_
      obtain ⟨r_1, m_2, hc_1, hM⟩ := bd_some hM
      refine h_callVi C h (As := []) (rest := []) (bz r_1) m_2 (c_X2_readNesting hc_1 tx0) 2 rfl (by decide) tx0 im_yX2_readNesting se_yX2_readNesting cy_X2_readNesting rfl ml_X2_43 ⟨by decide, by decide⟩ ⟨Nat.zero_le _, Nat.zero_le _⟩ hl.1 rfl (Nat.le_of_ble_eq_true rfl) dX2_read_34 (fun H locs h => ?_)
      refine h_ifz (tgt := 54) C.1 C.2.1 dX2_read_37 (by decide) (fun q => ?_) (fun q => ?_)
      · have hM := ite_f q hM
        refine lv_iconst (v := 0) C.1 C.2.1 dX2_read_54 (by decide) ?_
        obtain ⟨rfl, rfl⟩ := so_inj hM
        exact h_zret C h (bz_ok _).1 dX2_read_55
      · have hM := ite_t q hM
        refine lv_aload_n C.1 C.2.1 dX2_read_40 rfl (lv_at hl 0 rfl) ?_
        obtain ⟨r_3, m_4, hc_3, hM⟩ := bd_some hM
        refine h_callVi C h (As := []) (rest := []) (bz r_3) m_4 (c_X2_readOne hc_3 tx0) 2 rfl (by decide) tx0 im_yX2_readOne se_yX2_readOne cy_X2_readOne rfl ml_X2_47 ⟨by decide, by decide⟩ ⟨Nat.zero_le _, Nat.zero_le _⟩ hl.1 rfl (Nat.le_of_ble_eq_true rfl) dX2_read_41 (fun H locs h => ?_)
        refine h_ifz (tgt := 54) C.1 C.2.1 dX2_read_44 (by decide) (fun q => ?_) (fun q => ?_)
        · have hM := ite_f q hM
          refine lv_iconst (v := 0) C.1 C.2.1 dX2_read_54 (by decide) ?_
          obtain ⟨rfl, rfl⟩ := so_inj hM
          exact h_zret C h (bz_ok _).1 dX2_read_55
        · have hM := ite_t q hM
          refine lv_aload_n C.1 C.2.1 dX2_read_47 rfl (lv_at hl 0 rfl) ?_
          obtain ⟨r_5, m_6, hc_5, hM⟩ := bd_some hM
          refine h_callVi C h (As := []) (rest := []) (bz r_5) m_6 (c_X2_readClosing hc_5 tx0) 2 rfl (by decide) tx0 im_yX2_readClosing se_yX2_readClosing cy_X2_readClosing rfl ml_X2_50 ⟨by decide, by decide⟩ ⟨Nat.zero_le _, Nat.zero_le _⟩ hl.1 rfl (Nat.le_of_ble_eq_true rfl) dX2_read_48 (fun H locs h => ?_)
          refine h_ifnz (tgt := 56) C.1 C.2.1 dX2_read_51 (by decide) (fun q => ?_) (fun q => ?_)
          · have hM := ite_t q hM
            refine lv_aload_n C.1 C.2.1 dX2_read_56 rfl (lv_at hl 0 rfl) ?_
            obtain ⟨r_7, m_8, hc_7, hM⟩ := bd_some hM
            refine h_callVi C h (As := []) (rest := []) r_7 m_8 (c_X2_joiningOp hc_7 tx0) 2 rfl (by decide) tx0 im_yX2_joiningOp se_yX2_joiningOp cy_X2_joiningOp rfl ml_X2_53 ⟨by decide, by decide⟩ ⟨Nat.zero_le _, Nat.zero_le _⟩ hl.1 rfl (Nat.le_of_ble_eq_true rfl) dX2_read_57 (fun H locs h => ?_)
            refine lv_istore_n (lv' := [(3, .int r_7), (0, .ref x0), (2, .int x2)]) C.1 C.2.1 dX2_read_60 rfl hl (by decide) rfl (fun ls hl => ?_)
            refine lv_iload_n C.1 C.2.1 dX2_read_61 rfl (lv_at hl 0 rfl) ?_
            refine lv_iconst (v := (-1)) C.1 C.2.1 dX2_read_62 (by decide) ?_
            refine lv_icmp_ne (tgt := 71) C.1 C.2.1 dX2_read_63 (by decide) (fun q => ?_) (fun q => ?_)
            · have hM := ite_f q hM
              refine lv_aload_n C.1 C.2.1 dX2_read_71 rfl (lv_at hl 1 rfl) ?_
              refine lv_iload_n C.1 C.2.1 dX2_read_72 rfl (lv_at hl 0 rfl) ?_
              obtain ⟨r_9, m_10, hc_9, hM⟩ := bd_some hM
              refine h_callVi C h (As := [.int r_7]) (rest := []) (bz r_9) m_10 (c_X2_readSign hc_9 tx0) 2 rfl (by decide) tx0 im_yX2_readSign se_yX2_readSign cy_X2_readSign rfl ml_X2_60 ⟨by decide, by decide⟩ ⟨Nat.zero_le _, Nat.zero_le _⟩ hl.1 rfl (Nat.le_of_ble_eq_true rfl) dX2_read_73 (fun H locs h => ?_)
              refine h_ifnz (tgt := 81) C.1 C.2.1 dX2_read_76 (by decide) (fun q => ?_) (fun q => ?_)
              · have hM := ite_t q hM
                refine lv_iinc (v := x2 + 1) (lv' := [(2, .int (x2 + 1)), (3, .int r_7), (0, .ref x0)]) C.1 C.2.1 dX2_read_81 hl (k := 2) rfl rfl (by decide) rfl (fun ls hl => ?_)
                refine lv_goto (tgt := 27) C.1 C.2.1 dX2_read_84 (by decide) ?_
                exact ih _ _ _ hM tx0 _ _ h ls (lv_sub hl [2, 0] rfl)
              · have hM := ite_f q hM
                refine lv_iconst (v := 0) C.1 C.2.1 dX2_read_79 (by decide) ?_
                obtain ⟨rfl, rfl⟩ := so_inj hM
                exact h_zret C h (bz_ok _).1 dX2_read_80
            · have hM := ite_t q hM
              refine lv_aload_n C.1 C.2.1 dX2_read_66 rfl (lv_at hl 1 rfl) ?_
              obtain ⟨r_11, m_12, hc_11, hM⟩ := bd_some hM
              refine h_callVi C h (As := []) (rest := []) (bz r_11) m_12 (c_X2_finishExp hc_11 tx0) 2 rfl (by decide) tx0 im_yX2_finishExp se_yX2_finishExp cy_X2_finishExp rfl ml_X2_57 ⟨by decide, by decide⟩ ⟨Nat.zero_le _, Nat.zero_le _⟩ hl.1 rfl (Nat.le_of_ble_eq_true rfl) dX2_read_67 (fun H locs h => ?_)
              obtain ⟨rfl, rfl⟩ := so_inj hM
              exact h_zret C h (bz_ok _).1 dX2_read_70
          · have hM := ite_f q hM
            refine lv_iconst (v := 0) C.1 C.2.1 dX2_read_54 (by decide) ?_
            obtain ⟨rfl, rfl⟩ := so_inj hM
            exact h_zret C h (bz_ok _).1 dX2_read_55
def M_X2_read (G : GG) (x0 : Nat) (x1 : Int32) (m : MM) : Option (Bool × MM) :=
  B_X2_read_27 G FU x0 0 (sI (sI (sI (sI (sI m x0 4 x1) x0 5 0) x0 6 0) x0 7 0) x0 8 0)
set_option maxRecDepth 100000 in
set_option maxHeartbeats 4000000 in
theorem cM_X2_read {p : Program} {l : Launch} {e : Env} {s : State} {mth : MethodId} {args : Array Value} {below : List Frame} {meth : Method} {c : Code} {E : EE} {G : GG} {r9 : Bool} {m9 : MM} (C : Cx E G p s mth args meth c cX2_read RX2 "read" 4 (some .boolean)) {x0 : Nat} {x1 : Int32} {m : MM} (hM : M_X2_read G x0 x1 m = some (r9, m9)) (tx0 : Ty E G x0 2) : ∀ (H : Heap) (locs : List Loc), Hp E G m s H locs → ∀ ls : Array Slot, lv_has ls 4 [(0, .ref x0), (1, .int x1)] → W p l e rmX2_read s mth args below meth c H locs 0 0 (MQ below (cQi E (bz r9) G m9) args s 0 0 (fun q => E.2.2.1 ≤ q)) (F0 mth 0 ls []) := by
  intro H locs h ls hl
  unfold M_X2_read at hM
  refine lv_aload_n C.1 C.2.1 dX2_read_0 rfl (lv_at hl 0 rfl) ?_
  refine lv_iload_n C.1 C.2.1 dX2_read_1 rfl (lv_at hl 1 rfl) ?_
  refine pt_2_4 C h tx0 fl_X2_27 dX2_read_2 (fun H locs h => ?_)
  refine lv_aload_n C.1 C.2.1 dX2_read_5 rfl (lv_at hl 0 rfl) ?_
  refine lv_iconst (v := 0) C.1 C.2.1 dX2_read_6 (by decide) ?_
  refine pt_2_5 C h tx0 fl_X2_31 dX2_read_7 (fun H locs h => ?_)
  refine lv_aload_n C.1 C.2.1 dX2_read_10 rfl (lv_at hl 0 rfl) ?_
  refine lv_iconst (v := 0) C.1 C.2.1 dX2_read_11 (by decide) ?_
  refine pt_2_6 C h tx0 fl_X2_34 dX2_read_12 (fun H locs h => ?_)
  refine lv_aload_n C.1 C.2.1 dX2_read_15 rfl (lv_at hl 0 rfl) ?_
  refine lv_iconst (v := 0) C.1 C.2.1 dX2_read_16 (by decide) ?_
  refine pt_2_7 C h tx0 fl_X2_37 dX2_read_17 (fun H locs h => ?_)
  refine lv_aload_n C.1 C.2.1 dX2_read_20 rfl (lv_at hl 0 rfl) ?_
  refine lv_iconst (v := 0) C.1 C.2.1 dX2_read_21 (by decide) ?_
  refine pt_2_8 C h tx0 fl_X2_40 dX2_read_22 (fun H locs h => ?_)
  refine lv_iconst (v := 0) C.1 C.2.1 dX2_read_25 (by decide) ?_
  refine lv_istore_n (lv' := [(2, .int 0), (0, .ref x0), (1, .int x1)]) C.1 C.2.1 dX2_read_26 rfl hl (by decide) rfl (fun ls hl => ?_)
  exact cB_X2_read_27 C _ _ _ _ hM tx0 _ _ h ls (lv_sub hl [1, 0] rfl)
theorem cy_X2_read : Cy yX2_read cX2_read 4 (some .boolean) 1 := ⟨cd_yX2_read, ii_X2, by decide, by decide, by decide +kernel⟩
set_option maxRecDepth 100000 in
theorem c_X2_read {l : Launch} {E : EE} {G : GG} {x0 : Nat} {x1 : Int32} {m m9 : MM} {r9 : Bool} (hM : M_X2_read G x0 x1 m = some (r9, m9)) (tx0 : Ty E G x0 2) : Mc l E yX2_read cX2_read 4 (some .boolean) rmX2_read [.ref x0, .int x1] G m (cQi E (bz r9) G m9) := M_of (by decide) (Nat.le_of_ble_eq_true rfl) (fun p e s mth below meth c C h ls hl => cM_X2_read C hM tx0 _ _ h ls hl)
