abbrev rmX7_begin : Room := { frames := 0, cells := 0, slots := 0, locals := 0 }
def M_X7_begin (G : GG) (x0 : Nat) (x1 : Nat) (m : MM) : Option (Unit × MM) :=
  some ((), sI (sI (sR m x0 5 (some x1)) x0 3 0) x0 4 0)
set_option maxRecDepth 100000 in
set_option maxHeartbeats 4000000 in
theorem cM_X7_begin {p : Program} {l : Launch} {e : Env} {s : State} {mth : MethodId} {args : Array Value} {below : List Frame} {meth : Method} {c : Code} {E : EE} {G : GG} {r9 : Unit} {m9 : MM} (C : Cx E G p s mth args meth c cX7_begin RX7 "begin" 2 none) {x0 : Nat} {x1 : Nat} {m : MM} (hM : M_X7_begin G x0 x1 m = some (r9, m9)) (tx0 : Ty E G x0 7) (tx1 : Ty E G x1 6) : ∀ (H : Heap) (locs : List Loc), Hp E G m s H locs → ∀ ls : Array Slot, lv_has ls 2 [(0, .ref x0), (1, .ref x1)] → W p l e rmX7_begin s mth args below meth c H locs 0 0 (MQ below (cQv E G m9) args s 0 0 (fun q => E.2.2.1 ≤ q)) (F0 mth 0 ls []) := by
  intro H locs h ls hl
  unfold M_X7_begin at hM
  refine lv_aload_n C.1 C.2.1 dX7_begin_0 rfl (lv_at hl 0 rfl) ?_
  refine lv_aload_n C.1 C.2.1 dX7_begin_1 rfl (lv_at hl 1 rfl) ?_
  refine st_some ?_
  refine pt_7_5 C h (fun b hb => by cases hb; exact tx1) tx0 fl_X7_18 dX7_begin_2 (fun H locs h => ?_)
  refine lv_aload_n C.1 C.2.1 dX7_begin_5 rfl (lv_at hl 0 rfl) ?_
  refine lv_iconst (v := 0) C.1 C.2.1 dX7_begin_6 (by decide) ?_
  refine pt_7_3 C h tx0 fl_X7_22 dX7_begin_7 (fun H locs h => ?_)
  refine lv_aload_n C.1 C.2.1 dX7_begin_10 rfl (lv_at hl 0 rfl) ?_
  refine lv_iconst (v := 0) C.1 C.2.1 dX7_begin_11 (by decide) ?_
  refine pt_7_4 C h tx0 fl_X7_26 dX7_begin_12 (fun H locs h => ?_)
  obtain ⟨rfl, rfl⟩ := so_inj hM
  exact h_vret C h dX7_begin_15
theorem cy_X7_begin : Cy yX7_begin cX7_begin 2 none 1 := ⟨cd_yX7_begin, ii_X7, by decide, by decide, by decide +kernel⟩
set_option maxRecDepth 100000 in
theorem c_X7_begin {l : Launch} {E : EE} {G : GG} {x0 : Nat} {x1 : Nat} {m m9 : MM} {r9 : Unit} (hM : M_X7_begin G x0 x1 m = some (r9, m9)) (tx0 : Ty E G x0 7) (tx1 : Ty E G x1 6) : Mc l E yX7_begin cX7_begin 2 none rmX7_begin [.ref x0, .ref x1] G m (cQv E G m9) := M_of (by decide) (Nat.le_of_ble_eq_true rfl) (fun p e s mth below meth c C h ls hl => cM_X7_begin C hM tx0 tx1 _ _ h ls hl)
abbrev rmX7_failBy : Room := { frames := 0, cells := 0, slots := 0, locals := 0 }
def M_X7_failBy (G : GG) (x0 : Nat) (x1 : Int32) (m : MM) : Option (Bool × MM) :=
  some (false, sI m x0 4 x1)
set_option maxRecDepth 100000 in
set_option maxHeartbeats 4000000 in
theorem cM_X7_failBy {p : Program} {l : Launch} {e : Env} {s : State} {mth : MethodId} {args : Array Value} {below : List Frame} {meth : Method} {c : Code} {E : EE} {G : GG} {r9 : Bool} {m9 : MM} (C : Cx E G p s mth args meth c cX7_failBy RX7 "failBy" 2 (some .boolean)) {x0 : Nat} {x1 : Int32} {m : MM} (hM : M_X7_failBy G x0 x1 m = some (r9, m9)) (tx0 : Ty E G x0 7) : ∀ (H : Heap) (locs : List Loc), Hp E G m s H locs → ∀ ls : Array Slot, lv_has ls 2 [(0, .ref x0), (1, .int x1)] → W p l e rmX7_failBy s mth args below meth c H locs 0 0 (MQ below (cQi E (bz r9) G m9) args s 0 0 (fun q => E.2.2.1 ≤ q)) (F0 mth 0 ls []) := by
  intro H locs h ls hl
  unfold M_X7_failBy at hM
  refine lv_aload_n C.1 C.2.1 dX7_failBy_0 rfl (lv_at hl 0 rfl) ?_
  refine lv_iload_n C.1 C.2.1 dX7_failBy_1 rfl (lv_at hl 1 rfl) ?_
  refine pt_7_4 C h tx0 fl_X7_26 dX7_failBy_2 (fun H locs h => ?_)
  refine lv_iconst (v := 0) C.1 C.2.1 dX7_failBy_5 (by decide) ?_
  obtain ⟨rfl, rfl⟩ := so_inj hM
  exact h_zret C h (bz_ok _).1 dX7_failBy_6
theorem cy_X7_failBy : Cy yX7_failBy cX7_failBy 2 (some .boolean) 1 := ⟨cd_yX7_failBy, ii_X7, by decide, by decide, by decide +kernel⟩
set_option maxRecDepth 100000 in
theorem c_X7_failBy {l : Launch} {E : EE} {G : GG} {x0 : Nat} {x1 : Int32} {m m9 : MM} {r9 : Bool} (hM : M_X7_failBy G x0 x1 m = some (r9, m9)) (tx0 : Ty E G x0 7) : Mc l E yX7_failBy cX7_failBy 2 (some .boolean) rmX7_failBy [.ref x0, .int x1] G m (cQi E (bz r9) G m9) := M_of (by decide) (Nat.le_of_ble_eq_true rfl) (fun p e s mth below meth c C h ls hl => cM_X7_failBy C hM tx0 _ _ h ls hl)
abbrev rmX7_pop : Room := { frames := 0, cells := 0, slots := 0, locals := 0 }
def M_X7_pop (G : GG) (x0 : Nat) (m : MM) : Option (Int32 × MM) :=
  if (gI m x0 3) ≤ 0 then
    some (0, m)
  else
    nb (gR m x0 1) fun b_1 =>
      if (gI m x0 3) ≤ (nI (G.2.2 b_1)) then
        nb (gR (sI m x0 3 ((gI m x0 3) - 1)) x0 1) fun b_2 =>
          ib (gI (sI m x0 3 ((gI m x0 3) - 1)) x0 3) (G.2.2 b_2) <|
            some (gI (sI m x0 3 ((gI m x0 3) - 1)) b_2 ((gI (sI m x0 3 ((gI m x0 3) - 1)) x0 3).toNatClampNeg), sI m x0 3 ((gI m x0 3) - 1))
      else
        some (0, m)
set_option maxRecDepth 100000 in
set_option maxHeartbeats 4000000 in
theorem cM_X7_pop {p : Program} {l : Launch} {e : Env} {s : State} {mth : MethodId} {args : Array Value} {below : List Frame} {meth : Method} {c : Code} {E : EE} {G : GG} {r9 : Int32} {m9 : MM} (C : Cx E G p s mth args meth c cX7_pop RX7 "pop" 1 (some .int)) {x0 : Nat} {m : MM} (hM : M_X7_pop G x0 m = some (r9, m9)) (tx0 : Ty E G x0 7) : ∀ (H : Heap) (locs : List Loc), Hp E G m s H locs → ∀ ls : Array Slot, lv_has ls 1 [(0, .ref x0)] → W p l e rmX7_pop s mth args below meth c H locs 0 0 (MQ below (cQi E r9 G m9) args s 0 0 (fun q => E.2.2.1 ≤ q)) (F0 mth 0 ls []) := by
  intro H locs h ls hl
  unfold M_X7_pop at hM
  refine lv_aload_n C.1 C.2.1 dX7_pop_0 rfl (lv_at hl 0 rfl) ?_
  refine gt_7_3 C h tx0 fl_X7_22 dX7_pop_1 ?_
  refine lv_if_le (tgt := 19) C.1 C.2.1 dX7_pop_4 (by decide) (fun q => ?_) (fun q => ?_)
  · have hM := ite_t q hM
    refine lv_iconst (v := 0) C.1 C.2.1 dX7_pop_19 (by decide) ?_
    obtain ⟨rfl, rfl⟩ := so_inj hM
    exact h_iret C h dX7_pop_20
  · have hM := ite_f q hM
    refine lv_aload_n C.1 C.2.1 dX7_pop_7 rfl (lv_at hl 0 rfl) ?_
    refine gt_7_3 C h tx0 fl_X7_22 dX7_pop_8 ?_
    refine lv_aload_n C.1 C.2.1 dX7_pop_11 rfl (lv_at hl 0 rfl) ?_
    refine gt_7_1 C h tx0 fl_X7_15 dX7_pop_12 ?_
    obtain ⟨b_1, hb_1, hM⟩ := nb_some hM
    have tb_1 : Ty E G b_1 12 := (fun b hb => tyf h tx0 hb) _ hb_1
    refine st_ref hb_1 ?_
    refine h_alen C h 12 (by decide) (by decide) tb_1 dX7_pop_15 ?_
    refine lv_icmp_le (tgt := 21) C.1 C.2.1 dX7_pop_16 (by decide) (fun q => ?_) (fun q => ?_)
    · have hM := ite_t q hM
      refine lv_aload_n C.1 C.2.1 dX7_pop_21 rfl (lv_at hl 0 rfl) ?_
      refine lv_dup C.1 C.2.1 dX7_pop_22 rfl ?_
      refine gt_7_3 C h tx0 fl_X7_22 dX7_pop_23 ?_
      refine lv_iconst (v := 1) C.1 C.2.1 dX7_pop_26 (by decide) ?_
      refine lv_isub C.1 C.2.1 dX7_pop_27 ?_
      refine pt_7_3 C h tx0 fl_X7_22 dX7_pop_28 (fun H locs h => ?_)
      refine lv_aload_n C.1 C.2.1 dX7_pop_31 rfl (lv_at hl 0 rfl) ?_
      refine gt_7_1 C h tx0 fl_X7_15 dX7_pop_32 ?_
      obtain ⟨b_2, hb_2, hM⟩ := nb_some hM
      have tb_2 : Ty E G b_2 12 := (fun b hb => tyf h tx0 hb) _ hb_2
      refine st_ref hb_2 ?_
      refine lv_aload_n C.1 C.2.1 dX7_pop_35 rfl (lv_at hl 0 rfl) ?_
      refine gt_7_3 C h tx0 fl_X7_22 dX7_pop_36 ?_
      obtain ⟨hi, hM⟩ := ib_some hM
      refine h_iald C h tb_2 hi dX7_pop_39 ?_
      obtain ⟨rfl, rfl⟩ := so_inj hM
      exact h_iret C h dX7_pop_40
    · have hM := ite_f q hM
      refine lv_iconst (v := 0) C.1 C.2.1 dX7_pop_19 (by decide) ?_
      obtain ⟨rfl, rfl⟩ := so_inj hM
      exact h_iret C h dX7_pop_20
theorem cy_X7_pop : Cy yX7_pop cX7_pop 1 (some .int) 0 := ⟨cd_yX7_pop, ii_X7, by decide, by decide, by decide +kernel⟩
set_option maxRecDepth 100000 in
theorem c_X7_pop {l : Launch} {E : EE} {G : GG} {x0 : Nat} {m m9 : MM} {r9 : Int32} (hM : M_X7_pop G x0 m = some (r9, m9)) (tx0 : Ty E G x0 7) : Mc l E yX7_pop cX7_pop 1 (some .int) rmX7_pop [.ref x0] G m (cQi E r9 G m9) := M_of (by decide) (Nat.le_of_ble_eq_true rfl) (fun p e s mth below meth c C h ls hl => cM_X7_pop C hM tx0 _ _ h ls hl)
abbrev rmX7_push : Room := { frames := 0, cells := 0, slots := 0, locals := 0 }
def M_X7_push (G : GG) (x0 : Nat) (x1 : Int32) (m : MM) : Option (Unit × MM) :=
  if (gI m x0 3) < 0 then
    some ((), m)
  else
    nb (gR m x0 1) fun b_1 =>
      if (nI (G.2.2 b_1)) ≤ (gI m x0 3) then
        some ((), m)
      else
        ib (gI m x0 3) (G.2.2 b_1) <|
          some ((), sI (sI m b_1 ((gI m x0 3).toNatClampNeg) x1) x0 3 ((gI (sI m b_1 ((gI m x0 3).toNatClampNeg) x1) x0 3) + 1))
set_option maxRecDepth 100000 in
set_option maxHeartbeats 4000000 in
theorem cM_X7_push {p : Program} {l : Launch} {e : Env} {s : State} {mth : MethodId} {args : Array Value} {below : List Frame} {meth : Method} {c : Code} {E : EE} {G : GG} {r9 : Unit} {m9 : MM} (C : Cx E G p s mth args meth c cX7_push RX7 "push" 2 none) {x0 : Nat} {x1 : Int32} {m : MM} (hM : M_X7_push G x0 x1 m = some (r9, m9)) (tx0 : Ty E G x0 7) : ∀ (H : Heap) (locs : List Loc), Hp E G m s H locs → ∀ ls : Array Slot, lv_has ls 2 [(0, .ref x0), (1, .int x1)] → W p l e rmX7_push s mth args below meth c H locs 0 0 (MQ below (cQv E G m9) args s 0 0 (fun q => E.2.2.1 ≤ q)) (F0 mth 0 ls []) := by
  intro H locs h ls hl
  unfold M_X7_push at hM
  refine lv_aload_n C.1 C.2.1 dX7_push_0 rfl (lv_at hl 0 rfl) ?_
  refine gt_7_3 C h tx0 fl_X7_22 dX7_push_1 ?_
  refine lv_if_lt (tgt := 39) C.1 C.2.1 dX7_push_4 (by decide) (fun q => ?_) (fun q => ?_)
  · have hM := ite_t q hM
    obtain ⟨rfl, rfl⟩ := so_inj hM
    exact h_vret C h dX7_push_39
  · have hM := ite_f q hM
    refine lv_aload_n C.1 C.2.1 dX7_push_7 rfl (lv_at hl 0 rfl) ?_
    refine gt_7_3 C h tx0 fl_X7_22 dX7_push_8 ?_
    refine lv_aload_n C.1 C.2.1 dX7_push_11 rfl (lv_at hl 0 rfl) ?_
    refine gt_7_1 C h tx0 fl_X7_15 dX7_push_12 ?_
    obtain ⟨b_1, hb_1, hM⟩ := nb_some hM
    have tb_1 : Ty E G b_1 12 := (fun b hb => tyf h tx0 hb) _ hb_1
    refine st_ref hb_1 ?_
    refine h_alen C h 12 (by decide) (by decide) tb_1 dX7_push_15 ?_
    refine lv_icmp_ge (tgt := 39) C.1 C.2.1 dX7_push_16 (by decide) (fun q => ?_) (fun q => ?_)
    · have hM := ite_t q hM
      obtain ⟨rfl, rfl⟩ := so_inj hM
      exact h_vret C h dX7_push_39
    · have hM := ite_f q hM
      refine lv_aload_n C.1 C.2.1 dX7_push_19 rfl (lv_at hl 0 rfl) ?_
      refine gt_7_1 C h tx0 fl_X7_15 dX7_push_20 ?_
      refine st_ref hb_1 ?_
      refine lv_aload_n C.1 C.2.1 dX7_push_23 rfl (lv_at hl 0 rfl) ?_
      refine gt_7_3 C h tx0 fl_X7_22 dX7_push_24 ?_
      refine lv_iload_n C.1 C.2.1 dX7_push_27 rfl (lv_at hl 1 rfl) ?_
      obtain ⟨hi, hM⟩ := ib_some hM
      refine h_iast C h tb_1 hi dX7_push_28 (fun H locs h => ?_)
      refine lv_aload_n C.1 C.2.1 dX7_push_29 rfl (lv_at hl 0 rfl) ?_
      refine lv_dup C.1 C.2.1 dX7_push_30 rfl ?_
      refine gt_7_3 C h tx0 fl_X7_22 dX7_push_31 ?_
      refine lv_iconst (v := 1) C.1 C.2.1 dX7_push_34 (by decide) ?_
      refine lv_iadd C.1 C.2.1 dX7_push_35 ?_
      refine pt_7_3 C h tx0 fl_X7_22 dX7_push_36 (fun H locs h => ?_)
      obtain ⟨rfl, rfl⟩ := so_inj hM
      exact h_vret C h dX7_push_39
theorem cy_X7_push : Cy yX7_push cX7_push 2 none 1 := ⟨cd_yX7_push, ii_X7, by decide, by decide, by decide +kernel⟩
set_option maxRecDepth 100000 in
theorem c_X7_push {l : Launch} {E : EE} {G : GG} {x0 : Nat} {x1 : Int32} {m m9 : MM} {r9 : Unit} (hM : M_X7_push G x0 x1 m = some (r9, m9)) (tx0 : Ty E G x0 7) : Mc l E yX7_push cX7_push 2 none rmX7_push [.ref x0, .int x1] G m (cQv E G m9) := M_of (by decide) (Nat.le_of_ble_eq_true rfl) (fun p e s mth below meth c C h ls hl => cM_X7_push C hM tx0 _ _ h ls hl)
abbrev rmX7_divide : Room := { frames := 0, cells := 0, slots := 0, locals := 0 }
def M_X7_divide (G : GG) (x0 : Nat) (x1 : Int32) (x2 : Int32) (m : MM) : Option (Int32 × MM) :=
  if x2 = 0 then
    some (0, sI m x0 4 2)
  else
    nz x2 <|
      some (x1 / x2, m)
set_option maxRecDepth 100000 in
set_option maxHeartbeats 4000000 in
theorem cM_X7_divide {p : Program} {l : Launch} {e : Env} {s : State} {mth : MethodId} {args : Array Value} {below : List Frame} {meth : Method} {c : Code} {E : EE} {G : GG} {r9 : Int32} {m9 : MM} (C : Cx E G p s mth args meth c cX7_divide RX7 "divide" 3 (some .int)) {x0 : Nat} {x1 : Int32} {x2 : Int32} {m : MM} (hM : M_X7_divide G x0 x1 x2 m = some (r9, m9)) (tx0 : Ty E G x0 7) : ∀ (H : Heap) (locs : List Loc), Hp E G m s H locs → ∀ ls : Array Slot, lv_has ls 3 [(0, .ref x0), (1, .int x1), (2, .int x2)] → W p l e rmX7_divide s mth args below meth c H locs 0 0 (MQ below (cQi E r9 G m9) args s 0 0 (fun q => E.2.2.1 ≤ q)) (F0 mth 0 ls []) := by
  intro H locs h ls hl
  unfold M_X7_divide at hM
  refine lv_iload_n C.1 C.2.1 dX7_divide_0 rfl (lv_at hl 2 rfl) ?_
  refine lv_if_ne (tgt := 11) C.1 C.2.1 dX7_divide_1 (by decide) (fun q => ?_) (fun q => ?_)
  · have hM := ite_f q hM
    refine lv_iload_n C.1 C.2.1 dX7_divide_11 rfl (lv_at hl 1 rfl) ?_
    refine lv_iload_n C.1 C.2.1 dX7_divide_12 rfl (lv_at hl 2 rfl) ?_
    obtain ⟨hz, hM⟩ := nz_some hM
    refine lv_idiv C.1 C.2.1 dX7_divide_13 hz ?_
    obtain ⟨rfl, rfl⟩ := so_inj hM
    exact h_iret C h dX7_divide_14
  · have hM := ite_t q hM
    refine lv_aload_n C.1 C.2.1 dX7_divide_4 rfl (lv_at hl 0 rfl) ?_
    refine lv_iconst (v := 2) C.1 C.2.1 dX7_divide_5 (by decide) ?_
    refine pt_7_4 C h tx0 fl_X7_26 dX7_divide_6 (fun H locs h => ?_)
    refine lv_iconst (v := 0) C.1 C.2.1 dX7_divide_9 (by decide) ?_
    obtain ⟨rfl, rfl⟩ := so_inj hM
    exact h_iret C h dX7_divide_10
theorem cy_X7_divide : Cy yX7_divide cX7_divide 3 (some .int) 2 := ⟨cd_yX7_divide, ii_X7, by decide, by decide, by decide +kernel⟩
set_option maxRecDepth 100000 in
theorem c_X7_divide {l : Launch} {E : EE} {G : GG} {x0 : Nat} {x1 : Int32} {x2 : Int32} {m m9 : MM} {r9 : Int32} (hM : M_X7_divide G x0 x1 x2 m = some (r9, m9)) (tx0 : Ty E G x0 7) : Mc l E yX7_divide cX7_divide 3 (some .int) rmX7_divide [.ref x0, .int x1, .int x2] G m (cQi E r9 G m9) := M_of (by decide) (Nat.le_of_ble_eq_true rfl) (fun p e s mth below meth c C h ls hl => cM_X7_divide C hM tx0 _ _ h ls hl)
abbrev rmX7_join : Room := { frames := 1, cells := 0, slots := 0, locals := 22 }
def M_X7_join (G : GG) (x0 : Nat) (x1 : Int32) (m : MM) : Option (Unit × MM) :=
  bd (M_X7_pop G x0 m) fun r_1 m_2 =>
    bd (M_X7_pop G x0 m_2) fun r_3 m_4 =>
      if x1 = 8 then
        bd (M_X7_push G x0 (r_3 + r_1) m_4) fun _ m_6 =>
          some ((), m_6)
      else
        if x1 = 9 then
          bd (M_X7_push G x0 (r_3 - r_1) m_4) fun _ m_8 =>
            some ((), m_8)
        else
          if x1 = 10 then
            bd (M_X7_push G x0 (r_3 * r_1) m_4) fun _ m_10 =>
              some ((), m_10)
          else
            if x1 = 11 then
              bd (M_X7_divide G x0 r_3 r_1 m_4) fun r_11 m_12 =>
                bd (M_X7_push G x0 r_11 m_12) fun _ m_14 =>
                  some ((), m_14)
            else
              some ((), m_4)
set_option maxRecDepth 100000 in
set_option maxHeartbeats 4000000 in
theorem cM_X7_join {p : Program} {l : Launch} {e : Env} {s : State} {mth : MethodId} {args : Array Value} {below : List Frame} {meth : Method} {c : Code} {E : EE} {G : GG} {r9 : Unit} {m9 : MM} (C : Cx E G p s mth args meth c cX7_join RX7 "join" 4 none) {x0 : Nat} {x1 : Int32} {m : MM} (hM : M_X7_join G x0 x1 m = some (r9, m9)) (tx0 : Ty E G x0 7) : ∀ (H : Heap) (locs : List Loc), Hp E G m s H locs → ∀ ls : Array Slot, lv_has ls 4 [(0, .ref x0), (1, .int x1)] → W p l e rmX7_join s mth args below meth c H locs 0 0 (MQ below (cQv E G m9) args s 0 0 (fun q => E.2.2.1 ≤ q)) (F0 mth 0 ls []) := by
  intro H locs h ls hl
  unfold M_X7_join at hM
  refine lv_aload_n C.1 C.2.1 dX7_join_0 rfl (lv_at hl 0 rfl) ?_
  obtain ⟨r_1, m_2, hc_1, hM⟩ := bd_some hM
  refine h_callVi C h (As := []) (rest := []) r_1 m_2 (c_X7_pop hc_1 tx0) 7 rfl (by decide) tx0 im_yX7_pop se_yX7_pop cy_X7_pop rfl ml_X7_101 ⟨by decide, by decide⟩ ⟨Nat.zero_le _, Nat.zero_le _⟩ hl.1 rfl (Nat.le_of_ble_eq_true rfl) dX7_join_1 (fun H locs h => ?_)
  refine lv_istore_n (lv' := [(2, .int r_1), (0, .ref x0), (1, .int x1)]) C.1 C.2.1 dX7_join_4 rfl hl (by decide) rfl (fun ls hl => ?_)
  refine lv_aload_n C.1 C.2.1 dX7_join_5 rfl (lv_at hl 1 rfl) ?_
  obtain ⟨r_3, m_4, hc_3, hM⟩ := bd_some hM
  refine h_callVi C h (As := []) (rest := []) r_3 m_4 (c_X7_pop hc_3 tx0) 7 rfl (by decide) tx0 im_yX7_pop se_yX7_pop cy_X7_pop rfl ml_X7_101 ⟨by decide, by decide⟩ ⟨Nat.zero_le _, Nat.zero_le _⟩ hl.1 rfl (Nat.le_of_ble_eq_true rfl) dX7_join_6 (fun H locs h => ?_)
  refine lv_istore_n (lv' := [(3, .int r_3), (2, .int r_1), (0, .ref x0), (1, .int x1)]) C.1 C.2.1 dX7_join_9 rfl hl (by decide) rfl (fun ls hl => ?_)
  refine lv_iload_n C.1 C.2.1 dX7_join_10 rfl (lv_at hl 3 rfl) ?_
  by_cases q0 : x1 = 8
  · have hM := ite_t q0 hM
    refine h_tabIn q0 (tgt := 40) C.1 C.2.1 dX7_join_11 (by decide) (by decide) rfl (by decide) ?_
    refine lv_aload_n C.1 C.2.1 dX7_join_40 rfl (lv_at hl 2 rfl) ?_
    refine lv_iload_n C.1 C.2.1 dX7_join_41 rfl (lv_at hl 0 rfl) ?_
    refine lv_iload_n C.1 C.2.1 dX7_join_42 rfl (lv_at hl 1 rfl) ?_
    refine lv_iadd C.1 C.2.1 dX7_join_43 ?_
    obtain ⟨r_5, m_6, hc_5, hM⟩ := bd_some hM
    refine h_callVv C h (As := [.int (r_3 + r_1)]) (rest := []) m_6 (c_X7_push hc_5 tx0) 7 rfl (by decide) tx0 im_yX7_push se_yX7_push cy_X7_push rfl ml_X7_108 ⟨by decide, by decide⟩ ⟨Nat.zero_le _, Nat.zero_le _⟩ hl.1 rfl (Nat.le_of_ble_eq_true rfl) dX7_join_44 (fun H locs h => ?_)
    refine lv_goto (tgt := 83) C.1 C.2.1 dX7_join_47 (by decide) ?_
    obtain ⟨rfl, rfl⟩ := so_inj hM
    exact h_vret C h dX7_join_83
  · have hM := ite_f q0 hM
    by_cases q1 : x1 = 9
    · have hM := ite_t q1 hM
      refine h_tabIn q1 (tgt := 50) C.1 C.2.1 dX7_join_11 (by decide) (by decide) rfl (by decide) ?_
      refine lv_aload_n C.1 C.2.1 dX7_join_50 rfl (lv_at hl 2 rfl) ?_
      refine lv_iload_n C.1 C.2.1 dX7_join_51 rfl (lv_at hl 0 rfl) ?_
      refine lv_iload_n C.1 C.2.1 dX7_join_52 rfl (lv_at hl 1 rfl) ?_
      refine lv_isub C.1 C.2.1 dX7_join_53 ?_
      obtain ⟨r_7, m_8, hc_7, hM⟩ := bd_some hM
      refine h_callVv C h (As := [.int (r_3 - r_1)]) (rest := []) m_8 (c_X7_push hc_7 tx0) 7 rfl (by decide) tx0 im_yX7_push se_yX7_push cy_X7_push rfl ml_X7_108 ⟨by decide, by decide⟩ ⟨Nat.zero_le _, Nat.zero_le _⟩ hl.1 rfl (Nat.le_of_ble_eq_true rfl) dX7_join_54 (fun H locs h => ?_)
      refine lv_goto (tgt := 83) C.1 C.2.1 dX7_join_57 (by decide) ?_
      obtain ⟨rfl, rfl⟩ := so_inj hM
      exact h_vret C h dX7_join_83
    · have hM := ite_f q1 hM
      by_cases q2 : x1 = 10
      · have hM := ite_t q2 hM
        refine h_tabIn q2 (tgt := 60) C.1 C.2.1 dX7_join_11 (by decide) (by decide) rfl (by decide) ?_
        refine lv_aload_n C.1 C.2.1 dX7_join_60 rfl (lv_at hl 2 rfl) ?_
        refine lv_iload_n C.1 C.2.1 dX7_join_61 rfl (lv_at hl 0 rfl) ?_
        refine lv_iload_n C.1 C.2.1 dX7_join_62 rfl (lv_at hl 1 rfl) ?_
        refine lv_imul C.1 C.2.1 dX7_join_63 ?_
        obtain ⟨r_9, m_10, hc_9, hM⟩ := bd_some hM
        refine h_callVv C h (As := [.int (r_3 * r_1)]) (rest := []) m_10 (c_X7_push hc_9 tx0) 7 rfl (by decide) tx0 im_yX7_push se_yX7_push cy_X7_push rfl ml_X7_108 ⟨by decide, by decide⟩ ⟨Nat.zero_le _, Nat.zero_le _⟩ hl.1 rfl (Nat.le_of_ble_eq_true rfl) dX7_join_64 (fun H locs h => ?_)
        refine lv_goto (tgt := 83) C.1 C.2.1 dX7_join_67 (by decide) ?_
        obtain ⟨rfl, rfl⟩ := so_inj hM
        exact h_vret C h dX7_join_83
      · have hM := ite_f q2 hM
        by_cases q3 : x1 = 11
        · have hM := ite_t q3 hM
          refine h_tabIn q3 (tgt := 70) C.1 C.2.1 dX7_join_11 (by decide) (by decide) rfl (by decide) ?_
          refine lv_aload_n C.1 C.2.1 dX7_join_70 rfl (lv_at hl 2 rfl) ?_
          refine lv_aload_n C.1 C.2.1 dX7_join_71 rfl (lv_at hl 2 rfl) ?_
          refine lv_iload_n C.1 C.2.1 dX7_join_72 rfl (lv_at hl 0 rfl) ?_
          refine lv_iload_n C.1 C.2.1 dX7_join_73 rfl (lv_at hl 1 rfl) ?_
          obtain ⟨r_11, m_12, hc_11, hM⟩ := bd_some hM
          refine h_callVi C h (As := [.int r_3, .int r_1]) (rest := [.ref x0]) r_11 m_12 (c_X7_divide hc_11 tx0) 7 rfl (by decide) tx0 im_yX7_divide se_yX7_divide cy_X7_divide rfl ml_X7_124 ⟨by decide, by decide⟩ ⟨Nat.zero_le _, Nat.zero_le _⟩ hl.1 rfl (Nat.le_of_ble_eq_true rfl) dX7_join_74 (fun H locs h => ?_)
          obtain ⟨r_13, m_14, hc_13, hM⟩ := bd_some hM
          refine h_callVv C h (As := [.int r_11]) (rest := []) m_14 (c_X7_push hc_13 tx0) 7 rfl (by decide) tx0 im_yX7_push se_yX7_push cy_X7_push rfl ml_X7_108 ⟨by decide, by decide⟩ ⟨Nat.zero_le _, Nat.zero_le _⟩ hl.1 rfl (Nat.le_of_ble_eq_true rfl) dX7_join_77 (fun H locs h => ?_)
          refine lv_goto (tgt := 83) C.1 C.2.1 dX7_join_80 (by decide) ?_
          obtain ⟨rfl, rfl⟩ := so_inj hM
          exact h_vret C h dX7_join_83
        · have hM := ite_f q3 hM
          refine h_tabOut (tgt := 83) (lo := 8) (n := 4) C.1 C.2.1 dX7_join_11 (by decide) (by decide) (by decide) (fun k hk => ?_) ?_
          · match k, hk with
            | 0, _ => exact q0
            | 1, _ => exact q1
            | 2, _ => exact q2
            | 3, _ => exact q3
            | k + 4, hk => exact absurd hk (by omega)
          · obtain ⟨rfl, rfl⟩ := so_inj hM
            exact h_vret C h dX7_join_83
theorem cy_X7_join : Cy yX7_join cX7_join 4 none 1 := ⟨cd_yX7_join, ii_X7, by decide, by decide, by decide +kernel⟩
set_option maxRecDepth 100000 in
theorem c_X7_join {l : Launch} {E : EE} {G : GG} {x0 : Nat} {x1 : Int32} {m m9 : MM} {r9 : Unit} (hM : M_X7_join G x0 x1 m = some (r9, m9)) (tx0 : Ty E G x0 7) : Mc l E yX7_join cX7_join 4 none rmX7_join [.ref x0, .int x1] G m (cQv E G m9) := M_of (by decide) (Nat.le_of_ble_eq_true rfl) (fun p e s mth below meth c C h ls hl => cM_X7_join C hM tx0 _ _ h ls hl)
abbrev rmX7_addTrace : Room := { frames := 0, cells := 0, slots := 0, locals := 0 }
def M_X7_addTrace (G : GG) (x0 : Nat) (x1 : Int32) (m : MM) : Option (Unit × MM) :=
  nb (gR m x0 0) fun b_1 =>
    if (nI (G.2.2 b_1)) ≤ (gI m x0 2) then
      some ((), m)
    else
      ib (gI m x0 2) (G.2.2 b_1) <|
        some ((), sI (sI m b_1 ((gI m x0 2).toNatClampNeg) x1) x0 2 ((gI (sI m b_1 ((gI m x0 2).toNatClampNeg) x1) x0 2) + 1))
set_option maxRecDepth 100000 in
set_option maxHeartbeats 4000000 in
theorem cM_X7_addTrace {p : Program} {l : Launch} {e : Env} {s : State} {mth : MethodId} {args : Array Value} {below : List Frame} {meth : Method} {c : Code} {E : EE} {G : GG} {r9 : Unit} {m9 : MM} (C : Cx E G p s mth args meth c cX7_addTrace RX7 "addTrace" 2 none) {x0 : Nat} {x1 : Int32} {m : MM} (hM : M_X7_addTrace G x0 x1 m = some (r9, m9)) (tx0 : Ty E G x0 7) : ∀ (H : Heap) (locs : List Loc), Hp E G m s H locs → ∀ ls : Array Slot, lv_has ls 2 [(0, .ref x0), (1, .int x1)] → W p l e rmX7_addTrace s mth args below meth c H locs 0 0 (MQ below (cQv E G m9) args s 0 0 (fun q => E.2.2.1 ≤ q)) (F0 mth 0 ls []) := by
  intro H locs h ls hl
  unfold M_X7_addTrace at hM
  refine lv_aload_n C.1 C.2.1 dX7_addTrace_0 rfl (lv_at hl 0 rfl) ?_
  refine gt_7_2 C h tx0 fl_X7_132 dX7_addTrace_1 ?_
  refine lv_aload_n C.1 C.2.1 dX7_addTrace_4 rfl (lv_at hl 0 rfl) ?_
  refine gt_7_0 C h tx0 fl_X7_9 dX7_addTrace_5 ?_
  obtain ⟨b_1, hb_1, hM⟩ := nb_some hM
  have tb_1 : Ty E G b_1 12 := (fun b hb => tyf h tx0 hb) _ hb_1
  refine st_ref hb_1 ?_
  refine h_alen C h 12 (by decide) (by decide) tb_1 dX7_addTrace_8 ?_
  refine lv_icmp_ge (tgt := 32) C.1 C.2.1 dX7_addTrace_9 (by decide) (fun q => ?_) (fun q => ?_)
  · have hM := ite_t q hM
    obtain ⟨rfl, rfl⟩ := so_inj hM
    exact h_vret C h dX7_addTrace_32
  · have hM := ite_f q hM
    refine lv_aload_n C.1 C.2.1 dX7_addTrace_12 rfl (lv_at hl 0 rfl) ?_
    refine gt_7_0 C h tx0 fl_X7_9 dX7_addTrace_13 ?_
    refine st_ref hb_1 ?_
    refine lv_aload_n C.1 C.2.1 dX7_addTrace_16 rfl (lv_at hl 0 rfl) ?_
    refine gt_7_2 C h tx0 fl_X7_132 dX7_addTrace_17 ?_
    refine lv_iload_n C.1 C.2.1 dX7_addTrace_20 rfl (lv_at hl 1 rfl) ?_
    obtain ⟨hi, hM⟩ := ib_some hM
    refine h_iast C h tb_1 hi dX7_addTrace_21 (fun H locs h => ?_)
    refine lv_aload_n C.1 C.2.1 dX7_addTrace_22 rfl (lv_at hl 0 rfl) ?_
    refine lv_dup C.1 C.2.1 dX7_addTrace_23 rfl ?_
    refine gt_7_2 C h tx0 fl_X7_132 dX7_addTrace_24 ?_
    refine lv_iconst (v := 1) C.1 C.2.1 dX7_addTrace_27 (by decide) ?_
    refine lv_iadd C.1 C.2.1 dX7_addTrace_28 ?_
    refine pt_7_2 C h tx0 fl_X7_132 dX7_addTrace_29 (fun H locs h => ?_)
    obtain ⟨rfl, rfl⟩ := so_inj hM
    exact h_vret C h dX7_addTrace_32
theorem cy_X7_addTrace : Cy yX7_addTrace cX7_addTrace 2 none 1 := ⟨cd_yX7_addTrace, ii_X7, by decide, by decide, by decide +kernel⟩
set_option maxRecDepth 100000 in
theorem c_X7_addTrace {l : Launch} {E : EE} {G : GG} {x0 : Nat} {x1 : Int32} {m m9 : MM} {r9 : Unit} (hM : M_X7_addTrace G x0 x1 m = some (r9, m9)) (tx0 : Ty E G x0 7) : Mc l E yX7_addTrace cX7_addTrace 2 none rmX7_addTrace [.ref x0, .int x1] G m (cQv E G m9) := M_of (by decide) (Nat.le_of_ble_eq_true rfl) (fun p e s mth below meth c C h ls hl => cM_X7_addTrace C hM tx0 _ _ h ls hl)
abbrev rmX7_want (d : Nat) : Room := { frames := 6 * d + 20, cells := 0, slots := 0, locals := 200 * d + 400 }
abbrev rmX7_valOf (d : Nat) : Room := { frames := 6 * d + 21, cells := 0, slots := 0, locals := 200 * d + 425 }
abbrev rmX7_step (d : Nat) : Room := { frames := 6 * d + 22, cells := 0, slots := 0, locals := 200 * d + 450 }
abbrev rmX7_work (d : Nat) : Room := { frames := 6 * d + 23, cells := 0, slots := 0, locals := 200 * d + 476 }
abbrev rmX7_make (d : Nat) : Room := { frames := 6 * d + 24, cells := 0, slots := 0, locals := 200 * d + 502 }
abbrev rmX7_set (d : Nat) : Room := { frames := 6 * d + 24, cells := 0, slots := 0, locals := 200 * d + 502 }
abbrev rmX7_start (d : Nat) : Room := { frames := 6 * d + 25, cells := 0, slots := 0, locals := 200 * d + 527 }
theorem cy_X7_valOf : Cy yX7_valOf cX7_valOf 5 (some .int) 3 := ⟨cd_yX7_valOf, ii_X7, by decide, by decide, by decide +kernel⟩
theorem cy_X7_step : Cy yX7_step cX7_step 7 none 4 := ⟨cd_yX7_step, ii_X7, by decide, by decide, by decide +kernel⟩
theorem cy_X7_work : Cy yX7_work cX7_work 7 (some .int) 4 := ⟨cd_yX7_work, ii_X7, by decide, by decide, by decide +kernel⟩
theorem cy_X7_make : Cy yX7_make cX7_make 6 none 4 := ⟨cd_yX7_make, ii_X7, by decide, by decide, by decide +kernel⟩
theorem cy_X7_set : Cy yX7_set cX7_set 5 none 3 := ⟨cd_yX7_set, ii_X7, by decide, by decide, by decide +kernel⟩
theorem cy_X7_start : Cy yX7_start cX7_start 5 none 3 := ⟨cd_yX7_start, ii_X7, by decide, by decide, by decide +kernel⟩
theorem cy_X7_want : Cy yX7_want cX7_want 4 (some .boolean) 2 := ⟨cd_yX7_want, ii_X7, by decide, by decide, by decide +kernel⟩
def M_X7_valOf (G : GG) (fw : Nat → Int32 → Int32 → MM → Option (Bool × MM)) (x0 : Nat) (x1 : Int32) (x2 : Int32) (x3 : Int32) (m : MM) : Option (Int32 × MM) :=
  nb (gR m x0 5) fun b_1 =>
    bd (M_X6_enumAt G b_1 x1 m) fun r_2 m_3 =>
      el r_2 (
        some (0, m_3)
      ) fun b_6 =>
        bd (fw x0 x1 x3 m_3) fun r_7 m_8 =>
          if r_7 = true then
            bd (M_X1_hasConstant G b_6 x2 m_8) fun r_9 m_10 =>
              if r_9 = true then
                if x2 < (gI m_10 b_6 18) then
                  nb (gR m_10 b_6 9) fun b_13 =>
                    ib x2 (G.2.2 b_13) <|
                      some (gI m_10 b_13 x2.toNatClampNeg, m_10)
                else
                  bd (M_X7_failBy G x0 1 m_10) fun r_14 m_15 =>
                    some (0, m_15)
              else
                bd (M_X7_failBy G x0 1 m_10) fun r_11 m_12 =>
                  some (0, m_12)
          else
            some (0, m_8)
set_option maxRecDepth 100000 in
set_option maxHeartbeats 4000000 in
theorem cM_X7_valOf {p : Program} {l : Launch} {e : Env} {s : State} {mth : MethodId} {args : Array Value} {below : List Frame} {meth : Method} {c : Code} {E : EE} {G : GG} {fw : Nat → Int32 → Int32 → MM → Option (Bool × MM)} {d : Nat} {r9 : Int32} {m9 : MM} (hw : ∀ {x0 : Nat} {x1 x2 : Int32} {m m9 : MM} {r9 : Bool}, fw x0 x1 x2 m = some (r9, m9) → Ty E G x0 7 → Mc l E yX7_want cX7_want 4 (some .boolean) (rmX7_want d) [.ref x0, .int x1, .int x2] G m (cQi E (bz r9) G m9)) (C : Cx E G p s mth args meth c cX7_valOf RX7 "valOf" 5 (some .int)) {x0 : Nat} {x1 : Int32} {x2 : Int32} {x3 : Int32} {m : MM} (hM : M_X7_valOf G fw x0 x1 x2 x3 m = some (r9, m9)) (tx0 : Ty E G x0 7) : ∀ (H : Heap) (locs : List Loc), Hp E G m s H locs → ∀ ls : Array Slot, lv_has ls 5 [(0, .ref x0), (1, .int x1), (2, .int x2), (3, .int x3)] → W p l e (rmX7_valOf d) s mth args below meth c H locs 0 0 (MQ below (cQi E r9 G m9) args s 0 0 (fun q => E.2.2.1 ≤ q)) (F0 mth 0 ls []) := by
  intro H locs h ls hl
  unfold M_X7_valOf at hM
  refine lv_aload_n C.1 C.2.1 dX7_valOf_0 rfl (lv_at hl 0 rfl) ?_
  refine gt_7_5 C h tx0 fl_X7_18 dX7_valOf_1 ?_
  obtain ⟨b_1, hb_1, hM⟩ := nb_some hM
  have tb_1 : Ty E G b_1 6 := (fun b hb => tyf h tx0 hb) _ hb_1
  refine st_ref hb_1 ?_
  refine lv_iload_n C.1 C.2.1 dX7_valOf_4 rfl (lv_at hl 1 rfl) ?_
  obtain ⟨r_2, m_3, hc_2, hM⟩ := bd_some hM
  refine h_callVq C h (As := [.int x1]) (rest := []) r_2 1 m_3 (c_X6_enumAt hc_2 tb_1) 6 rfl (by decide) tb_1 im_yX6_enumAt se_yX6_enumAt cy_X6_enumAt rfl ml_X7_29 ⟨by show 0 + 1 ≤ 6 * d + 21; omega, by show 8 + (2 + 11) + (0) ≤ 200 * d + 425; omega⟩ ⟨Nat.zero_le _, Nat.zero_le _⟩ hl.1 rfl (Nat.le_of_ble_eq_true rfl) dX7_valOf_5 (fun tq_2 H locs h => ?_)
  have tq_4 : ∀ b, r_2 = some b → Ty E G b 1 := tq_2
  refine h_astore (lv' := [(4, va_rf r_2), (0, .ref x0), (1, .int x1), (2, .int x2), (3, .int x3)]) C.1 C.2.1 dX7_valOf_8 hl (by decide) rfl (fun ls hl => ?_)
  refine h_aload C.1 C.2.1 dX7_valOf_10 (lv_at hl 0 rfl) ?_
  have tq_5 : ∀ b, r_2 = some b → Ty E G b 1 := tq_4
  refine h_ifnull (tgt := 24) (x := r_2) C.1 C.2.1 dX7_valOf_12 (by decide) (fun q => ?_) (fun b_6 hb_6 => ?_)
  · have hM := el_none q hM
    refine lv_iconst (v := 0) C.1 C.2.1 dX7_valOf_24 (by decide) ?_
    obtain ⟨rfl, rfl⟩ := so_inj hM
    exact h_iret C h dX7_valOf_25
  · have hM := el_some hb_6 hM
    have tb_6 := tq_5 _ hb_6
    refine lv_aload_n C.1 C.2.1 dX7_valOf_15 rfl (lv_at hl 1 rfl) ?_
    refine lv_iload_n C.1 C.2.1 dX7_valOf_16 rfl (lv_at hl 2 rfl) ?_
    refine lv_iload_n C.1 C.2.1 dX7_valOf_17 rfl (lv_at hl 4 rfl) ?_
    obtain ⟨r_7, m_8, hc_7, hM⟩ := bd_some hM
    refine h_callVi C h (As := [.int x1, .int x3]) (rest := []) (bz r_7) m_8 (hw hc_7 tx0) 7 rfl (by decide) tx0 im_yX7_want se_yX7_want cy_X7_want rfl ml_X7_128 ⟨by show 6 * d + 20 + 1 ≤ 6 * d + 21; omega, by show 8 + (4 + 11) + (200 * d + 400) ≤ 200 * d + 425; omega⟩ ⟨Nat.zero_le _, Nat.zero_le _⟩ hl.1 rfl (Nat.le_of_ble_eq_true rfl) dX7_valOf_18 (fun H locs h => ?_)
    refine h_ifnz (tgt := 26) C.1 C.2.1 dX7_valOf_21 (by decide) (fun q => ?_) (fun q => ?_)
    · have hM := ite_t q hM
      refine h_aload C.1 C.2.1 dX7_valOf_26 (lv_at hl 0 rfl) ?_
      refine st_ref hb_6 ?_
      refine lv_iload_n C.1 C.2.1 dX7_valOf_28 rfl (lv_at hl 3 rfl) ?_
      obtain ⟨r_9, m_10, hc_9, hM⟩ := bd_some hM
      refine h_callVi C h (As := [.int x2]) (rest := []) (bz r_9) m_10 (c_X1_hasConstant hc_9 tb_6) 1 rfl (by decide) tb_6 im_yX1_hasConstant se_yX1_hasConstant cy_X1_hasConstant rfl ml_X7_73 ⟨by show 0 + 1 ≤ 6 * d + 21; omega, by show 8 + (2 + 11) + (0) ≤ 200 * d + 425; omega⟩ ⟨Nat.zero_le _, Nat.zero_le _⟩ hl.1 rfl (Nat.le_of_ble_eq_true rfl) dX7_valOf_29 (fun H locs h => ?_)
      refine h_ifz (tgt := 44) C.1 C.2.1 dX7_valOf_32 (by decide) (fun q => ?_) (fun q => ?_)
      · have hM := ite_f q hM
        refine lv_aload_n C.1 C.2.1 dX7_valOf_44 rfl (lv_at hl 1 rfl) ?_
        refine lv_iconst (v := 1) C.1 C.2.1 dX7_valOf_45 (by decide) ?_
        obtain ⟨r_11, m_12, hc_11, hM⟩ := bd_some hM
        refine h_callVi C h (As := [.int 1]) (rest := []) (bz r_11) m_12 (c_X7_failBy hc_11 tx0) 7 rfl (by decide) tx0 im_yX7_failBy se_yX7_failBy cy_X7_failBy rfl ml_X7_40 ⟨by show 0 + 1 ≤ 6 * d + 21; omega, by show 8 + (2 + 11) + (0) ≤ 200 * d + 425; omega⟩ ⟨Nat.zero_le _, Nat.zero_le _⟩ hl.1 rfl (Nat.le_of_ble_eq_true rfl) dX7_valOf_46 (fun H locs h => ?_)
        refine lv_pop C.1 C.2.1 dX7_valOf_49 rfl ?_
        refine lv_iconst (v := 0) C.1 C.2.1 dX7_valOf_50 (by decide) ?_
        obtain ⟨rfl, rfl⟩ := so_inj hM
        exact h_iret C h dX7_valOf_51
      · have hM := ite_t q hM
        refine lv_iload_n C.1 C.2.1 dX7_valOf_35 rfl (lv_at hl 3 rfl) ?_
        refine h_aload C.1 C.2.1 dX7_valOf_36 (lv_at hl 0 rfl) ?_
        refine st_ref hb_6 ?_
        refine gt_1_18 C h tb_6 fl_X7_79 dX7_valOf_38 ?_
        refine lv_icmp_lt (tgt := 52) C.1 C.2.1 dX7_valOf_41 (by decide) (fun q => ?_) (fun q => ?_)
        · have hM := ite_t q hM
          refine h_aload C.1 C.2.1 dX7_valOf_52 (lv_at hl 0 rfl) ?_
          refine st_ref hb_6 ?_
          refine gt_1_9 C h tb_6 fl_X7_76 dX7_valOf_54 ?_
          obtain ⟨b_13, hb_13, hM⟩ := nb_some hM
          have tb_13 : Ty E G b_13 12 := (fun b hb => tyf h tb_6 hb) _ hb_13
          refine st_ref hb_13 ?_
          refine lv_iload_n C.1 C.2.1 dX7_valOf_57 rfl (lv_at hl 3 rfl) ?_
          obtain ⟨hi, hM⟩ := ib_some hM
          refine h_iald C h tb_13 hi dX7_valOf_58 ?_
          obtain ⟨rfl, rfl⟩ := so_inj hM
          exact h_iret C h dX7_valOf_59
        · have hM := ite_f q hM
          refine lv_aload_n C.1 C.2.1 dX7_valOf_44 rfl (lv_at hl 1 rfl) ?_
          refine lv_iconst (v := 1) C.1 C.2.1 dX7_valOf_45 (by decide) ?_
          obtain ⟨r_14, m_15, hc_14, hM⟩ := bd_some hM
          refine h_callVi C h (As := [.int 1]) (rest := []) (bz r_14) m_15 (c_X7_failBy hc_14 tx0) 7 rfl (by decide) tx0 im_yX7_failBy se_yX7_failBy cy_X7_failBy rfl ml_X7_40 ⟨by show 0 + 1 ≤ 6 * d + 21; omega, by show 8 + (2 + 11) + (0) ≤ 200 * d + 425; omega⟩ ⟨Nat.zero_le _, Nat.zero_le _⟩ hl.1 rfl (Nat.le_of_ble_eq_true rfl) dX7_valOf_46 (fun H locs h => ?_)
          refine lv_pop C.1 C.2.1 dX7_valOf_49 rfl ?_
          refine lv_iconst (v := 0) C.1 C.2.1 dX7_valOf_50 (by decide) ?_
          obtain ⟨rfl, rfl⟩ := so_inj hM
          exact h_iret C h dX7_valOf_51
    · have hM := ite_f q hM
      refine lv_iconst (v := 0) C.1 C.2.1 dX7_valOf_24 (by decide) ?_
      obtain ⟨rfl, rfl⟩ := so_inj hM
      exact h_iret C h dX7_valOf_25
set_option maxRecDepth 100000 in
theorem c_X7_valOf {l : Launch} {E : EE} {G : GG} {fw : Nat → Int32 → Int32 → MM → Option (Bool × MM)} {d : Nat} (hw : ∀ {x0 : Nat} {x1 x2 : Int32} {m m9 : MM} {r9 : Bool}, fw x0 x1 x2 m = some (r9, m9) → Ty E G x0 7 → Mc l E yX7_want cX7_want 4 (some .boolean) (rmX7_want d) [.ref x0, .int x1, .int x2] G m (cQi E (bz r9) G m9)) {x0 : Nat} {x1 : Int32} {x2 : Int32} {x3 : Int32} {m m9 : MM} {r9 : Int32} (hM : M_X7_valOf G fw x0 x1 x2 x3 m = some (r9, m9)) (tx0 : Ty E G x0 7) : Mc l E yX7_valOf cX7_valOf 5 (some .int) (rmX7_valOf d) [.ref x0, .int x1, .int x2, .int x3] G m (cQi E r9 G m9) := M_of (by decide) (Nat.le_of_ble_eq_true rfl) (fun p e s mth below meth c C h ls hl => cM_X7_valOf hw C hM tx0 _ _ h ls hl)
def M_X7_step (G : GG) (fw : Nat → Int32 → Int32 → MM → Option (Bool × MM)) (x0 : Nat) (x1 : Int32) (x2 : Nat) (x3 : Int32) (x4 : Int32) (m : MM) : Option (Unit × MM) :=
  nb (gR m x0 5) fun b_1 =>
    bd (M_X6_opAt G b_1 x1 m) fun r_2 m_3 =>
      nb (gR m_3 x0 5) fun b_4 =>
        bd (M_X6_operandAt G b_4 x1 m_3) fun r_5 m_6 =>
          if r_2 = 1 then
            bd (M_X7_push G x0 r_5 m_6) fun _ m_8 =>
              some ((), m_8)
          else
            if r_2 = 2 then
              bd (M_X1_hasField G x2 r_5 m_6) fun r_9 m_10 =>
                if r_9 = true then
                  nb (gR m_10 x2 8) fun b_13 =>
                    ib r_5 (G.2.2 b_13) <|
                      bd (M_X7_push G x0 (gI m_10 b_13 r_5.toNatClampNeg) m_10) fun _ m_15 =>
                        some ((), m_15)
                else
                  bd (M_X7_push G x0 0 m_10) fun _ m_12 =>
                    some ((), m_12)
            else
              if r_2 = 3 then
                bd (M_X7_valOf G fw x0 (r_5 / 12) (r_5 - r_5 / 12 * 12) x4 m_6) fun r_16 m_17 =>
                  bd (M_X7_push G x0 r_16 m_17) fun _ m_19 =>
                    some ((), m_19)
              else
                if r_2 = 4 then
                  bd (M_X1_hasConstant G x2 x3 m_6) fun r_20 m_21 =>
                    if r_20 = true then
                      nb (gR m_21 x2 1) fun b_24 =>
                        ib x3 (G.2.2 b_24) <|
                          bd (M_X7_push G x0 (gI m_21 b_24 x3.toNatClampNeg) m_21) fun _ m_26 =>
                            some ((), m_26)
                    else
                      bd (M_X7_push G x0 0 m_21) fun _ m_23 =>
                        some ((), m_23)
                else
                  if r_2 = 5 then
                    bd (M_X1_hasConstant G x2 x3 m_6) fun r_27 m_28 =>
                      if r_27 = true then
                        nb (gR m_28 x2 9) fun b_31 =>
                          ib x3 (G.2.2 b_31) <|
                            bd (M_X7_push G x0 (gI m_28 b_31 x3.toNatClampNeg) m_28) fun _ m_33 =>
                              some ((), m_33)
                      else
                        bd (M_X7_push G x0 0 m_28) fun _ m_30 =>
                          some ((), m_30)
                  else
                    if r_2 = 6 then
                      bd (M_X7_push G x0 x3 m_6) fun _ m_35 =>
                        some ((), m_35)
                    else
                      if r_2 = 7 then
                        bd (M_X7_pop G x0 m_6) fun r_36 m_37 =>
                          bd (M_X7_push G x0 (-r_36) m_37) fun _ m_39 =>
                            some ((), m_39)
                      else
                        bd (M_X7_join G x0 r_2 m_6) fun _ m_41 =>
                          some ((), m_41)
set_option maxRecDepth 100000 in
set_option maxHeartbeats 4000000 in
theorem cM_X7_step {p : Program} {l : Launch} {e : Env} {s : State} {mth : MethodId} {args : Array Value} {below : List Frame} {meth : Method} {c : Code} {E : EE} {G : GG} {fw : Nat → Int32 → Int32 → MM → Option (Bool × MM)} {d : Nat} {r9 : Unit} {m9 : MM} (hw : ∀ {x0 : Nat} {x1 x2 : Int32} {m m9 : MM} {r9 : Bool}, fw x0 x1 x2 m = some (r9, m9) → Ty E G x0 7 → Mc l E yX7_want cX7_want 4 (some .boolean) (rmX7_want d) [.ref x0, .int x1, .int x2] G m (cQi E (bz r9) G m9)) (C : Cx E G p s mth args meth c cX7_step RX7 "step" 7 none) {x0 : Nat} {x1 : Int32} {x2 : Nat} {x3 : Int32} {x4 : Int32} {m : MM} (hM : M_X7_step G fw x0 x1 x2 x3 x4 m = some (r9, m9)) (tx0 : Ty E G x0 7) (tx2 : Ty E G x2 1) : ∀ (H : Heap) (locs : List Loc), Hp E G m s H locs → ∀ ls : Array Slot, lv_has ls 7 [(0, .ref x0), (1, .int x1), (2, .ref x2), (3, .int x3), (4, .int x4)] → W p l e (rmX7_step d) s mth args below meth c H locs 0 0 (MQ below (cQv E G m9) args s 0 0 (fun q => E.2.2.1 ≤ q)) (F0 mth 0 ls []) := by
  intro H locs h ls hl
  unfold M_X7_step at hM
  refine lv_aload_n C.1 C.2.1 dX7_step_0 rfl (lv_at hl 0 rfl) ?_
  refine gt_7_5 C h tx0 fl_X7_18 dX7_step_1 ?_
  obtain ⟨b_1, hb_1, hM⟩ := nb_some hM
  have tb_1 : Ty E G b_1 6 := (fun b hb => tyf h tx0 hb) _ hb_1
  refine st_ref hb_1 ?_
  refine lv_iload_n C.1 C.2.1 dX7_step_4 rfl (lv_at hl 1 rfl) ?_
  obtain ⟨r_2, m_3, hc_2, hM⟩ := bd_some hM
  refine h_callVi C h (As := [.int x1]) (rest := []) r_2 m_3 (c_X6_opAt hc_2 tb_1) 6 rfl (by decide) tb_1 im_yX6_opAt se_yX6_opAt cy_X6_opAt rfl ml_X7_94 ⟨by show 0 + 1 ≤ 6 * d + 22; omega, by show 8 + (2 + 11) + (0) ≤ 200 * d + 450; omega⟩ ⟨Nat.zero_le _, Nat.zero_le _⟩ hl.1 rfl (Nat.le_of_ble_eq_true rfl) dX7_step_5 (fun H locs h => ?_)
  refine lv_istore (lv' := [(5, .int r_2), (0, .ref x0), (1, .int x1), (2, .ref x2), (3, .int x3), (4, .int x4)]) C.1 C.2.1 dX7_step_8 hl (by decide) rfl (fun ls hl => ?_)
  refine lv_aload_n C.1 C.2.1 dX7_step_10 rfl (lv_at hl 1 rfl) ?_
  refine gt_7_5 C h tx0 fl_X7_18 dX7_step_11 ?_
  obtain ⟨b_4, hb_4, hM⟩ := nb_some hM
  have tb_4 : Ty E G b_4 6 := (fun b hb => tyf h tx0 hb) _ hb_4
  refine st_ref hb_4 ?_
  refine lv_iload_n C.1 C.2.1 dX7_step_14 rfl (lv_at hl 2 rfl) ?_
  obtain ⟨r_5, m_6, hc_5, hM⟩ := bd_some hM
  refine h_callVi C h (As := [.int x1]) (rest := []) r_5 m_6 (c_X6_operandAt hc_5 tb_4) 6 rfl (by decide) tb_4 im_yX6_operandAt se_yX6_operandAt cy_X6_operandAt rfl ml_X7_105 ⟨by show 0 + 1 ≤ 6 * d + 22; omega, by show 8 + (2 + 11) + (0) ≤ 200 * d + 450; omega⟩ ⟨Nat.zero_le _, Nat.zero_le _⟩ hl.1 rfl (Nat.le_of_ble_eq_true rfl) dX7_step_15 (fun H locs h => ?_)
  refine lv_istore (lv' := [(6, .int r_5), (5, .int r_2), (0, .ref x0), (1, .int x1), (2, .ref x2), (3, .int x3), (4, .int x4)]) C.1 C.2.1 dX7_step_18 hl (by decide) rfl (fun ls hl => ?_)
  refine lv_iload C.1 C.2.1 dX7_step_20 (lv_at hl 1 rfl) ?_
  by_cases q0 : r_2 = 1
  · have hM := ite_t q0 hM
    refine h_tabIn q0 (tgt := 64) C.1 C.2.1 dX7_step_22 (by decide) (by decide) rfl (by decide) ?_
    refine lv_aload_n C.1 C.2.1 dX7_step_64 rfl (lv_at hl 2 rfl) ?_
    refine lv_iload C.1 C.2.1 dX7_step_65 (lv_at hl 0 rfl) ?_
    obtain ⟨r_7, m_8, hc_7, hM⟩ := bd_some hM
    refine h_callVv C h (As := [.int r_5]) (rest := []) m_8 (c_X7_push hc_7 tx0) 7 rfl (by decide) tx0 im_yX7_push se_yX7_push cy_X7_push rfl ml_X7_108 ⟨by show 0 + 1 ≤ 6 * d + 22; omega, by show 8 + (2 + 11) + (0) ≤ 200 * d + 450; omega⟩ ⟨Nat.zero_le _, Nat.zero_le _⟩ hl.1 rfl (Nat.le_of_ble_eq_true rfl) dX7_step_67 (fun H locs h => ?_)
    refine lv_goto (tgt := 199) C.1 C.2.1 dX7_step_70 (by decide) ?_
    obtain ⟨rfl, rfl⟩ := so_inj hM
    exact h_vret C h dX7_step_199
  · have hM := ite_f q0 hM
    by_cases q1 : r_2 = 2
    · have hM := ite_t q1 hM
      refine h_tabIn q1 (tgt := 73) C.1 C.2.1 dX7_step_22 (by decide) (by decide) rfl (by decide) ?_
      refine lv_aload_n C.1 C.2.1 dX7_step_73 rfl (lv_at hl 2 rfl) ?_
      refine lv_aload_n C.1 C.2.1 dX7_step_74 rfl (lv_at hl 4 rfl) ?_
      refine lv_iload C.1 C.2.1 dX7_step_75 (lv_at hl 0 rfl) ?_
      obtain ⟨r_9, m_10, hc_9, hM⟩ := bd_some hM
      refine h_callVi C h (As := [.int r_5]) (rest := [.ref x0]) (bz r_9) m_10 (c_X1_hasField hc_9 tx2) 1 rfl (by decide) tx2 im_yX1_hasField se_yX1_hasField cy_X1_hasField rfl ml_X7_111 ⟨by show 0 + 1 ≤ 6 * d + 22; omega, by show 8 + (2 + 11) + (0) ≤ 200 * d + 450; omega⟩ ⟨Nat.zero_le _, Nat.zero_le _⟩ hl.1 rfl (Nat.le_of_ble_eq_true rfl) dX7_step_77 (fun H locs h => ?_)
      refine h_ifz (tgt := 93) C.1 C.2.1 dX7_step_80 (by decide) (fun q => ?_) (fun q => ?_)
      · have hM := ite_f q hM
        refine lv_iconst (v := 0) C.1 C.2.1 dX7_step_93 (by decide) ?_
        obtain ⟨r_11, m_12, hc_11, hM⟩ := bd_some hM
        refine h_callVv C h (As := [.int 0]) (rest := []) m_12 (c_X7_push hc_11 tx0) 7 rfl (by decide) tx0 im_yX7_push se_yX7_push cy_X7_push rfl ml_X7_108 ⟨by show 0 + 1 ≤ 6 * d + 22; omega, by show 8 + (2 + 11) + (0) ≤ 200 * d + 450; omega⟩ ⟨Nat.zero_le _, Nat.zero_le _⟩ hl.1 rfl (Nat.le_of_ble_eq_true rfl) dX7_step_94 (fun H locs h => ?_)
        refine lv_goto (tgt := 199) C.1 C.2.1 dX7_step_97 (by decide) ?_
        obtain ⟨rfl, rfl⟩ := so_inj hM
        exact h_vret C h dX7_step_199
      · have hM := ite_t q hM
        refine lv_aload_n C.1 C.2.1 dX7_step_83 rfl (lv_at hl 4 rfl) ?_
        refine gt_1_8 C h tx2 fl_X7_88 dX7_step_84 ?_
        obtain ⟨b_13, hb_13, hM⟩ := nb_some hM
        have tb_13 : Ty E G b_13 12 := (fun b hb => tyf h tx2 hb) _ hb_13
        refine st_ref hb_13 ?_
        refine lv_iload C.1 C.2.1 dX7_step_87 (lv_at hl 0 rfl) ?_
        obtain ⟨hi, hM⟩ := ib_some hM
        refine h_iald C h tb_13 hi dX7_step_89 ?_
        refine lv_goto (tgt := 94) C.1 C.2.1 dX7_step_90 (by decide) ?_
        obtain ⟨r_14, m_15, hc_14, hM⟩ := bd_some hM
        refine h_callVv C h (As := [.int (gI m_10 b_13 r_5.toNatClampNeg)]) (rest := []) m_15 (c_X7_push hc_14 tx0) 7 rfl (by decide) tx0 im_yX7_push se_yX7_push cy_X7_push rfl ml_X7_108 ⟨by show 0 + 1 ≤ 6 * d + 22; omega, by show 8 + (2 + 11) + (0) ≤ 200 * d + 450; omega⟩ ⟨Nat.zero_le _, Nat.zero_le _⟩ hl.1 rfl (Nat.le_of_ble_eq_true rfl) dX7_step_94 (fun H locs h => ?_)
        refine lv_goto (tgt := 199) C.1 C.2.1 dX7_step_97 (by decide) ?_
        obtain ⟨rfl, rfl⟩ := so_inj hM
        exact h_vret C h dX7_step_199
    · have hM := ite_f q1 hM
      by_cases q2 : r_2 = 3
      · have hM := ite_t q2 hM
        refine h_tabIn q2 (tgt := 100) C.1 C.2.1 dX7_step_22 (by decide) (by decide) rfl (by decide) ?_
        refine lv_aload_n C.1 C.2.1 dX7_step_100 rfl (lv_at hl 2 rfl) ?_
        refine lv_aload_n C.1 C.2.1 dX7_step_101 rfl (lv_at hl 2 rfl) ?_
        refine lv_iload C.1 C.2.1 dX7_step_102 (lv_at hl 0 rfl) ?_
        refine lv_bipush (v := 12) C.1 C.2.1 dX7_step_104 (by decide) ?_
        refine lv_idiv C.1 C.2.1 dX7_step_106 (by decide) ?_
        refine lv_iload C.1 C.2.1 dX7_step_107 (lv_at hl 0 rfl) ?_
        refine lv_bipush (v := 12) C.1 C.2.1 dX7_step_109 (by decide) ?_
        refine lv_irem C.1 C.2.1 dX7_step_111 (by decide) ?_
        refine lv_iload C.1 C.2.1 dX7_step_112 (lv_at hl 6 rfl) ?_
        obtain ⟨r_16, m_17, hc_16, hM⟩ := bd_some hM
        refine h_callVi C h (As := [.int (r_5 / 12), .int (r_5 - r_5 / 12 * 12), .int x4]) (rest := [.ref x0]) r_16 m_17 (c_X7_valOf hw hc_16 tx0) 7 rfl (by decide) tx0 im_yX7_valOf se_yX7_valOf cy_X7_valOf rfl ml_X7_114 ⟨by show 6 * d + 21 + 1 ≤ 6 * d + 22; omega, by show 8 + (5 + 11) + (200 * d + 425) ≤ 200 * d + 450; omega⟩ ⟨Nat.zero_le _, Nat.zero_le _⟩ hl.1 rfl (Nat.le_of_ble_eq_true rfl) dX7_step_114 (fun H locs h => ?_)
        obtain ⟨r_18, m_19, hc_18, hM⟩ := bd_some hM
        refine h_callVv C h (As := [.int r_16]) (rest := []) m_19 (c_X7_push hc_18 tx0) 7 rfl (by decide) tx0 im_yX7_push se_yX7_push cy_X7_push rfl ml_X7_108 ⟨by show 0 + 1 ≤ 6 * d + 22; omega, by show 8 + (2 + 11) + (0) ≤ 200 * d + 450; omega⟩ ⟨Nat.zero_le _, Nat.zero_le _⟩ hl.1 rfl (Nat.le_of_ble_eq_true rfl) dX7_step_117 (fun H locs h => ?_)
        refine lv_goto (tgt := 199) C.1 C.2.1 dX7_step_120 (by decide) ?_
        obtain ⟨rfl, rfl⟩ := so_inj hM
        exact h_vret C h dX7_step_199
      · have hM := ite_f q2 hM
        by_cases q3 : r_2 = 4
        · have hM := ite_t q3 hM
          refine h_tabIn q3 (tgt := 123) C.1 C.2.1 dX7_step_22 (by decide) (by decide) rfl (by decide) ?_
          refine lv_aload_n C.1 C.2.1 dX7_step_123 rfl (lv_at hl 2 rfl) ?_
          refine lv_aload_n C.1 C.2.1 dX7_step_124 rfl (lv_at hl 4 rfl) ?_
          refine lv_iload_n C.1 C.2.1 dX7_step_125 rfl (lv_at hl 5 rfl) ?_
          obtain ⟨r_20, m_21, hc_20, hM⟩ := bd_some hM
          refine h_callVi C h (As := [.int x3]) (rest := [.ref x0]) (bz r_20) m_21 (c_X1_hasConstant hc_20 tx2) 1 rfl (by decide) tx2 im_yX1_hasConstant se_yX1_hasConstant cy_X1_hasConstant rfl ml_X7_73 ⟨by show 0 + 1 ≤ 6 * d + 22; omega, by show 8 + (2 + 11) + (0) ≤ 200 * d + 450; omega⟩ ⟨Nat.zero_le _, Nat.zero_le _⟩ hl.1 rfl (Nat.le_of_ble_eq_true rfl) dX7_step_126 (fun H locs h => ?_)
          refine h_ifz (tgt := 141) C.1 C.2.1 dX7_step_129 (by decide) (fun q => ?_) (fun q => ?_)
          · have hM := ite_f q hM
            refine lv_iconst (v := 0) C.1 C.2.1 dX7_step_141 (by decide) ?_
            obtain ⟨r_22, m_23, hc_22, hM⟩ := bd_some hM
            refine h_callVv C h (As := [.int 0]) (rest := []) m_23 (c_X7_push hc_22 tx0) 7 rfl (by decide) tx0 im_yX7_push se_yX7_push cy_X7_push rfl ml_X7_108 ⟨by show 0 + 1 ≤ 6 * d + 22; omega, by show 8 + (2 + 11) + (0) ≤ 200 * d + 450; omega⟩ ⟨Nat.zero_le _, Nat.zero_le _⟩ hl.1 rfl (Nat.le_of_ble_eq_true rfl) dX7_step_142 (fun H locs h => ?_)
            refine lv_goto (tgt := 199) C.1 C.2.1 dX7_step_145 (by decide) ?_
            obtain ⟨rfl, rfl⟩ := so_inj hM
            exact h_vret C h dX7_step_199
          · have hM := ite_t q hM
            refine lv_aload_n C.1 C.2.1 dX7_step_132 rfl (lv_at hl 4 rfl) ?_
            refine gt_1_1 C h tx2 fl_X7_118 dX7_step_133 ?_
            obtain ⟨b_24, hb_24, hM⟩ := nb_some hM
            have tb_24 : Ty E G b_24 12 := (fun b hb => tyf h tx2 hb) _ hb_24
            refine st_ref hb_24 ?_
            refine lv_iload_n C.1 C.2.1 dX7_step_136 rfl (lv_at hl 5 rfl) ?_
            obtain ⟨hi, hM⟩ := ib_some hM
            refine h_iald C h tb_24 hi dX7_step_137 ?_
            refine lv_goto (tgt := 142) C.1 C.2.1 dX7_step_138 (by decide) ?_
            obtain ⟨r_25, m_26, hc_25, hM⟩ := bd_some hM
            refine h_callVv C h (As := [.int (gI m_21 b_24 x3.toNatClampNeg)]) (rest := []) m_26 (c_X7_push hc_25 tx0) 7 rfl (by decide) tx0 im_yX7_push se_yX7_push cy_X7_push rfl ml_X7_108 ⟨by show 0 + 1 ≤ 6 * d + 22; omega, by show 8 + (2 + 11) + (0) ≤ 200 * d + 450; omega⟩ ⟨Nat.zero_le _, Nat.zero_le _⟩ hl.1 rfl (Nat.le_of_ble_eq_true rfl) dX7_step_142 (fun H locs h => ?_)
            refine lv_goto (tgt := 199) C.1 C.2.1 dX7_step_145 (by decide) ?_
            obtain ⟨rfl, rfl⟩ := so_inj hM
            exact h_vret C h dX7_step_199
        · have hM := ite_f q3 hM
          by_cases q4 : r_2 = 5
          · have hM := ite_t q4 hM
            refine h_tabIn q4 (tgt := 148) C.1 C.2.1 dX7_step_22 (by decide) (by decide) rfl (by decide) ?_
            refine lv_aload_n C.1 C.2.1 dX7_step_148 rfl (lv_at hl 2 rfl) ?_
            refine lv_aload_n C.1 C.2.1 dX7_step_149 rfl (lv_at hl 4 rfl) ?_
            refine lv_iload_n C.1 C.2.1 dX7_step_150 rfl (lv_at hl 5 rfl) ?_
            obtain ⟨r_27, m_28, hc_27, hM⟩ := bd_some hM
            refine h_callVi C h (As := [.int x3]) (rest := [.ref x0]) (bz r_27) m_28 (c_X1_hasConstant hc_27 tx2) 1 rfl (by decide) tx2 im_yX1_hasConstant se_yX1_hasConstant cy_X1_hasConstant rfl ml_X7_73 ⟨by show 0 + 1 ≤ 6 * d + 22; omega, by show 8 + (2 + 11) + (0) ≤ 200 * d + 450; omega⟩ ⟨Nat.zero_le _, Nat.zero_le _⟩ hl.1 rfl (Nat.le_of_ble_eq_true rfl) dX7_step_151 (fun H locs h => ?_)
            refine h_ifz (tgt := 166) C.1 C.2.1 dX7_step_154 (by decide) (fun q => ?_) (fun q => ?_)
            · have hM := ite_f q hM
              refine lv_iconst (v := 0) C.1 C.2.1 dX7_step_166 (by decide) ?_
              obtain ⟨r_29, m_30, hc_29, hM⟩ := bd_some hM
              refine h_callVv C h (As := [.int 0]) (rest := []) m_30 (c_X7_push hc_29 tx0) 7 rfl (by decide) tx0 im_yX7_push se_yX7_push cy_X7_push rfl ml_X7_108 ⟨by show 0 + 1 ≤ 6 * d + 22; omega, by show 8 + (2 + 11) + (0) ≤ 200 * d + 450; omega⟩ ⟨Nat.zero_le _, Nat.zero_le _⟩ hl.1 rfl (Nat.le_of_ble_eq_true rfl) dX7_step_167 (fun H locs h => ?_)
              refine lv_goto (tgt := 199) C.1 C.2.1 dX7_step_170 (by decide) ?_
              obtain ⟨rfl, rfl⟩ := so_inj hM
              exact h_vret C h dX7_step_199
            · have hM := ite_t q hM
              refine lv_aload_n C.1 C.2.1 dX7_step_157 rfl (lv_at hl 4 rfl) ?_
              refine gt_1_9 C h tx2 fl_X7_76 dX7_step_158 ?_
              obtain ⟨b_31, hb_31, hM⟩ := nb_some hM
              have tb_31 : Ty E G b_31 12 := (fun b hb => tyf h tx2 hb) _ hb_31
              refine st_ref hb_31 ?_
              refine lv_iload_n C.1 C.2.1 dX7_step_161 rfl (lv_at hl 5 rfl) ?_
              obtain ⟨hi, hM⟩ := ib_some hM
              refine h_iald C h tb_31 hi dX7_step_162 ?_
              refine lv_goto (tgt := 167) C.1 C.2.1 dX7_step_163 (by decide) ?_
              obtain ⟨r_32, m_33, hc_32, hM⟩ := bd_some hM
              refine h_callVv C h (As := [.int (gI m_28 b_31 x3.toNatClampNeg)]) (rest := []) m_33 (c_X7_push hc_32 tx0) 7 rfl (by decide) tx0 im_yX7_push se_yX7_push cy_X7_push rfl ml_X7_108 ⟨by show 0 + 1 ≤ 6 * d + 22; omega, by show 8 + (2 + 11) + (0) ≤ 200 * d + 450; omega⟩ ⟨Nat.zero_le _, Nat.zero_le _⟩ hl.1 rfl (Nat.le_of_ble_eq_true rfl) dX7_step_167 (fun H locs h => ?_)
              refine lv_goto (tgt := 199) C.1 C.2.1 dX7_step_170 (by decide) ?_
              obtain ⟨rfl, rfl⟩ := so_inj hM
              exact h_vret C h dX7_step_199
          · have hM := ite_f q4 hM
            by_cases q5 : r_2 = 6
            · have hM := ite_t q5 hM
              refine h_tabIn q5 (tgt := 173) C.1 C.2.1 dX7_step_22 (by decide) (by decide) rfl (by decide) ?_
              refine lv_aload_n C.1 C.2.1 dX7_step_173 rfl (lv_at hl 2 rfl) ?_
              refine lv_iload_n C.1 C.2.1 dX7_step_174 rfl (lv_at hl 5 rfl) ?_
              obtain ⟨r_34, m_35, hc_34, hM⟩ := bd_some hM
              refine h_callVv C h (As := [.int x3]) (rest := []) m_35 (c_X7_push hc_34 tx0) 7 rfl (by decide) tx0 im_yX7_push se_yX7_push cy_X7_push rfl ml_X7_108 ⟨by show 0 + 1 ≤ 6 * d + 22; omega, by show 8 + (2 + 11) + (0) ≤ 200 * d + 450; omega⟩ ⟨Nat.zero_le _, Nat.zero_le _⟩ hl.1 rfl (Nat.le_of_ble_eq_true rfl) dX7_step_175 (fun H locs h => ?_)
              refine lv_goto (tgt := 199) C.1 C.2.1 dX7_step_178 (by decide) ?_
              obtain ⟨rfl, rfl⟩ := so_inj hM
              exact h_vret C h dX7_step_199
            · have hM := ite_f q5 hM
              by_cases q6 : r_2 = 7
              · have hM := ite_t q6 hM
                refine h_tabIn q6 (tgt := 181) C.1 C.2.1 dX7_step_22 (by decide) (by decide) rfl (by decide) ?_
                refine lv_aload_n C.1 C.2.1 dX7_step_181 rfl (lv_at hl 2 rfl) ?_
                refine lv_aload_n C.1 C.2.1 dX7_step_182 rfl (lv_at hl 2 rfl) ?_
                obtain ⟨r_36, m_37, hc_36, hM⟩ := bd_some hM
                refine h_callVi C h (As := []) (rest := [.ref x0]) r_36 m_37 (c_X7_pop hc_36 tx0) 7 rfl (by decide) tx0 im_yX7_pop se_yX7_pop cy_X7_pop rfl ml_X7_101 ⟨by show 0 + 1 ≤ 6 * d + 22; omega, by show 8 + (1 + 11) + (0) ≤ 200 * d + 450; omega⟩ ⟨Nat.zero_le _, Nat.zero_le _⟩ hl.1 rfl (Nat.le_of_ble_eq_true rfl) dX7_step_183 (fun H locs h => ?_)
                refine lv_ineg C.1 C.2.1 dX7_step_186 ?_
                obtain ⟨r_38, m_39, hc_38, hM⟩ := bd_some hM
                refine h_callVv C h (As := [.int (-r_36)]) (rest := []) m_39 (c_X7_push hc_38 tx0) 7 rfl (by decide) tx0 im_yX7_push se_yX7_push cy_X7_push rfl ml_X7_108 ⟨by show 0 + 1 ≤ 6 * d + 22; omega, by show 8 + (2 + 11) + (0) ≤ 200 * d + 450; omega⟩ ⟨Nat.zero_le _, Nat.zero_le _⟩ hl.1 rfl (Nat.le_of_ble_eq_true rfl) dX7_step_187 (fun H locs h => ?_)
                refine lv_goto (tgt := 199) C.1 C.2.1 dX7_step_190 (by decide) ?_
                obtain ⟨rfl, rfl⟩ := so_inj hM
                exact h_vret C h dX7_step_199
              · have hM := ite_f q6 hM
                refine h_tabOut (tgt := 193) (lo := 1) (n := 7) C.1 C.2.1 dX7_step_22 (by decide) (by decide) (by decide) (fun k hk => ?_) ?_
                · match k, hk with
                  | 0, _ => exact q0
                  | 1, _ => exact q1
                  | 2, _ => exact q2
                  | 3, _ => exact q3
                  | 4, _ => exact q4
                  | 5, _ => exact q5
                  | 6, _ => exact q6
                  | k + 7, hk => exact absurd hk (by omega)
                · refine lv_aload_n C.1 C.2.1 dX7_step_193 rfl (lv_at hl 2 rfl) ?_
                  refine lv_iload C.1 C.2.1 dX7_step_194 (lv_at hl 1 rfl) ?_
                  obtain ⟨r_40, m_41, hc_40, hM⟩ := bd_some hM
                  refine h_callVv C h (As := [.int r_2]) (rest := []) m_41 (c_X7_join hc_40 tx0) 7 rfl (by decide) tx0 im_yX7_join se_yX7_join cy_X7_join rfl ml_X7_121 ⟨by show 1 + 1 ≤ 6 * d + 22; omega, by show 8 + (4 + 11) + (22) ≤ 200 * d + 450; omega⟩ ⟨Nat.zero_le _, Nat.zero_le _⟩ hl.1 rfl (Nat.le_of_ble_eq_true rfl) dX7_step_196 (fun H locs h => ?_)
                  obtain ⟨rfl, rfl⟩ := so_inj hM
                  exact h_vret C h dX7_step_199
set_option maxRecDepth 100000 in
theorem c_X7_step {l : Launch} {E : EE} {G : GG} {fw : Nat → Int32 → Int32 → MM → Option (Bool × MM)} {d : Nat} (hw : ∀ {x0 : Nat} {x1 x2 : Int32} {m m9 : MM} {r9 : Bool}, fw x0 x1 x2 m = some (r9, m9) → Ty E G x0 7 → Mc l E yX7_want cX7_want 4 (some .boolean) (rmX7_want d) [.ref x0, .int x1, .int x2] G m (cQi E (bz r9) G m9)) {x0 : Nat} {x1 : Int32} {x2 : Nat} {x3 : Int32} {x4 : Int32} {m m9 : MM} {r9 : Unit} (hM : M_X7_step G fw x0 x1 x2 x3 x4 m = some (r9, m9)) (tx0 : Ty E G x0 7) (tx2 : Ty E G x2 1) : Mc l E yX7_step cX7_step 7 none (rmX7_step d) [.ref x0, .int x1, .ref x2, .int x3, .int x4] G m (cQv E G m9) := M_of (by decide) (Nat.le_of_ble_eq_true rfl) (fun p e s mth below meth c C h ls hl => cM_X7_step hw C hM tx0 tx2 _ _ h ls hl)
def B_X7_work_59 (G : GG) (fw : Nat → Int32 → Int32 → MM → Option (Bool × MM)) (x0 : Nat) (x5 : Int32) (m : MM) : Option (Int32 × MM) :=
  if (gI m x0 3) ≤ x5 then
    some (0, sI m x0 3 x5)
  else
    bd (M_X7_pop G x0 m) fun r_1 m_2 =>
      some (r_1, sI m_2 x0 3 x5)
set_option maxRecDepth 100000 in
set_option maxHeartbeats 4000000 in
theorem cB_X7_work_59 {p : Program} {l : Launch} {e : Env} {s : State} {mth : MethodId} {args : Array Value} {below : List Frame} {meth : Method} {c : Code} {E : EE} {G : GG} {fw : Nat → Int32 → Int32 → MM → Option (Bool × MM)} {d : Nat} {r9 : Int32} {m9 : MM} (hw : ∀ {x0 : Nat} {x1 x2 : Int32} {m m9 : MM} {r9 : Bool}, fw x0 x1 x2 m = some (r9, m9) → Ty E G x0 7 → Mc l E yX7_want cX7_want 4 (some .boolean) (rmX7_want d) [.ref x0, .int x1, .int x2] G m (cQi E (bz r9) G m9)) (C : Cx E G p s mth args meth c cX7_work RX7 "work" 7 (some .int)) {x0 : Nat} {x5 : Int32} {m : MM} (hM : B_X7_work_59 G fw x0 x5 m = some (r9, m9)) (tx0 : Ty E G x0 7) : ∀ (H : Heap) (locs : List Loc), Hp E G m s H locs → ∀ ls : Array Slot, lv_has ls 7 [(0, .ref x0), (5, .int x5)] → W p l e (rmX7_work d) s mth args below meth c H locs 0 0 (MQ below (cQi E r9 G m9) args s 0 0 (fun q => E.2.2.1 ≤ q)) (F0 mth 59 ls []) := by
  intro H locs h ls hl
  unfold B_X7_work_59 at hM
  refine lv_aload_n C.1 C.2.1 dX7_work_59 rfl (lv_at hl 0 rfl) ?_
  refine gt_7_3 C h tx0 fl_X7_22 dX7_work_60 ?_
  refine lv_iload C.1 C.2.1 dX7_work_63 (lv_at hl 1 rfl) ?_
  refine lv_icmp_le (tgt := 75) C.1 C.2.1 dX7_work_65 (by decide) (fun q => ?_) (fun q => ?_)
  · have hM := ite_t q hM
    refine lv_iconst (v := 0) C.1 C.2.1 dX7_work_75 (by decide) ?_
    refine lv_istore (lv' := [(6, .int 0), (0, .ref x0), (5, .int x5)]) C.1 C.2.1 dX7_work_76 hl (by decide) rfl (fun ls hl => ?_)
    refine lv_aload_n C.1 C.2.1 dX7_work_78 rfl (lv_at hl 1 rfl) ?_
    refine lv_iload C.1 C.2.1 dX7_work_79 (lv_at hl 2 rfl) ?_
    refine pt_7_3 C h tx0 fl_X7_22 dX7_work_81 (fun H locs h => ?_)
    refine lv_iload C.1 C.2.1 dX7_work_84 (lv_at hl 0 rfl) ?_
    obtain ⟨rfl, rfl⟩ := so_inj hM
    exact h_iret C h dX7_work_86
  · have hM := ite_f q hM
    refine lv_aload_n C.1 C.2.1 dX7_work_68 rfl (lv_at hl 0 rfl) ?_
    obtain ⟨r_1, m_2, hc_1, hM⟩ := bd_some hM
    refine h_callVi C h (As := []) (rest := []) r_1 m_2 (c_X7_pop hc_1 tx0) 7 rfl (by decide) tx0 im_yX7_pop se_yX7_pop cy_X7_pop rfl ml_X7_101 ⟨by show 0 + 1 ≤ 6 * d + 23; omega, by show 8 + (1 + 11) + (0) ≤ 200 * d + 476; omega⟩ ⟨Nat.zero_le _, Nat.zero_le _⟩ hl.1 rfl (Nat.le_of_ble_eq_true rfl) dX7_work_69 (fun H locs h => ?_)
    refine lv_goto (tgt := 76) C.1 C.2.1 dX7_work_72 (by decide) ?_
    refine lv_istore (lv' := [(6, .int r_1), (0, .ref x0), (5, .int x5)]) C.1 C.2.1 dX7_work_76 hl (by decide) rfl (fun ls hl => ?_)
    refine lv_aload_n C.1 C.2.1 dX7_work_78 rfl (lv_at hl 1 rfl) ?_
    refine lv_iload C.1 C.2.1 dX7_work_79 (lv_at hl 2 rfl) ?_
    refine pt_7_3 C h tx0 fl_X7_22 dX7_work_81 (fun H locs h => ?_)
    refine lv_iload C.1 C.2.1 dX7_work_84 (lv_at hl 0 rfl) ?_
    obtain ⟨rfl, rfl⟩ := so_inj hM
    exact h_iret C h dX7_work_86
def B_X7_work_9 (G : GG) (fw : Nat → Int32 → Int32 → MM → Option (Bool × MM)) : Nat → Nat → Nat → Int32 → Int32 → Int32 → Int32 → MM → Option (Int32 × MM)
  | 0, _, _, _, _, _, _, _ => none
  | fu + 1, x0, x2, x3, x4, x5, x6, m =>
    nb (gR m x0 5) fun b_3 =>
      if (gI m b_3 4) ≤ x6 then
        B_X7_work_59 G fw x0 x5 m
      else
        if (gI m x0 4) = 0 then
          bd (M_X6_opAt G b_3 x6 m) fun r_4 m_5 =>
            if r_4 = 0 then
              B_X7_work_59 G fw x0 x5 m_5
            else
              bd (M_X7_step G fw x0 x6 x2 x3 x4 m_5) fun _ m_7 =>
                B_X7_work_9 G fw fu x0 x2 x3 x4 x5 (x6 + 1) m_7
        else
          B_X7_work_59 G fw x0 x5 m
set_option maxRecDepth 100000 in
set_option maxHeartbeats 4000000 in
theorem cB_X7_work_9 {p : Program} {l : Launch} {e : Env} {s : State} {mth : MethodId} {args : Array Value} {below : List Frame} {meth : Method} {c : Code} {E : EE} {G : GG} {fw : Nat → Int32 → Int32 → MM → Option (Bool × MM)} {d : Nat} {r9 : Int32} {m9 : MM} (hw : ∀ {x0 : Nat} {x1 x2 : Int32} {m m9 : MM} {r9 : Bool}, fw x0 x1 x2 m = some (r9, m9) → Ty E G x0 7 → Mc l E yX7_want cX7_want 4 (some .boolean) (rmX7_want d) [.ref x0, .int x1, .int x2] G m (cQi E (bz r9) G m9)) (C : Cx E G p s mth args meth c cX7_work RX7 "work" 7 (some .int)) : ∀ (fu : Nat) (x0 : Nat) (x2 : Nat) (x3 : Int32) (x4 : Int32) (x5 : Int32) (x6 : Int32) (m : MM), B_X7_work_9 G fw fu x0 x2 x3 x4 x5 x6 m = some (r9, m9) → (Ty E G x0 7) → (Ty E G x2 1) → ∀ (H : Heap) (locs : List Loc), Hp E G m s H locs → ∀ ls : Array Slot, lv_has ls 7 [(0, .ref x0), (2, .ref x2), (3, .int x3), (4, .int x4), (5, .int x5), (6, .int x6)] → W p l e (rmX7_work d) s mth args below meth c H locs 0 0 (MQ below (cQi E r9 G m9) args s 0 0 (fun q => E.2.2.1 ≤ q)) (F0 mth 9 ls []) := by
  intro fu
  induction fu with
  | zero =>
    intro x0 x2 x3 x4 x5 x6 m hM
    rw [B_X7_work_9] at hM
    cases hM
  | succ fu ih =>
    intro x0 x2 x3 x4 x5 x6 m hM tx0 tx2 H locs h ls hl
    rw [B_X7_work_9] at hM
    refine lv_iload C.1 C.2.1 dX7_work_9 (lv_at hl 5 rfl) ?_
    refine lv_aload_n C.1 C.2.1 dX7_work_11 rfl (lv_at hl 0 rfl) ?_
    refine gt_7_5 C h tx0 fl_X7_18 dX7_work_12 ?_
    obtain ⟨b_3, hb_3, hM⟩ := nb_some hM
    have tb_3 : Ty E G b_3 6 := (fun b hb => tyf h tx0 hb) _ hb_3
    refine st_ref hb_3 ?_
    refine gt_6_4 C h tb_3 fl_X7_91 dX7_work_15 ?_
    refine lv_icmp_ge (tgt := 59) C.1 C.2.1 dX7_work_18 (by decide) (fun q => ?_) (fun q => ?_)
    · have hM := ite_t q hM
      exact cB_X7_work_59 hw C hM tx0 _ _ h ls (lv_sub hl [0, 4] rfl)
    · have hM := ite_f q hM
      refine lv_aload_n C.1 C.2.1 dX7_work_21 rfl (lv_at hl 0 rfl) ?_
      refine gt_7_4 C h tx0 fl_X7_26 dX7_work_22 ?_
      refine lv_if_ne (tgt := 59) C.1 C.2.1 dX7_work_25 (by decide) (fun q => ?_) (fun q => ?_)
      · have hM := ite_f q hM
        exact cB_X7_work_59 hw C hM tx0 _ _ h ls (lv_sub hl [0, 4] rfl)
      · have hM := ite_t q hM
        refine lv_aload_n C.1 C.2.1 dX7_work_28 rfl (lv_at hl 0 rfl) ?_
        refine gt_7_5 C h tx0 fl_X7_18 dX7_work_29 ?_
        refine st_ref hb_3 ?_
        refine lv_iload C.1 C.2.1 dX7_work_32 (lv_at hl 5 rfl) ?_
        obtain ⟨r_4, m_5, hc_4, hM⟩ := bd_some hM
        refine h_callVi C h (As := [.int x6]) (rest := []) r_4 m_5 (c_X6_opAt hc_4 tb_3) 6 rfl (by decide) tb_3 im_yX6_opAt se_yX6_opAt cy_X6_opAt rfl ml_X7_94 ⟨by show 0 + 1 ≤ 6 * d + 23; omega, by show 8 + (2 + 11) + (0) ≤ 200 * d + 476; omega⟩ ⟨Nat.zero_le _, Nat.zero_le _⟩ hl.1 rfl (Nat.le_of_ble_eq_true rfl) dX7_work_34 (fun H locs h => ?_)
        refine lv_if_ne (tgt := 43) C.1 C.2.1 dX7_work_37 (by decide) (fun q => ?_) (fun q => ?_)
        · have hM := ite_f q hM
          refine lv_aload_n C.1 C.2.1 dX7_work_43 rfl (lv_at hl 0 rfl) ?_
          refine lv_iload C.1 C.2.1 dX7_work_44 (lv_at hl 5 rfl) ?_
          refine lv_aload_n C.1 C.2.1 dX7_work_46 rfl (lv_at hl 1 rfl) ?_
          refine lv_iload_n C.1 C.2.1 dX7_work_47 rfl (lv_at hl 2 rfl) ?_
          refine lv_iload C.1 C.2.1 dX7_work_48 (lv_at hl 3 rfl) ?_
          obtain ⟨r_6, m_7, hc_6, hM⟩ := bd_some hM
          refine h_callVv C h (As := [.int x6, .ref x2, .int x3, .int x4]) (rest := []) m_7 (c_X7_step hw hc_6 tx0 tx2) 7 rfl (by decide) tx0 im_yX7_step se_yX7_step cy_X7_step rfl ml_X7_98 ⟨by show 6 * d + 22 + 1 ≤ 6 * d + 23; omega, by show 8 + (7 + 11) + (200 * d + 450) ≤ 200 * d + 476; omega⟩ ⟨Nat.zero_le _, Nat.zero_le _⟩ hl.1 rfl (Nat.le_of_ble_eq_true rfl) dX7_work_50 (fun H locs h => ?_)
          refine lv_iinc (v := x6 + 1) (lv' := [(6, .int (x6 + 1)), (0, .ref x0), (2, .ref x2), (3, .int x3), (4, .int x4), (5, .int x5)]) C.1 C.2.1 dX7_work_53 hl (k := 5) rfl rfl (by decide) rfl (fun ls hl => ?_)
          refine lv_goto (tgt := 9) C.1 C.2.1 dX7_work_56 (by decide) ?_
          exact ih _ _ _ _ _ _ _ hM tx0 tx2 _ _ h ls (lv_sub hl [1, 2, 3, 4, 5, 0] rfl)
        · have hM := ite_t q hM
          refine lv_goto (tgt := 59) C.1 C.2.1 dX7_work_40 (by decide) ?_
          exact cB_X7_work_59 hw C hM tx0 _ _ h ls (lv_sub hl [0, 4] rfl)
def M_X7_work (G : GG) (fw : Nat → Int32 → Int32 → MM → Option (Bool × MM)) (x0 : Nat) (x1 : Int32) (x2 : Nat) (x3 : Int32) (x4 : Int32) (m : MM) : Option (Int32 × MM) :=
  B_X7_work_9 G fw FU x0 x2 x3 x4 (gI m x0 3) x1 m
set_option maxRecDepth 100000 in
set_option maxHeartbeats 4000000 in
theorem cM_X7_work {p : Program} {l : Launch} {e : Env} {s : State} {mth : MethodId} {args : Array Value} {below : List Frame} {meth : Method} {c : Code} {E : EE} {G : GG} {fw : Nat → Int32 → Int32 → MM → Option (Bool × MM)} {d : Nat} {r9 : Int32} {m9 : MM} (hw : ∀ {x0 : Nat} {x1 x2 : Int32} {m m9 : MM} {r9 : Bool}, fw x0 x1 x2 m = some (r9, m9) → Ty E G x0 7 → Mc l E yX7_want cX7_want 4 (some .boolean) (rmX7_want d) [.ref x0, .int x1, .int x2] G m (cQi E (bz r9) G m9)) (C : Cx E G p s mth args meth c cX7_work RX7 "work" 7 (some .int)) {x0 : Nat} {x1 : Int32} {x2 : Nat} {x3 : Int32} {x4 : Int32} {m : MM} (hM : M_X7_work G fw x0 x1 x2 x3 x4 m = some (r9, m9)) (tx0 : Ty E G x0 7) (tx2 : Ty E G x2 1) : ∀ (H : Heap) (locs : List Loc), Hp E G m s H locs → ∀ ls : Array Slot, lv_has ls 7 [(0, .ref x0), (1, .int x1), (2, .ref x2), (3, .int x3), (4, .int x4)] → W p l e (rmX7_work d) s mth args below meth c H locs 0 0 (MQ below (cQi E r9 G m9) args s 0 0 (fun q => E.2.2.1 ≤ q)) (F0 mth 0 ls []) := by
  intro H locs h ls hl
  unfold M_X7_work at hM
  refine lv_aload_n C.1 C.2.1 dX7_work_0 rfl (lv_at hl 0 rfl) ?_
  refine gt_7_3 C h tx0 fl_X7_22 dX7_work_1 ?_
  refine lv_istore (lv' := [(5, .int (gI m x0 3)), (0, .ref x0), (1, .int x1), (2, .ref x2), (3, .int x3), (4, .int x4)]) C.1 C.2.1 dX7_work_4 hl (by decide) rfl (fun ls hl => ?_)
  refine lv_iload_n C.1 C.2.1 dX7_work_6 rfl (lv_at hl 2 rfl) ?_
  refine lv_istore (lv' := [(6, .int x1), (5, .int (gI m x0 3)), (0, .ref x0), (1, .int x1), (2, .ref x2), (3, .int x3), (4, .int x4)]) C.1 C.2.1 dX7_work_7 hl (by decide) rfl (fun ls hl => ?_)
  exact cB_X7_work_9 hw C _ _ _ _ _ _ _ _ hM tx0 tx2 _ _ h ls (lv_sub hl [2, 4, 5, 6, 1, 0] rfl)
set_option maxRecDepth 100000 in
theorem c_X7_work {l : Launch} {E : EE} {G : GG} {fw : Nat → Int32 → Int32 → MM → Option (Bool × MM)} {d : Nat} (hw : ∀ {x0 : Nat} {x1 x2 : Int32} {m m9 : MM} {r9 : Bool}, fw x0 x1 x2 m = some (r9, m9) → Ty E G x0 7 → Mc l E yX7_want cX7_want 4 (some .boolean) (rmX7_want d) [.ref x0, .int x1, .int x2] G m (cQi E (bz r9) G m9)) {x0 : Nat} {x1 : Int32} {x2 : Nat} {x3 : Int32} {x4 : Int32} {m m9 : MM} {r9 : Int32} (hM : M_X7_work G fw x0 x1 x2 x3 x4 m = some (r9, m9)) (tx0 : Ty E G x0 7) (tx2 : Ty E G x2 1) : Mc l E yX7_work cX7_work 7 (some .int) (rmX7_work d) [.ref x0, .int x1, .ref x2, .int x3, .int x4] G m (cQi E r9 G m9) := M_of (by decide) (Nat.le_of_ble_eq_true rfl) (fun p e s mth below meth c C h ls hl => cM_X7_work hw C hM tx0 tx2 _ _ h ls hl)
def B_X7_make_24 (G : GG) (fw : Nat → Int32 → Int32 → MM → Option (Bool × MM)) (x0 : Nat) (x1 : Int32) (x2 : Nat) (x3 : Int32) (s0 : Int32) (m : MM) : Option (Unit × MM) :=
  if (gI m x0 4) = 0 then
    bd (M_X1_hasConstant G x2 x3 m) fun r_1 m_2 =>
      if r_1 = true then
        nb (gR m_2 x2 9) fun b_3 =>
          ib x3 (G.2.2 b_3) <|
            bd (M_X7_addTrace G x0 (((1000 * x1) + 1) + x3) (sI (sI m_2 b_3 x3.toNatClampNeg s0) x2 18 (x3 + 1))) fun _ m_5 =>
              some ((), m_5)
      else
        some ((), m_2)
  else
    some ((), m)
set_option maxRecDepth 100000 in
set_option maxHeartbeats 4000000 in
theorem cB_X7_make_24 {p : Program} {l : Launch} {e : Env} {s : State} {mth : MethodId} {args : Array Value} {below : List Frame} {meth : Method} {c : Code} {E : EE} {G : GG} {fw : Nat → Int32 → Int32 → MM → Option (Bool × MM)} {d : Nat} {r9 : Unit} {m9 : MM} (hw : ∀ {x0 : Nat} {x1 x2 : Int32} {m m9 : MM} {r9 : Bool}, fw x0 x1 x2 m = some (r9, m9) → Ty E G x0 7 → Mc l E yX7_want cX7_want 4 (some .boolean) (rmX7_want d) [.ref x0, .int x1, .int x2] G m (cQi E (bz r9) G m9)) (C : Cx E G p s mth args meth c cX7_make RX7 "make" 6 none) {x0 : Nat} {x1 : Int32} {x2 : Nat} {x3 : Int32} {s0 : Int32} {m : MM} (hM : B_X7_make_24 G fw x0 x1 x2 x3 s0 m = some (r9, m9)) (tx0 : Ty E G x0 7) (tx2 : Ty E G x2 1) : ∀ (H : Heap) (locs : List Loc), Hp E G m s H locs → ∀ ls : Array Slot, lv_has ls 6 [(0, .ref x0), (1, .int x1), (2, .ref x2), (3, .int x3)] → W p l e (rmX7_make d) s mth args below meth c H locs 0 0 (MQ below (cQv E G m9) args s 0 0 (fun q => E.2.2.1 ≤ q)) (F0 mth 24 ls [.int s0]) := by
  intro H locs h ls hl
  unfold B_X7_make_24 at hM
  refine lv_istore (lv' := [(5, .int s0), (0, .ref x0), (1, .int x1), (2, .ref x2), (3, .int x3)]) C.1 C.2.1 dX7_make_24 hl (by decide) rfl (fun ls hl => ?_)
  refine lv_aload_n C.1 C.2.1 dX7_make_26 rfl (lv_at hl 1 rfl) ?_
  refine gt_7_4 C h tx0 fl_X7_26 dX7_make_27 ?_
  refine lv_if_ne (tgt := 69) C.1 C.2.1 dX7_make_30 (by decide) (fun q => ?_) (fun q => ?_)
  · have hM := ite_f q hM
    obtain ⟨rfl, rfl⟩ := so_inj hM
    exact h_vret C h dX7_make_69
  · have hM := ite_t q hM
    refine lv_aload_n C.1 C.2.1 dX7_make_33 rfl (lv_at hl 3 rfl) ?_
    refine lv_iload_n C.1 C.2.1 dX7_make_34 rfl (lv_at hl 4 rfl) ?_
    obtain ⟨r_1, m_2, hc_1, hM⟩ := bd_some hM
    refine h_callVi C h (As := [.int x3]) (rest := []) (bz r_1) m_2 (c_X1_hasConstant hc_1 tx2) 1 rfl (by decide) tx2 im_yX1_hasConstant se_yX1_hasConstant cy_X1_hasConstant rfl ml_X7_73 ⟨by show 0 + 1 ≤ 6 * d + 24; omega, by show 8 + (2 + 11) + (0) ≤ 200 * d + 502; omega⟩ ⟨Nat.zero_le _, Nat.zero_le _⟩ hl.1 rfl (Nat.le_of_ble_eq_true rfl) dX7_make_35 (fun H locs h => ?_)
    refine h_ifz (tgt := 69) C.1 C.2.1 dX7_make_38 (by decide) (fun q => ?_) (fun q => ?_)
    · have hM := ite_f q hM
      obtain ⟨rfl, rfl⟩ := so_inj hM
      exact h_vret C h dX7_make_69
    · have hM := ite_t q hM
      refine lv_aload_n C.1 C.2.1 dX7_make_41 rfl (lv_at hl 3 rfl) ?_
      refine gt_1_9 C h tx2 fl_X7_76 dX7_make_42 ?_
      obtain ⟨b_3, hb_3, hM⟩ := nb_some hM
      have tb_3 : Ty E G b_3 12 := (fun b hb => tyf h tx2 hb) _ hb_3
      refine st_ref hb_3 ?_
      refine lv_iload_n C.1 C.2.1 dX7_make_45 rfl (lv_at hl 4 rfl) ?_
      refine lv_iload C.1 C.2.1 dX7_make_46 (lv_at hl 0 rfl) ?_
      obtain ⟨hi, hM⟩ := ib_some hM
      refine h_iast C h tb_3 hi dX7_make_48 (fun H locs h => ?_)
      refine lv_aload_n C.1 C.2.1 dX7_make_49 rfl (lv_at hl 3 rfl) ?_
      refine lv_iload_n C.1 C.2.1 dX7_make_50 rfl (lv_at hl 4 rfl) ?_
      refine lv_iconst (v := 1) C.1 C.2.1 dX7_make_51 (by decide) ?_
      refine lv_iadd C.1 C.2.1 dX7_make_52 ?_
      refine pt_1_18 C h tx2 fl_X7_79 dX7_make_53 (fun H locs h => ?_)
      refine lv_aload_n C.1 C.2.1 dX7_make_56 rfl (lv_at hl 1 rfl) ?_
      refine lv_sipush (v := 1000) C.1 C.2.1 dX7_make_57 (by decide) ?_
      refine lv_iload_n C.1 C.2.1 dX7_make_60 rfl (lv_at hl 2 rfl) ?_
      refine lv_imul C.1 C.2.1 dX7_make_61 ?_
      refine lv_iconst (v := 1) C.1 C.2.1 dX7_make_62 (by decide) ?_
      refine lv_iadd C.1 C.2.1 dX7_make_63 ?_
      refine lv_iload_n C.1 C.2.1 dX7_make_64 rfl (lv_at hl 4 rfl) ?_
      refine lv_iadd C.1 C.2.1 dX7_make_65 ?_
      obtain ⟨r_4, m_5, hc_4, hM⟩ := bd_some hM
      refine h_callVv C h (As := [.int (((1000 * x1) + 1) + x3)]) (rest := []) m_5 (c_X7_addTrace hc_4 tx0) 7 rfl (by decide) tx0 im_yX7_addTrace se_yX7_addTrace cy_X7_addTrace rfl ml_X7_48 ⟨by show 0 + 1 ≤ 6 * d + 24; omega, by show 8 + (2 + 11) + (0) ≤ 200 * d + 502; omega⟩ ⟨Nat.zero_le _, Nat.zero_le _⟩ hl.1 rfl (Nat.le_of_ble_eq_true rfl) dX7_make_66 (fun H locs h => ?_)
      obtain ⟨rfl, rfl⟩ := so_inj hM
      exact h_vret C h dX7_make_69
def M_X7_make (G : GG) (fw : Nat → Int32 → Int32 → MM → Option (Bool × MM)) (x0 : Nat) (x1 : Int32) (x2 : Nat) (x3 : Int32) (x4 : Int32) (m : MM) : Option (Unit × MM) :=
  if (gI m x2 16) = (-1) then
    B_X7_make_24 G fw x0 x1 x2 x3 0 m
  else
    bd (M_X7_work G fw x0 (gI m x2 16) x2 x3 x4 m) fun r_6 m_7 =>
      B_X7_make_24 G fw x0 x1 x2 x3 r_6 m_7
set_option maxRecDepth 100000 in
set_option maxHeartbeats 4000000 in
theorem cM_X7_make {p : Program} {l : Launch} {e : Env} {s : State} {mth : MethodId} {args : Array Value} {below : List Frame} {meth : Method} {c : Code} {E : EE} {G : GG} {fw : Nat → Int32 → Int32 → MM → Option (Bool × MM)} {d : Nat} {r9 : Unit} {m9 : MM} (hw : ∀ {x0 : Nat} {x1 x2 : Int32} {m m9 : MM} {r9 : Bool}, fw x0 x1 x2 m = some (r9, m9) → Ty E G x0 7 → Mc l E yX7_want cX7_want 4 (some .boolean) (rmX7_want d) [.ref x0, .int x1, .int x2] G m (cQi E (bz r9) G m9)) (C : Cx E G p s mth args meth c cX7_make RX7 "make" 6 none) {x0 : Nat} {x1 : Int32} {x2 : Nat} {x3 : Int32} {x4 : Int32} {m : MM} (hM : M_X7_make G fw x0 x1 x2 x3 x4 m = some (r9, m9)) (tx0 : Ty E G x0 7) (tx2 : Ty E G x2 1) : ∀ (H : Heap) (locs : List Loc), Hp E G m s H locs → ∀ ls : Array Slot, lv_has ls 6 [(0, .ref x0), (1, .int x1), (2, .ref x2), (3, .int x3), (4, .int x4)] → W p l e (rmX7_make d) s mth args below meth c H locs 0 0 (MQ below (cQv E G m9) args s 0 0 (fun q => E.2.2.1 ≤ q)) (F0 mth 0 ls []) := by
  intro H locs h ls hl
  unfold M_X7_make at hM
  refine lv_aload_n C.1 C.2.1 dX7_make_0 rfl (lv_at hl 2 rfl) ?_
  refine gt_1_16 C h tx2 fl_X7_66 dX7_make_1 ?_
  refine lv_iconst (v := (-1)) C.1 C.2.1 dX7_make_4 (by decide) ?_
  refine lv_icmp_ne (tgt := 12) C.1 C.2.1 dX7_make_5 (by decide) (fun q => ?_) (fun q => ?_)
  · have hM := ite_f q hM
    refine lv_aload_n C.1 C.2.1 dX7_make_12 rfl (lv_at hl 0 rfl) ?_
    refine lv_aload_n C.1 C.2.1 dX7_make_13 rfl (lv_at hl 2 rfl) ?_
    refine gt_1_16 C h tx2 fl_X7_66 dX7_make_14 ?_
    refine lv_aload_n C.1 C.2.1 dX7_make_17 rfl (lv_at hl 2 rfl) ?_
    refine lv_iload_n C.1 C.2.1 dX7_make_18 rfl (lv_at hl 3 rfl) ?_
    refine lv_iload C.1 C.2.1 dX7_make_19 (lv_at hl 4 rfl) ?_
    obtain ⟨r_6, m_7, hc_6, hM⟩ := bd_some hM
    refine h_callVi C h (As := [.int (gI m x2 16), .ref x2, .int x3, .int x4]) (rest := []) r_6 m_7 (c_X7_work hw hc_6 tx0 tx2) 7 rfl (by decide) tx0 im_yX7_work se_yX7_work cy_X7_work rfl ml_X7_69 ⟨by show 6 * d + 23 + 1 ≤ 6 * d + 24; omega, by show 8 + (7 + 11) + (200 * d + 476) ≤ 200 * d + 502; omega⟩ ⟨Nat.zero_le _, Nat.zero_le _⟩ hl.1 rfl (Nat.le_of_ble_eq_true rfl) dX7_make_21 (fun H locs h => ?_)
    exact cB_X7_make_24 hw C hM tx0 tx2 _ _ h ls (lv_sub hl [0, 1, 2, 3] rfl)
  · have hM := ite_t q hM
    refine lv_iconst (v := 0) C.1 C.2.1 dX7_make_8 (by decide) ?_
    refine lv_goto (tgt := 24) C.1 C.2.1 dX7_make_9 (by decide) ?_
    exact cB_X7_make_24 hw C hM tx0 tx2 _ _ h ls (lv_sub hl [0, 1, 2, 3] rfl)
set_option maxRecDepth 100000 in
theorem c_X7_make {l : Launch} {E : EE} {G : GG} {fw : Nat → Int32 → Int32 → MM → Option (Bool × MM)} {d : Nat} (hw : ∀ {x0 : Nat} {x1 x2 : Int32} {m m9 : MM} {r9 : Bool}, fw x0 x1 x2 m = some (r9, m9) → Ty E G x0 7 → Mc l E yX7_want cX7_want 4 (some .boolean) (rmX7_want d) [.ref x0, .int x1, .int x2] G m (cQi E (bz r9) G m9)) {x0 : Nat} {x1 : Int32} {x2 : Nat} {x3 : Int32} {x4 : Int32} {m m9 : MM} {r9 : Unit} (hM : M_X7_make G fw x0 x1 x2 x3 x4 m = some (r9, m9)) (tx0 : Ty E G x0 7) (tx2 : Ty E G x2 1) : Mc l E yX7_make cX7_make 6 none (rmX7_make d) [.ref x0, .int x1, .ref x2, .int x3, .int x4] G m (cQv E G m9) := M_of (by decide) (Nat.le_of_ble_eq_true rfl) (fun p e s mth below meth c C h ls hl => cM_X7_make hw C hM tx0 tx2 _ _ h ls hl)
def M_X7_set (G : GG) (fw : Nat → Int32 → Int32 → MM → Option (Bool × MM)) (x0 : Nat) (x1 : Nat) (x2 : Int32) (x3 : Int32) (m : MM) : Option (Unit × MM) :=
  bd (M_X1_isWorked G x1 x2 m) fun r_1 m_2 =>
    if r_1 = true then
      nb (gR m_2 x1 7) fun b_3 =>
        ib x2 (G.2.2 b_3) <|
          bd (M_X7_work G fw x0 (gI m_2 b_3 x2.toNatClampNeg) x1 (-1) x3 m_2) fun r_4 m_5 =>
            if (gI m_5 x0 4) = 0 then
              nb (gR m_5 x1 8) fun b_6 =>
                ib x2 (G.2.2 b_6) <|
                  some ((), sI m_5 b_6 x2.toNatClampNeg r_4)
            else
              some ((), m_5)
    else
      some ((), m_2)
set_option maxRecDepth 100000 in
set_option maxHeartbeats 4000000 in
theorem cM_X7_set {p : Program} {l : Launch} {e : Env} {s : State} {mth : MethodId} {args : Array Value} {below : List Frame} {meth : Method} {c : Code} {E : EE} {G : GG} {fw : Nat → Int32 → Int32 → MM → Option (Bool × MM)} {d : Nat} {r9 : Unit} {m9 : MM} (hw : ∀ {x0 : Nat} {x1 x2 : Int32} {m m9 : MM} {r9 : Bool}, fw x0 x1 x2 m = some (r9, m9) → Ty E G x0 7 → Mc l E yX7_want cX7_want 4 (some .boolean) (rmX7_want d) [.ref x0, .int x1, .int x2] G m (cQi E (bz r9) G m9)) (C : Cx E G p s mth args meth c cX7_set RX7 "set" 5 none) {x0 : Nat} {x1 : Nat} {x2 : Int32} {x3 : Int32} {m : MM} (hM : M_X7_set G fw x0 x1 x2 x3 m = some (r9, m9)) (tx0 : Ty E G x0 7) (tx1 : Ty E G x1 1) : ∀ (H : Heap) (locs : List Loc), Hp E G m s H locs → ∀ ls : Array Slot, lv_has ls 5 [(0, .ref x0), (1, .ref x1), (2, .int x2), (3, .int x3)] → W p l e (rmX7_set d) s mth args below meth c H locs 0 0 (MQ below (cQv E G m9) args s 0 0 (fun q => E.2.2.1 ≤ q)) (F0 mth 0 ls []) := by
  intro H locs h ls hl
  unfold M_X7_set at hM
  refine lv_aload_n C.1 C.2.1 dX7_set_0 rfl (lv_at hl 1 rfl) ?_
  refine lv_iload_n C.1 C.2.1 dX7_set_1 rfl (lv_at hl 2 rfl) ?_
  obtain ⟨r_1, m_2, hc_1, hM⟩ := bd_some hM
  refine h_callVi C h (As := [.int x2]) (rest := []) (bz r_1) m_2 (c_X1_isWorked hc_1 tx1) 1 rfl (by decide) tx1 im_yX1_isWorked se_yX1_isWorked cy_X1_isWorked rfl ml_X7_82 ⟨by show 1 + 1 ≤ 6 * d + 24; omega, by show 8 + (2 + 11) + (21) ≤ 200 * d + 502; omega⟩ ⟨Nat.zero_le _, Nat.zero_le _⟩ hl.1 rfl (Nat.le_of_ble_eq_true rfl) dX7_set_2 (fun H locs h => ?_)
  refine h_ifnz (tgt := 9) C.1 C.2.1 dX7_set_5 (by decide) (fun q => ?_) (fun q => ?_)
  · have hM := ite_t q hM
    refine lv_aload_n C.1 C.2.1 dX7_set_9 rfl (lv_at hl 0 rfl) ?_
    refine lv_aload_n C.1 C.2.1 dX7_set_10 rfl (lv_at hl 1 rfl) ?_
    refine gt_1_7 C h tx1 fl_X7_85 dX7_set_11 ?_
    obtain ⟨b_3, hb_3, hM⟩ := nb_some hM
    have tb_3 : Ty E G b_3 12 := (fun b hb => tyf h tx1 hb) _ hb_3
    refine st_ref hb_3 ?_
    refine lv_iload_n C.1 C.2.1 dX7_set_14 rfl (lv_at hl 2 rfl) ?_
    obtain ⟨hi, hM⟩ := ib_some hM
    refine h_iald C h tb_3 hi dX7_set_15 ?_
    refine lv_aload_n C.1 C.2.1 dX7_set_16 rfl (lv_at hl 1 rfl) ?_
    refine lv_iconst (v := (-1)) C.1 C.2.1 dX7_set_17 (by decide) ?_
    refine lv_iload_n C.1 C.2.1 dX7_set_18 rfl (lv_at hl 3 rfl) ?_
    obtain ⟨r_4, m_5, hc_4, hM⟩ := bd_some hM
    refine h_callVi C h (As := [.int (gI m_2 b_3 x2.toNatClampNeg), .ref x1, .int (-1), .int x3]) (rest := []) r_4 m_5 (c_X7_work hw hc_4 tx0 tx1) 7 rfl (by decide) tx0 im_yX7_work se_yX7_work cy_X7_work rfl ml_X7_69 ⟨by show 6 * d + 23 + 1 ≤ 6 * d + 24; omega, by show 8 + (7 + 11) + (200 * d + 476) ≤ 200 * d + 502; omega⟩ ⟨Nat.zero_le _, Nat.zero_le _⟩ hl.1 rfl (Nat.le_of_ble_eq_true rfl) dX7_set_19 (fun H locs h => ?_)
    refine lv_istore (lv' := [(4, .int r_4), (0, .ref x0), (1, .ref x1), (2, .int x2), (3, .int x3)]) C.1 C.2.1 dX7_set_22 hl (by decide) rfl (fun ls hl => ?_)
    refine lv_aload_n C.1 C.2.1 dX7_set_24 rfl (lv_at hl 1 rfl) ?_
    refine gt_7_4 C h tx0 fl_X7_26 dX7_set_25 ?_
    refine lv_if_ne (tgt := 39) C.1 C.2.1 dX7_set_28 (by decide) (fun q => ?_) (fun q => ?_)
    · have hM := ite_f q hM
      obtain ⟨rfl, rfl⟩ := so_inj hM
      exact h_vret C h dX7_set_39
    · have hM := ite_t q hM
      refine lv_aload_n C.1 C.2.1 dX7_set_31 rfl (lv_at hl 2 rfl) ?_
      refine gt_1_8 C h tx1 fl_X7_88 dX7_set_32 ?_
      obtain ⟨b_6, hb_6, hM⟩ := nb_some hM
      have tb_6 : Ty E G b_6 12 := (fun b hb => tyf h tx1 hb) _ hb_6
      refine st_ref hb_6 ?_
      refine lv_iload_n C.1 C.2.1 dX7_set_35 rfl (lv_at hl 3 rfl) ?_
      refine lv_iload C.1 C.2.1 dX7_set_36 (lv_at hl 0 rfl) ?_
      obtain ⟨hi, hM⟩ := ib_some hM
      refine h_iast C h tb_6 hi dX7_set_38 (fun H locs h => ?_)
      obtain ⟨rfl, rfl⟩ := so_inj hM
      exact h_vret C h dX7_set_39
  · have hM := ite_f q hM
    obtain ⟨rfl, rfl⟩ := so_inj hM
    exact h_vret C h dX7_set_8
set_option maxRecDepth 100000 in
theorem c_X7_set {l : Launch} {E : EE} {G : GG} {fw : Nat → Int32 → Int32 → MM → Option (Bool × MM)} {d : Nat} (hw : ∀ {x0 : Nat} {x1 x2 : Int32} {m m9 : MM} {r9 : Bool}, fw x0 x1 x2 m = some (r9, m9) → Ty E G x0 7 → Mc l E yX7_want cX7_want 4 (some .boolean) (rmX7_want d) [.ref x0, .int x1, .int x2] G m (cQi E (bz r9) G m9)) {x0 : Nat} {x1 : Nat} {x2 : Int32} {x3 : Int32} {m m9 : MM} {r9 : Unit} (hM : M_X7_set G fw x0 x1 x2 x3 m = some (r9, m9)) (tx0 : Ty E G x0 7) (tx1 : Ty E G x1 1) : Mc l E yX7_set cX7_set 5 none (rmX7_set d) [.ref x0, .ref x1, .int x2, .int x3] G m (cQv E G m9) := M_of (by decide) (Nat.le_of_ble_eq_true rfl) (fun p e s mth below meth c C h ls hl => cM_X7_set hw C hM tx0 tx1 _ _ h ls hl)
def B_X7_start_94 (G : GG) (fw : Nat → Int32 → Int32 → MM → Option (Bool × MM)) (x0 : Nat) (x1 : Int32) (s0 : Nat) (s1 : Int32) (m : MM) : Option (Unit × MM) :=
  if (gI (sI m s0 17 s1) x0 4) = 0 then
    bd (M_X7_addTrace G x0 ((1000 * x1) + 100) (sI m s0 17 s1)) fun _ m_4 =>
      some ((), m_4)
  else
    bd (M_X7_addTrace G x0 ((1000 * x1) + 200) (sI m s0 17 s1)) fun _ m_2 =>
      some ((), m_2)
set_option maxRecDepth 100000 in
set_option maxHeartbeats 4000000 in
theorem cB_X7_start_94 {p : Program} {l : Launch} {e : Env} {s : State} {mth : MethodId} {args : Array Value} {below : List Frame} {meth : Method} {c : Code} {E : EE} {G : GG} {fw : Nat → Int32 → Int32 → MM → Option (Bool × MM)} {d : Nat} {r9 : Unit} {m9 : MM} (hw : ∀ {x0 : Nat} {x1 x2 : Int32} {m m9 : MM} {r9 : Bool}, fw x0 x1 x2 m = some (r9, m9) → Ty E G x0 7 → Mc l E yX7_want cX7_want 4 (some .boolean) (rmX7_want d) [.ref x0, .int x1, .int x2] G m (cQi E (bz r9) G m9)) (C : Cx E G p s mth args meth c cX7_start RX7 "start" 5 none) {x0 : Nat} {x1 : Int32} {s0 : Nat} {s1 : Int32} {m : MM} (hM : B_X7_start_94 G fw x0 x1 s0 s1 m = some (r9, m9)) (tx0 : Ty E G x0 7) (ts0 : Ty E G s0 1) : ∀ (H : Heap) (locs : List Loc), Hp E G m s H locs → ∀ ls : Array Slot, lv_has ls 5 [(0, .ref x0), (1, .int x1)] → W p l e (rmX7_start d) s mth args below meth c H locs 0 0 (MQ below (cQv E G m9) args s 0 0 (fun q => E.2.2.1 ≤ q)) (F0 mth 94 ls [.int s1, .ref s0]) := by
  intro H locs h ls hl
  unfold B_X7_start_94 at hM
  refine pt_1_17 C h ts0 fl_X7_35 dX7_start_94 (fun H locs h => ?_)
  refine lv_aload_n C.1 C.2.1 dX7_start_97 rfl (lv_at hl 0 rfl) ?_
  refine lv_sipush (v := 1000) C.1 C.2.1 dX7_start_98 (by decide) ?_
  refine lv_iload_n C.1 C.2.1 dX7_start_101 rfl (lv_at hl 1 rfl) ?_
  refine lv_imul C.1 C.2.1 dX7_start_102 ?_
  refine lv_aload_n C.1 C.2.1 dX7_start_103 rfl (lv_at hl 0 rfl) ?_
  refine gt_7_4 C h tx0 fl_X7_26 dX7_start_104 ?_
  refine lv_if_ne (tgt := 115) C.1 C.2.1 dX7_start_107 (by decide) (fun q => ?_) (fun q => ?_)
  · have hM := ite_f q hM
    refine lv_sipush (v := 200) C.1 C.2.1 dX7_start_115 (by decide) ?_
    refine lv_iadd C.1 C.2.1 dX7_start_118 ?_
    obtain ⟨r_1, m_2, hc_1, hM⟩ := bd_some hM
    refine h_callVv C h (As := [.int ((1000 * x1) + 200)]) (rest := []) m_2 (c_X7_addTrace hc_1 tx0) 7 rfl (by decide) tx0 im_yX7_addTrace se_yX7_addTrace cy_X7_addTrace rfl ml_X7_48 ⟨by show 0 + 1 ≤ 6 * d + 25; omega, by show 8 + (2 + 11) + (0) ≤ 200 * d + 527; omega⟩ ⟨Nat.zero_le _, Nat.zero_le _⟩ hl.1 rfl (Nat.le_of_ble_eq_true rfl) dX7_start_119 (fun H locs h => ?_)
    obtain ⟨rfl, rfl⟩ := so_inj hM
    exact h_vret C h dX7_start_122
  · have hM := ite_t q hM
    refine lv_bipush (v := 100) C.1 C.2.1 dX7_start_110 (by decide) ?_
    refine lv_goto (tgt := 118) C.1 C.2.1 dX7_start_112 (by decide) ?_
    refine lv_iadd C.1 C.2.1 dX7_start_118 ?_
    obtain ⟨r_3, m_4, hc_3, hM⟩ := bd_some hM
    refine h_callVv C h (As := [.int ((1000 * x1) + 100)]) (rest := []) m_4 (c_X7_addTrace hc_3 tx0) 7 rfl (by decide) tx0 im_yX7_addTrace se_yX7_addTrace cy_X7_addTrace rfl ml_X7_48 ⟨by show 0 + 1 ≤ 6 * d + 25; omega, by show 8 + (2 + 11) + (0) ≤ 200 * d + 527; omega⟩ ⟨Nat.zero_le _, Nat.zero_le _⟩ hl.1 rfl (Nat.le_of_ble_eq_true rfl) dX7_start_119 (fun H locs h => ?_)
    obtain ⟨rfl, rfl⟩ := so_inj hM
    exact h_vret C h dX7_start_122
def B_X7_start_81 (G : GG) (fw : Nat → Int32 → Int32 → MM → Option (Bool × MM)) (x0 : Nat) (x1 : Int32) (x2 : Nat) (m : MM) : Option (Unit × MM) :=
  if (gI m x0 4) = 0 then
    B_X7_start_94 G fw x0 x1 x2 1 m
  else
    B_X7_start_94 G fw x0 x1 x2 2 m
set_option maxRecDepth 100000 in
set_option maxHeartbeats 4000000 in
theorem cB_X7_start_81 {p : Program} {l : Launch} {e : Env} {s : State} {mth : MethodId} {args : Array Value} {below : List Frame} {meth : Method} {c : Code} {E : EE} {G : GG} {fw : Nat → Int32 → Int32 → MM → Option (Bool × MM)} {d : Nat} {r9 : Unit} {m9 : MM} (hw : ∀ {x0 : Nat} {x1 x2 : Int32} {m m9 : MM} {r9 : Bool}, fw x0 x1 x2 m = some (r9, m9) → Ty E G x0 7 → Mc l E yX7_want cX7_want 4 (some .boolean) (rmX7_want d) [.ref x0, .int x1, .int x2] G m (cQi E (bz r9) G m9)) (C : Cx E G p s mth args meth c cX7_start RX7 "start" 5 none) {x0 : Nat} {x1 : Int32} {x2 : Nat} {m : MM} (hM : B_X7_start_81 G fw x0 x1 x2 m = some (r9, m9)) (tx0 : Ty E G x0 7) (tx2 : Ty E G x2 1) : ∀ (H : Heap) (locs : List Loc), Hp E G m s H locs → ∀ ls : Array Slot, lv_has ls 5 [(0, .ref x0), (1, .int x1), (2, .ref x2)] → W p l e (rmX7_start d) s mth args below meth c H locs 0 0 (MQ below (cQv E G m9) args s 0 0 (fun q => E.2.2.1 ≤ q)) (F0 mth 81 ls []) := by
  intro H locs h ls hl
  unfold B_X7_start_81 at hM
  refine lv_aload_n C.1 C.2.1 dX7_start_81 rfl (lv_at hl 2 rfl) ?_
  refine lv_aload_n C.1 C.2.1 dX7_start_82 rfl (lv_at hl 0 rfl) ?_
  refine gt_7_4 C h tx0 fl_X7_26 dX7_start_83 ?_
  refine lv_if_ne (tgt := 93) C.1 C.2.1 dX7_start_86 (by decide) (fun q => ?_) (fun q => ?_)
  · have hM := ite_f q hM
    refine lv_iconst (v := 2) C.1 C.2.1 dX7_start_93 (by decide) ?_
    exact cB_X7_start_94 hw C hM tx0 tx2 _ _ h ls (lv_sub hl [0, 1] rfl)
  · have hM := ite_t q hM
    refine lv_iconst (v := 1) C.1 C.2.1 dX7_start_89 (by decide) ?_
    refine lv_goto (tgt := 94) C.1 C.2.1 dX7_start_90 (by decide) ?_
    exact cB_X7_start_94 hw C hM tx0 tx2 _ _ h ls (lv_sub hl [0, 1] rfl)
def B_X7_start_51 (G : GG) (fw : Nat → Int32 → Int32 → MM → Option (Bool × MM)) : Nat → Nat → Int32 → Nat → Int32 → Int32 → MM → Option (Unit × MM)
  | 0, _, _, _, _, _, _ => none
  | fu + 1, x0, x1, x2, x3, x4, m =>
    if (gI m x2 14) ≤ x4 then
      B_X7_start_81 G fw x0 x1 x2 m
    else
      if (gI m x0 4) = 0 then
        bd (M_X7_set G fw x0 x2 x4 x3 m) fun _ m_6 =>
          B_X7_start_51 G fw fu x0 x1 x2 x3 (x4 + 1) m_6
      else
        B_X7_start_81 G fw x0 x1 x2 m
set_option maxRecDepth 100000 in
set_option maxHeartbeats 4000000 in
theorem cB_X7_start_51 {p : Program} {l : Launch} {e : Env} {s : State} {mth : MethodId} {args : Array Value} {below : List Frame} {meth : Method} {c : Code} {E : EE} {G : GG} {fw : Nat → Int32 → Int32 → MM → Option (Bool × MM)} {d : Nat} {r9 : Unit} {m9 : MM} (hw : ∀ {x0 : Nat} {x1 x2 : Int32} {m m9 : MM} {r9 : Bool}, fw x0 x1 x2 m = some (r9, m9) → Ty E G x0 7 → Mc l E yX7_want cX7_want 4 (some .boolean) (rmX7_want d) [.ref x0, .int x1, .int x2] G m (cQi E (bz r9) G m9)) (C : Cx E G p s mth args meth c cX7_start RX7 "start" 5 none) : ∀ (fu : Nat) (x0 : Nat) (x1 : Int32) (x2 : Nat) (x3 : Int32) (x4 : Int32) (m : MM), B_X7_start_51 G fw fu x0 x1 x2 x3 x4 m = some (r9, m9) → (Ty E G x0 7) → (Ty E G x2 1) → ∀ (H : Heap) (locs : List Loc), Hp E G m s H locs → ∀ ls : Array Slot, lv_has ls 5 [(0, .ref x0), (1, .int x1), (2, .ref x2), (3, .int x3), (4, .int x4)] → W p l e (rmX7_start d) s mth args below meth c H locs 0 0 (MQ below (cQv E G m9) args s 0 0 (fun q => E.2.2.1 ≤ q)) (F0 mth 51 ls []) := by
  intro fu
  induction fu with
  | zero =>
    intro x0 x1 x2 x3 x4 m hM
    rw [B_X7_start_51] at hM
    cases hM
  | succ fu ih =>
    intro x0 x1 x2 x3 x4 m hM tx0 tx2 H locs h ls hl
    rw [B_X7_start_51] at hM
    refine lv_iload C.1 C.2.1 dX7_start_51 (lv_at hl 4 rfl) ?_
    refine lv_aload_n C.1 C.2.1 dX7_start_53 rfl (lv_at hl 2 rfl) ?_
    refine gt_1_14 C h tx2 fl_X7_59 dX7_start_54 ?_
    refine lv_icmp_ge (tgt := 81) C.1 C.2.1 dX7_start_57 (by decide) (fun q => ?_) (fun q => ?_)
    · have hM := ite_t q hM
      exact cB_X7_start_81 hw C hM tx0 tx2 _ _ h ls (lv_sub hl [0, 1, 2] rfl)
    · have hM := ite_f q hM
      refine lv_aload_n C.1 C.2.1 dX7_start_60 rfl (lv_at hl 0 rfl) ?_
      refine gt_7_4 C h tx0 fl_X7_26 dX7_start_61 ?_
      refine lv_if_ne (tgt := 81) C.1 C.2.1 dX7_start_64 (by decide) (fun q => ?_) (fun q => ?_)
      · have hM := ite_f q hM
        exact cB_X7_start_81 hw C hM tx0 tx2 _ _ h ls (lv_sub hl [0, 1, 2] rfl)
      · have hM := ite_t q hM
        refine lv_aload_n C.1 C.2.1 dX7_start_67 rfl (lv_at hl 0 rfl) ?_
        refine lv_aload_n C.1 C.2.1 dX7_start_68 rfl (lv_at hl 2 rfl) ?_
        refine lv_iload C.1 C.2.1 dX7_start_69 (lv_at hl 4 rfl) ?_
        refine lv_iload_n C.1 C.2.1 dX7_start_71 rfl (lv_at hl 3 rfl) ?_
        obtain ⟨r_5, m_6, hc_5, hM⟩ := bd_some hM
        refine h_callVv C h (As := [.ref x2, .int x4, .int x3]) (rest := []) m_6 (c_X7_set hw hc_5 tx0 tx2) 7 rfl (by decide) tx0 im_yX7_set se_yX7_set cy_X7_set rfl ml_X7_62 ⟨by show 6 * d + 24 + 1 ≤ 6 * d + 25; omega, by show 8 + (5 + 11) + (200 * d + 502) ≤ 200 * d + 527; omega⟩ ⟨Nat.zero_le _, Nat.zero_le _⟩ hl.1 rfl (Nat.le_of_ble_eq_true rfl) dX7_start_72 (fun H locs h => ?_)
        refine lv_iinc (v := x4 + 1) (lv' := [(4, .int (x4 + 1)), (0, .ref x0), (1, .int x1), (2, .ref x2), (3, .int x3)]) C.1 C.2.1 dX7_start_75 hl (k := 4) rfl rfl (by decide) rfl (fun ls hl => ?_)
        refine lv_goto (tgt := 51) C.1 C.2.1 dX7_start_78 (by decide) ?_
        exact ih _ _ _ _ _ _ hM tx0 tx2 _ _ h ls (lv_sub hl [1, 2, 3, 4, 0] rfl)
def B_X7_start_17 (G : GG) (fw : Nat → Int32 → Int32 → MM → Option (Bool × MM)) : Nat → Nat → Int32 → Nat → Int32 → Int32 → MM → Option (Unit × MM)
  | 0, _, _, _, _, _, _ => none
  | fu + 1, x0, x1, x2, x3, x4, m =>
    if (gI m x2 12) ≤ x4 then
      B_X7_start_51 G fw FU x0 x1 x2 x3 0 m
    else
      if (gI m x0 4) = 0 then
        bd (M_X7_make G fw x0 x1 x2 x4 x3 m) fun _ m_8 =>
          B_X7_start_17 G fw fu x0 x1 x2 x3 (x4 + 1) m_8
      else
        B_X7_start_51 G fw FU x0 x1 x2 x3 0 m
set_option maxRecDepth 100000 in
set_option maxHeartbeats 4000000 in
theorem cB_X7_start_17 {p : Program} {l : Launch} {e : Env} {s : State} {mth : MethodId} {args : Array Value} {below : List Frame} {meth : Method} {c : Code} {E : EE} {G : GG} {fw : Nat → Int32 → Int32 → MM → Option (Bool × MM)} {d : Nat} {r9 : Unit} {m9 : MM} (hw : ∀ {x0 : Nat} {x1 x2 : Int32} {m m9 : MM} {r9 : Bool}, fw x0 x1 x2 m = some (r9, m9) → Ty E G x0 7 → Mc l E yX7_want cX7_want 4 (some .boolean) (rmX7_want d) [.ref x0, .int x1, .int x2] G m (cQi E (bz r9) G m9)) (C : Cx E G p s mth args meth c cX7_start RX7 "start" 5 none) : ∀ (fu : Nat) (x0 : Nat) (x1 : Int32) (x2 : Nat) (x3 : Int32) (x4 : Int32) (m : MM), B_X7_start_17 G fw fu x0 x1 x2 x3 x4 m = some (r9, m9) → (Ty E G x0 7) → (Ty E G x2 1) → ∀ (H : Heap) (locs : List Loc), Hp E G m s H locs → ∀ ls : Array Slot, lv_has ls 5 [(0, .ref x0), (1, .int x1), (2, .ref x2), (3, .int x3), (4, .int x4)] → W p l e (rmX7_start d) s mth args below meth c H locs 0 0 (MQ below (cQv E G m9) args s 0 0 (fun q => E.2.2.1 ≤ q)) (F0 mth 17 ls []) := by
  intro fu
  induction fu with
  | zero =>
    intro x0 x1 x2 x3 x4 m hM
    rw [B_X7_start_17] at hM
    cases hM
  | succ fu ih =>
    intro x0 x1 x2 x3 x4 m hM tx0 tx2 H locs h ls hl
    rw [B_X7_start_17] at hM
    refine lv_iload C.1 C.2.1 dX7_start_17 (lv_at hl 4 rfl) ?_
    refine lv_aload_n C.1 C.2.1 dX7_start_19 rfl (lv_at hl 2 rfl) ?_
    refine gt_1_12 C h tx2 fl_X7_52 dX7_start_20 ?_
    refine lv_icmp_ge (tgt := 48) C.1 C.2.1 dX7_start_23 (by decide) (fun q => ?_) (fun q => ?_)
    · have hM := ite_t q hM
      refine lv_iconst (v := 0) C.1 C.2.1 dX7_start_48 (by decide) ?_
      refine lv_istore (lv' := [(4, .int 0), (0, .ref x0), (1, .int x1), (2, .ref x2), (3, .int x3)]) C.1 C.2.1 dX7_start_49 hl (by decide) rfl (fun ls hl => ?_)
      exact cB_X7_start_51 hw C _ _ _ _ _ _ _ hM tx0 tx2 _ _ h ls (lv_sub hl [1, 2, 3, 4, 0] rfl)
    · have hM := ite_f q hM
      refine lv_aload_n C.1 C.2.1 dX7_start_26 rfl (lv_at hl 0 rfl) ?_
      refine gt_7_4 C h tx0 fl_X7_26 dX7_start_27 ?_
      refine lv_if_ne (tgt := 48) C.1 C.2.1 dX7_start_30 (by decide) (fun q => ?_) (fun q => ?_)
      · have hM := ite_f q hM
        refine lv_iconst (v := 0) C.1 C.2.1 dX7_start_48 (by decide) ?_
        refine lv_istore (lv' := [(4, .int 0), (0, .ref x0), (1, .int x1), (2, .ref x2), (3, .int x3)]) C.1 C.2.1 dX7_start_49 hl (by decide) rfl (fun ls hl => ?_)
        exact cB_X7_start_51 hw C _ _ _ _ _ _ _ hM tx0 tx2 _ _ h ls (lv_sub hl [1, 2, 3, 4, 0] rfl)
      · have hM := ite_t q hM
        refine lv_aload_n C.1 C.2.1 dX7_start_33 rfl (lv_at hl 0 rfl) ?_
        refine lv_iload_n C.1 C.2.1 dX7_start_34 rfl (lv_at hl 1 rfl) ?_
        refine lv_aload_n C.1 C.2.1 dX7_start_35 rfl (lv_at hl 2 rfl) ?_
        refine lv_iload C.1 C.2.1 dX7_start_36 (lv_at hl 4 rfl) ?_
        refine lv_iload_n C.1 C.2.1 dX7_start_38 rfl (lv_at hl 3 rfl) ?_
        obtain ⟨r_7, m_8, hc_7, hM⟩ := bd_some hM
        refine h_callVv C h (As := [.int x1, .ref x2, .int x4, .int x3]) (rest := []) m_8 (c_X7_make hw hc_7 tx0 tx2) 7 rfl (by decide) tx0 im_yX7_make se_yX7_make cy_X7_make rfl ml_X7_55 ⟨by show 6 * d + 24 + 1 ≤ 6 * d + 25; omega, by show 8 + (6 + 11) + (200 * d + 502) ≤ 200 * d + 527; omega⟩ ⟨Nat.zero_le _, Nat.zero_le _⟩ hl.1 rfl (Nat.le_of_ble_eq_true rfl) dX7_start_39 (fun H locs h => ?_)
        refine lv_iinc (v := x4 + 1) (lv' := [(4, .int (x4 + 1)), (0, .ref x0), (1, .int x1), (2, .ref x2), (3, .int x3)]) C.1 C.2.1 dX7_start_42 hl (k := 4) rfl rfl (by decide) rfl (fun ls hl => ?_)
        refine lv_goto (tgt := 17) C.1 C.2.1 dX7_start_45 (by decide) ?_
        exact ih _ _ _ _ _ _ hM tx0 tx2 _ _ h ls (lv_sub hl [1, 2, 3, 4, 0] rfl)
def M_X7_start (G : GG) (fw : Nat → Int32 → Int32 → MM → Option (Bool × MM)) (x0 : Nat) (x1 : Int32) (x2 : Nat) (x3 : Int32) (m : MM) : Option (Unit × MM) :=
  bd (M_X7_addTrace G x0 (1000 * x1) (sI m x2 17 3)) fun _ m_10 =>
    B_X7_start_17 G fw FU x0 x1 x2 x3 0 m_10
set_option maxRecDepth 100000 in
set_option maxHeartbeats 4000000 in
theorem cM_X7_start {p : Program} {l : Launch} {e : Env} {s : State} {mth : MethodId} {args : Array Value} {below : List Frame} {meth : Method} {c : Code} {E : EE} {G : GG} {fw : Nat → Int32 → Int32 → MM → Option (Bool × MM)} {d : Nat} {r9 : Unit} {m9 : MM} (hw : ∀ {x0 : Nat} {x1 x2 : Int32} {m m9 : MM} {r9 : Bool}, fw x0 x1 x2 m = some (r9, m9) → Ty E G x0 7 → Mc l E yX7_want cX7_want 4 (some .boolean) (rmX7_want d) [.ref x0, .int x1, .int x2] G m (cQi E (bz r9) G m9)) (C : Cx E G p s mth args meth c cX7_start RX7 "start" 5 none) {x0 : Nat} {x1 : Int32} {x2 : Nat} {x3 : Int32} {m : MM} (hM : M_X7_start G fw x0 x1 x2 x3 m = some (r9, m9)) (tx0 : Ty E G x0 7) (tx2 : Ty E G x2 1) : ∀ (H : Heap) (locs : List Loc), Hp E G m s H locs → ∀ ls : Array Slot, lv_has ls 5 [(0, .ref x0), (1, .int x1), (2, .ref x2), (3, .int x3)] → W p l e (rmX7_start d) s mth args below meth c H locs 0 0 (MQ below (cQv E G m9) args s 0 0 (fun q => E.2.2.1 ≤ q)) (F0 mth 0 ls []) := by
  intro H locs h ls hl
  unfold M_X7_start at hM
  refine lv_aload_n C.1 C.2.1 dX7_start_0 rfl (lv_at hl 2 rfl) ?_
  refine lv_iconst (v := 3) C.1 C.2.1 dX7_start_1 (by decide) ?_
  refine pt_1_17 C h tx2 fl_X7_35 dX7_start_2 (fun H locs h => ?_)
  refine lv_aload_n C.1 C.2.1 dX7_start_5 rfl (lv_at hl 0 rfl) ?_
  refine lv_sipush (v := 1000) C.1 C.2.1 dX7_start_6 (by decide) ?_
  refine lv_iload_n C.1 C.2.1 dX7_start_9 rfl (lv_at hl 1 rfl) ?_
  refine lv_imul C.1 C.2.1 dX7_start_10 ?_
  obtain ⟨r_9, m_10, hc_9, hM⟩ := bd_some hM
  refine h_callVv C h (As := [.int (1000 * x1)]) (rest := []) m_10 (c_X7_addTrace hc_9 tx0) 7 rfl (by decide) tx0 im_yX7_addTrace se_yX7_addTrace cy_X7_addTrace rfl ml_X7_48 ⟨by show 0 + 1 ≤ 6 * d + 25; omega, by show 8 + (2 + 11) + (0) ≤ 200 * d + 527; omega⟩ ⟨Nat.zero_le _, Nat.zero_le _⟩ hl.1 rfl (Nat.le_of_ble_eq_true rfl) dX7_start_11 (fun H locs h => ?_)
  refine lv_iconst (v := 0) C.1 C.2.1 dX7_start_14 (by decide) ?_
  refine lv_istore (lv' := [(4, .int 0), (0, .ref x0), (1, .int x1), (2, .ref x2), (3, .int x3)]) C.1 C.2.1 dX7_start_15 hl (by decide) rfl (fun ls hl => ?_)
  exact cB_X7_start_17 hw C _ _ _ _ _ _ _ hM tx0 tx2 _ _ h ls (lv_sub hl [1, 2, 3, 4, 0] rfl)
set_option maxRecDepth 100000 in
theorem c_X7_start {l : Launch} {E : EE} {G : GG} {fw : Nat → Int32 → Int32 → MM → Option (Bool × MM)} {d : Nat} (hw : ∀ {x0 : Nat} {x1 x2 : Int32} {m m9 : MM} {r9 : Bool}, fw x0 x1 x2 m = some (r9, m9) → Ty E G x0 7 → Mc l E yX7_want cX7_want 4 (some .boolean) (rmX7_want d) [.ref x0, .int x1, .int x2] G m (cQi E (bz r9) G m9)) {x0 : Nat} {x1 : Int32} {x2 : Nat} {x3 : Int32} {m m9 : MM} {r9 : Unit} (hM : M_X7_start G fw x0 x1 x2 x3 m = some (r9, m9)) (tx0 : Ty E G x0 7) (tx2 : Ty E G x2 1) : Mc l E yX7_start cX7_start 5 none (rmX7_start d) [.ref x0, .int x1, .ref x2, .int x3] G m (cQv E G m9) := M_of (by decide) (Nat.le_of_ble_eq_true rfl) (fun p e s mth below meth c C h ls hl => cM_X7_start hw C hM tx0 tx2 _ _ h ls hl)
def B_X7_want_50 (G : GG) (fw : Nat → Int32 → Int32 → MM → Option (Bool × MM)) (x0 : Nat) (m : MM) : Option (Bool × MM) :=
  if (gI m x0 4) = 0 then
    some (true, m)
  else
    some (false, m)
set_option maxRecDepth 100000 in
set_option maxHeartbeats 4000000 in
theorem cB_X7_want_50 {p : Program} {l : Launch} {e : Env} {s : State} {mth : MethodId} {args : Array Value} {below : List Frame} {meth : Method} {c : Code} {E : EE} {G : GG} {fw : Nat → Int32 → Int32 → MM → Option (Bool × MM)} {d : Nat} {r9 : Bool} {m9 : MM} (hw : ∀ {x0 : Nat} {x1 x2 : Int32} {m m9 : MM} {r9 : Bool}, fw x0 x1 x2 m = some (r9, m9) → Ty E G x0 7 → Mc l E yX7_want cX7_want 4 (some .boolean) (rmX7_want d) [.ref x0, .int x1, .int x2] G m (cQi E (bz r9) G m9)) (C : Cx E G p s mth args meth c cX7_want RX7 "want" 4 (some .boolean)) {x0 : Nat} {m : MM} (hM : B_X7_want_50 G fw x0 m = some (r9, m9)) (tx0 : Ty E G x0 7) : ∀ (H : Heap) (locs : List Loc), Hp E G m s H locs → ∀ ls : Array Slot, lv_has ls 4 [(0, .ref x0)] → W p l e (rmX7_want (d + 1)) s mth args below meth c H locs 0 0 (MQ below (cQi E (bz r9) G m9) args s 0 0 (fun q => E.2.2.1 ≤ q)) (F0 mth 50 ls []) := by
  intro H locs h ls hl
  unfold B_X7_want_50 at hM
  refine lv_aload_n C.1 C.2.1 dX7_want_50 rfl (lv_at hl 0 rfl) ?_
  refine gt_7_4 C h tx0 fl_X7_26 dX7_want_51 ?_
  refine lv_if_ne (tgt := 61) C.1 C.2.1 dX7_want_54 (by decide) (fun q => ?_) (fun q => ?_)
  · have hM := ite_f q hM
    refine lv_iconst (v := 0) C.1 C.2.1 dX7_want_61 (by decide) ?_
    obtain ⟨rfl, rfl⟩ := so_inj hM
    exact h_zret C h (bz_ok _).1 dX7_want_62
  · have hM := ite_t q hM
    refine lv_iconst (v := 1) C.1 C.2.1 dX7_want_57 (by decide) ?_
    refine lv_goto (tgt := 62) C.1 C.2.1 dX7_want_58 (by decide) ?_
    obtain ⟨rfl, rfl⟩ := so_inj hM
    exact h_zret C h (bz_ok _).1 dX7_want_62
def M_X7_want (G : GG) (fw : Nat → Int32 → Int32 → MM → Option (Bool × MM)) (x0 : Nat) (x1 : Int32) (x2 : Int32) (m : MM) : Option (Bool × MM) :=
  nb (gR m x0 5) fun b_1 =>
    bd (M_X6_enumAt G b_1 x1 m) fun r_2 m_3 =>
      el r_2 (
        bd (M_X7_failBy G x0 6 m_3) fun r_7 m_8 =>
          some (r_7, m_8)
      ) fun b_6 =>
        if (gI m_3 b_6 17) = 2 then
          bd (M_X7_failBy G x0 6 m_3) fun r_11 m_12 =>
            some (r_11, m_12)
        else
          if (gI m_3 b_6 17) = 0 then
            if 8 ≤ x2 then
              B_X7_want_50 G fw x0 m_3
            else
              bd (M_X7_start G fw x0 x1 b_6 (x2 + 1) m_3) fun _ m_10 =>
                B_X7_want_50 G fw x0 m_10
          else
            B_X7_want_50 G fw x0 m_3
set_option maxRecDepth 100000 in
set_option maxHeartbeats 4000000 in
theorem cM_X7_want {p : Program} {l : Launch} {e : Env} {s : State} {mth : MethodId} {args : Array Value} {below : List Frame} {meth : Method} {c : Code} {E : EE} {G : GG} {fw : Nat → Int32 → Int32 → MM → Option (Bool × MM)} {d : Nat} {r9 : Bool} {m9 : MM} (hw : ∀ {x0 : Nat} {x1 x2 : Int32} {m m9 : MM} {r9 : Bool}, fw x0 x1 x2 m = some (r9, m9) → Ty E G x0 7 → Mc l E yX7_want cX7_want 4 (some .boolean) (rmX7_want d) [.ref x0, .int x1, .int x2] G m (cQi E (bz r9) G m9)) (C : Cx E G p s mth args meth c cX7_want RX7 "want" 4 (some .boolean)) {x0 : Nat} {x1 : Int32} {x2 : Int32} {m : MM} (hM : M_X7_want G fw x0 x1 x2 m = some (r9, m9)) (tx0 : Ty E G x0 7) : ∀ (H : Heap) (locs : List Loc), Hp E G m s H locs → ∀ ls : Array Slot, lv_has ls 4 [(0, .ref x0), (1, .int x1), (2, .int x2)] → W p l e (rmX7_want (d + 1)) s mth args below meth c H locs 0 0 (MQ below (cQi E (bz r9) G m9) args s 0 0 (fun q => E.2.2.1 ≤ q)) (F0 mth 0 ls []) := by
  intro H locs h ls hl
  unfold M_X7_want at hM
  refine lv_aload_n C.1 C.2.1 dX7_want_0 rfl (lv_at hl 0 rfl) ?_
  refine gt_7_5 C h tx0 fl_X7_18 dX7_want_1 ?_
  obtain ⟨b_1, hb_1, hM⟩ := nb_some hM
  have tb_1 : Ty E G b_1 6 := (fun b hb => tyf h tx0 hb) _ hb_1
  refine st_ref hb_1 ?_
  refine lv_iload_n C.1 C.2.1 dX7_want_4 rfl (lv_at hl 1 rfl) ?_
  obtain ⟨r_2, m_3, hc_2, hM⟩ := bd_some hM
  refine h_callVq C h (As := [.int x1]) (rest := []) r_2 1 m_3 (c_X6_enumAt hc_2 tb_1) 6 rfl (by decide) tb_1 im_yX6_enumAt se_yX6_enumAt cy_X6_enumAt rfl ml_X7_29 ⟨by show 0 + 1 ≤ 6 * d + 26; omega, by show 8 + (2 + 11) + (0) ≤ 200 * d + 600; omega⟩ ⟨Nat.zero_le _, Nat.zero_le _⟩ hl.1 rfl (Nat.le_of_ble_eq_true rfl) dX7_want_5 (fun tq_2 H locs h => ?_)
  have tq_4 : ∀ b, r_2 = some b → Ty E G b 1 := tq_2
  refine h_astore_n (lv' := [(3, va_rf r_2), (0, .ref x0), (1, .int x1), (2, .int x2)]) C.1 C.2.1 dX7_want_8 rfl hl (by decide) rfl (fun ls hl => ?_)
  refine h_aload_n C.1 C.2.1 dX7_want_9 rfl (lv_at hl 0 rfl) ?_
  have tq_5 : ∀ b, r_2 = some b → Ty E G b 1 := tq_4
  refine h_ifnull (tgt := 21) (x := r_2) C.1 C.2.1 dX7_want_10 (by decide) (fun q => ?_) (fun b_6 hb_6 => ?_)
  · have hM := el_none q hM
    refine lv_aload_n C.1 C.2.1 dX7_want_21 rfl (lv_at hl 1 rfl) ?_
    refine lv_bipush (v := 6) C.1 C.2.1 dX7_want_22 (by decide) ?_
    obtain ⟨r_7, m_8, hc_7, hM⟩ := bd_some hM
    refine h_callVi C h (As := [.int 6]) (rest := []) (bz r_7) m_8 (c_X7_failBy hc_7 tx0) 7 rfl (by decide) tx0 im_yX7_failBy se_yX7_failBy cy_X7_failBy rfl ml_X7_40 ⟨by show 0 + 1 ≤ 6 * d + 26; omega, by show 8 + (2 + 11) + (0) ≤ 200 * d + 600; omega⟩ ⟨Nat.zero_le _, Nat.zero_le _⟩ hl.1 rfl (Nat.le_of_ble_eq_true rfl) dX7_want_24 (fun H locs h => ?_)
    obtain ⟨rfl, rfl⟩ := so_inj hM
    exact h_zret C h (bz_ok _).1 dX7_want_27
  · have hM := el_some hb_6 hM
    have tb_6 := tq_5 _ hb_6
    refine h_aload_n C.1 C.2.1 dX7_want_13 rfl (lv_at hl 0 rfl) ?_
    refine st_ref hb_6 ?_
    refine gt_1_17 C h tb_6 fl_X7_35 dX7_want_14 ?_
    refine lv_iconst (v := 2) C.1 C.2.1 dX7_want_17 (by decide) ?_
    refine lv_icmp_ne (tgt := 28) C.1 C.2.1 dX7_want_18 (by decide) (fun q => ?_) (fun q => ?_)
    · have hM := ite_f q hM
      refine h_aload_n C.1 C.2.1 dX7_want_28 rfl (lv_at hl 0 rfl) ?_
      refine st_ref hb_6 ?_
      refine gt_1_17 C h tb_6 fl_X7_35 dX7_want_29 ?_
      refine lv_if_ne (tgt := 50) C.1 C.2.1 dX7_want_32 (by decide) (fun q => ?_) (fun q => ?_)
      · have hM := ite_f q hM
        exact cB_X7_want_50 hw C hM tx0 _ _ h ls (lv_sub hl [1] rfl)
      · have hM := ite_t q hM
        refine lv_iload_n C.1 C.2.1 dX7_want_35 rfl (lv_at hl 3 rfl) ?_
        refine lv_bipush (v := 8) C.1 C.2.1 dX7_want_36 (by decide) ?_
        refine lv_icmp_ge (tgt := 50) C.1 C.2.1 dX7_want_38 (by decide) (fun q => ?_) (fun q => ?_)
        · have hM := ite_t q hM
          exact cB_X7_want_50 hw C hM tx0 _ _ h ls (lv_sub hl [1] rfl)
        · have hM := ite_f q hM
          refine lv_aload_n C.1 C.2.1 dX7_want_41 rfl (lv_at hl 1 rfl) ?_
          refine lv_iload_n C.1 C.2.1 dX7_want_42 rfl (lv_at hl 2 rfl) ?_
          refine h_aload_n C.1 C.2.1 dX7_want_43 rfl (lv_at hl 0 rfl) ?_
          refine st_ref hb_6 ?_
          refine lv_iload_n C.1 C.2.1 dX7_want_44 rfl (lv_at hl 3 rfl) ?_
          refine lv_iconst (v := 1) C.1 C.2.1 dX7_want_45 (by decide) ?_
          refine lv_iadd C.1 C.2.1 dX7_want_46 ?_
          obtain ⟨r_9, m_10, hc_9, hM⟩ := bd_some hM
          refine h_callVv C h (As := [.int x1, .ref b_6, .int (x2 + 1)]) (rest := []) m_10 (c_X7_start hw hc_9 tx0 tb_6) 7 rfl (by decide) tx0 im_yX7_start se_yX7_start cy_X7_start rfl ml_X7_44 ⟨by show 6 * d + 25 + 1 ≤ 6 * d + 26; omega, by show 8 + (5 + 11) + (200 * d + 527) ≤ 200 * d + 600; omega⟩ ⟨Nat.zero_le _, Nat.zero_le _⟩ hl.1 rfl (Nat.le_of_ble_eq_true rfl) dX7_want_47 (fun H locs h => ?_)
          exact cB_X7_want_50 hw C hM tx0 _ _ h ls (lv_sub hl [1] rfl)
    · have hM := ite_t q hM
      refine lv_aload_n C.1 C.2.1 dX7_want_21 rfl (lv_at hl 1 rfl) ?_
      refine lv_bipush (v := 6) C.1 C.2.1 dX7_want_22 (by decide) ?_
      obtain ⟨r_11, m_12, hc_11, hM⟩ := bd_some hM
      refine h_callVi C h (As := [.int 6]) (rest := []) (bz r_11) m_12 (c_X7_failBy hc_11 tx0) 7 rfl (by decide) tx0 im_yX7_failBy se_yX7_failBy cy_X7_failBy rfl ml_X7_40 ⟨by show 0 + 1 ≤ 6 * d + 26; omega, by show 8 + (2 + 11) + (0) ≤ 200 * d + 600; omega⟩ ⟨Nat.zero_le _, Nat.zero_le _⟩ hl.1 rfl (Nat.le_of_ble_eq_true rfl) dX7_want_24 (fun H locs h => ?_)
      obtain ⟨rfl, rfl⟩ := so_inj hM
      exact h_zret C h (bz_ok _).1 dX7_want_27
set_option maxRecDepth 100000 in
theorem c_X7_want {l : Launch} {E : EE} {G : GG} {fw : Nat → Int32 → Int32 → MM → Option (Bool × MM)} {d : Nat} (hw : ∀ {x0 : Nat} {x1 x2 : Int32} {m m9 : MM} {r9 : Bool}, fw x0 x1 x2 m = some (r9, m9) → Ty E G x0 7 → Mc l E yX7_want cX7_want 4 (some .boolean) (rmX7_want d) [.ref x0, .int x1, .int x2] G m (cQi E (bz r9) G m9)) {x0 : Nat} {x1 : Int32} {x2 : Int32} {m m9 : MM} {r9 : Bool} (hM : M_X7_want G fw x0 x1 x2 m = some (r9, m9)) (tx0 : Ty E G x0 7) : Mc l E yX7_want cX7_want 4 (some .boolean) (rmX7_want (d + 1)) [.ref x0, .int x1, .int x2] G m (cQi E (bz r9) G m9) := M_of (by decide) (Nat.le_of_ble_eq_true rfl) (fun p e s mth below meth c C h ls hl => cM_X7_want hw C hM tx0 _ _ h ls hl)
def M_X7_wantR (G : GG) : Nat → Nat → Int32 → Int32 → MM → Option (Bool × MM)
  | 0, _, _, _, _ => none
  | d + 1, x0, x1, x2, m => M_X7_want G (M_X7_wantR G d) x0 x1 x2 m
theorem c_X7_wantR {l : Launch} {E : EE} {G : GG} : ∀ (d : Nat) {x0 : Nat} {x1 x2 : Int32} {m m9 : MM} {r9 : Bool}, M_X7_wantR G d x0 x1 x2 m = some (r9, m9) → Ty E G x0 7 → Mc l E yX7_want cX7_want 4 (some .boolean) (rmX7_want d) [.ref x0, .int x1, .int x2] G m (cQi E (bz r9) G m9) := by
  intro d
  induction d with
  | zero =>
    intro x0 x1 x2 m m9 r9 hM
    cases hM
  | succ d ih =>
    intro x0 x1 x2 m m9 r9 hM t0
    exact c_X7_want (d := d) (fun h t => ih h t) hM t0
