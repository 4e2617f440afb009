abbrev rmX8_append : Room := { frames := 0, cells := 0, slots := 0, locals := 0 }
def B_X8_append_3 (G : GG) : Nat → Nat → Int32 → Int32 → MM → Option (Unit × MM)
  | 0, _, _, _, _ => none
  | fu + 1, x0, x1, x2, m =>
    if x2 < 0 then
      some ((), m)
    else
      nb (gR m x0 0) fun b_1 =>
        if (nI (G.2.2 b_1)) ≤ (gI m x0 1) then
          B_X8_append_3 G fu x0 x1 (x2 + (-8)) m
        else
          ib (gI m x0 1) (G.2.2 b_1) <|
            B_X8_append_3 G fu x0 x1 (x2 + (-8)) (sI (sI m b_1 ((gI m x0 1).toNatClampNeg) (vp_nar .byte ((x1 >>> (x2 &&& 31)).toInt8.toInt32))) x0 1 ((gI (sI m b_1 ((gI m x0 1).toNatClampNeg) (vp_nar .byte ((x1 >>> (x2 &&& 31)).toInt8.toInt32))) x0 1) + 1))
set_option maxRecDepth 100000 in
set_option maxHeartbeats 4000000 in
theorem cB_X8_append_3 {p : Program} {l : Launch} {e : Env} {s : State} {mth : MethodId} {args : Array Value} {below : List Frame} {meth : Method} {c : Code} {E : EE} {G : GG} {r9 : Unit} {m9 : MM} (C : Cx E G p s mth args meth c cX8_append RX8 "append" 3 none) : ∀ (fu : Nat) (x0 : Nat) (x1 : Int32) (x2 : Int32) (m : MM), B_X8_append_3 G fu x0 x1 x2 m = some (r9, m9) → (Ty E G x0 8) → ∀ (H : Heap) (locs : List Loc), Hp E G m s H locs → ∀ ls : Array Slot, lv_has ls 3 [(0, .ref x0), (1, .int x1), (2, .int x2)] → W p l e rmX8_append s mth args below meth c H locs 0 0 (MQ below (cQv E G m9) args s 0 0 (fun q => E.2.2.1 ≤ q)) (F0 mth 3 ls []) := by
  intro fu
  induction fu with
  | zero =>
    intro x0 x1 x2 m hM
    rw [B_X8_append_3] at hM
    cases hM
  | succ fu ih =>
    intro x0 x1 x2 m hM tx0 H locs h ls hl
    rw [B_X8_append_3] at hM
    refine lv_iload_n C.1 C.2.1 dX8_append_3 rfl (lv_at hl 2 rfl) ?_
    refine lv_if_lt (tgt := 48) C.1 C.2.1 dX8_append_4 (by decide) (fun q => ?_) (fun q => ?_)
    · have hM := ite_t q hM
      obtain ⟨rfl, rfl⟩ := so_inj hM
      exact h_vret C h dX8_append_48
    · have hM := ite_f q hM
      refine lv_aload_n C.1 C.2.1 dX8_append_7 rfl (lv_at hl 0 rfl) ?_
      refine gt_8_1 C h tx0 fl_X8_15 dX8_append_8 ?_
      refine lv_aload_n C.1 C.2.1 dX8_append_11 rfl (lv_at hl 0 rfl) ?_
      refine gt_8_0 C h tx0 fl_X8_9 dX8_append_12 ?_
      obtain ⟨b_1, hb_1, hM⟩ := nb_some hM
      have tb_1 : Ty E G b_1 13 := (fun b hb => tyf h tx0 hb) _ hb_1
      refine st_ref hb_1 ?_
      refine h_alen C h 13 (by decide) (by decide) tb_1 dX8_append_15 ?_
      refine lv_icmp_ge (tgt := 42) C.1 C.2.1 dX8_append_16 (by decide) (fun q => ?_) (fun q => ?_)
      · have hM := ite_t q hM
        refine lv_iinc (v := x2 + (-8)) (lv' := [(2, .int (x2 + (-8))), (0, .ref x0), (1, .int x1)]) C.1 C.2.1 dX8_append_42 hl (k := 2) rfl rfl (by decide) rfl (fun ls hl => ?_)
        refine lv_goto (tgt := 3) C.1 C.2.1 dX8_append_45 (by decide) ?_
        exact ih _ _ _ _ hM tx0 _ _ h ls (lv_sub hl [1, 2, 0] rfl)
      · have hM := ite_f q hM
        refine lv_aload_n C.1 C.2.1 dX8_append_19 rfl (lv_at hl 0 rfl) ?_
        refine gt_8_0 C h tx0 fl_X8_9 dX8_append_20 ?_
        refine st_ref hb_1 ?_
        refine lv_aload_n C.1 C.2.1 dX8_append_23 rfl (lv_at hl 0 rfl) ?_
        refine gt_8_1 C h tx0 fl_X8_15 dX8_append_24 ?_
        refine lv_iload_n C.1 C.2.1 dX8_append_27 rfl (lv_at hl 1 rfl) ?_
        refine lv_iload_n C.1 C.2.1 dX8_append_28 rfl (lv_at hl 2 rfl) ?_
        refine lv_ishr C.1 C.2.1 dX8_append_29 ?_
        refine lv_i2b (v := (x1 >>> (x2 &&& 31)).toInt8.toInt32) C.1 C.2.1 dX8_append_30 rfl ?_
        obtain ⟨hi, hM⟩ := ib_some hM
        refine h_bast C h tb_1 hi dX8_append_31 (fun H locs h => ?_)
        refine lv_aload_n C.1 C.2.1 dX8_append_32 rfl (lv_at hl 0 rfl) ?_
        refine lv_dup C.1 C.2.1 dX8_append_33 rfl ?_
        refine gt_8_1 C h tx0 fl_X8_15 dX8_append_34 ?_
        refine lv_iconst (v := 1) C.1 C.2.1 dX8_append_37 (by decide) ?_
        refine lv_iadd C.1 C.2.1 dX8_append_38 ?_
        refine pt_8_1 C h tx0 fl_X8_15 dX8_append_39 (fun H locs h => ?_)
        refine lv_iinc (v := x2 + (-8)) (lv' := [(2, .int (x2 + (-8))), (0, .ref x0), (1, .int x1)]) C.1 C.2.1 dX8_append_42 hl (k := 2) rfl rfl (by decide) rfl (fun ls hl => ?_)
        refine lv_goto (tgt := 3) C.1 C.2.1 dX8_append_45 (by decide) ?_
        exact ih _ _ _ _ hM tx0 _ _ h ls (lv_sub hl [1, 2, 0] rfl)
def M_X8_append (G : GG) (x0 : Nat) (x1 : Int32) (m : MM) : Option (Unit × MM) :=
  B_X8_append_3 G FU x0 x1 24 m
set_option maxRecDepth 100000 in
set_option maxHeartbeats 4000000 in
theorem cM_X8_append {p : Program} {l : Launch} {e : Env} {s : State} {mth : MethodId} {args : Array Value} {below : List Frame} {meth : Method} {c : Code} {E : EE} {G : GG} {r9 : Unit} {m9 : MM} (C : Cx E G p s mth args meth c cX8_append RX8 "append" 3 none) {x0 : Nat} {x1 : Int32} {m : MM} (hM : M_X8_append G x0 x1 m = some (r9, m9)) (tx0 : Ty E G x0 8) : ∀ (H : Heap) (locs : List Loc), Hp E G m s H locs → ∀ ls : Array Slot, lv_has ls 3 [(0, .ref x0), (1, .int x1)] → W p l e rmX8_append s mth args below meth c H locs 0 0 (MQ below (cQv E G m9) args s 0 0 (fun q => E.2.2.1 ≤ q)) (F0 mth 0 ls []) := by
  intro H locs h ls hl
  unfold M_X8_append at hM
  refine lv_bipush (v := 24) C.1 C.2.1 dX8_append_0 (by decide) ?_
  refine lv_istore_n (lv' := [(2, .int 24), (0, .ref x0), (1, .int x1)]) C.1 C.2.1 dX8_append_2 rfl hl (by decide) rfl (fun ls hl => ?_)
  exact cB_X8_append_3 C _ _ _ _ _ hM tx0 _ _ h ls (lv_sub hl [1, 2, 0] rfl)
theorem cy_X8_append : Cy yX8_append cX8_append 3 none 1 := ⟨cd_yX8_append, ii_X8, by decide, by decide, by decide +kernel⟩
set_option maxRecDepth 100000 in
theorem c_X8_append {l : Launch} {E : EE} {G : GG} {x0 : Nat} {x1 : Int32} {m m9 : MM} {r9 : Unit} (hM : M_X8_append G x0 x1 m = some (r9, m9)) (tx0 : Ty E G x0 8) : Mc l E yX8_append cX8_append 3 none rmX8_append [.ref x0, .int x1] G m (cQv E G m9) := M_of (by decide) (Nat.le_of_ble_eq_true rfl) (fun p e s mth below meth c C h ls hl => cM_X8_append C hM tx0 _ _ h ls hl)
abbrev rmX8_byteAt : Room := { frames := 0, cells := 0, slots := 0, locals := 0 }
def M_X8_byteAt (G : GG) (x0 : Nat) (x1 : Int32) (m : MM) : Option (Int32 × MM) :=
  if x1 < 0 then
    some ((-1), m)
  else
    if (gI m x0 1) ≤ x1 then
      some ((-1), m)
    else
      nb (gR m x0 0) fun b_1 =>
        if x1 < (nI (G.2.2 b_1)) then
          ib x1 (G.2.2 b_1) <|
            some ((gI m b_1 x1.toNatClampNeg) &&& 255, m)
        else
          some ((-1), m)
set_option maxRecDepth 100000 in
set_option maxHeartbeats 4000000 in
theorem cM_X8_byteAt {p : Program} {l : Launch} {e : Env} {s : State} {mth : MethodId} {args : Array Value} {below : List Frame} {meth : Method} {c : Code} {E : EE} {G : GG} {r9 : Int32} {m9 : MM} (C : Cx E G p s mth args meth c cX8_byteAt RX8 "byteAt" 2 (some .int)) {x0 : Nat} {x1 : Int32} {m : MM} (hM : M_X8_byteAt G x0 x1 m = some (r9, m9)) (tx0 : Ty E G x0 8) : ∀ (H : Heap) (locs : List Loc), Hp E G m s H locs → ∀ ls : Array Slot, lv_has ls 2 [(0, .ref x0), (1, .int x1)] → W p l e rmX8_byteAt s mth args below meth c H locs 0 0 (MQ below (cQi E r9 G m9) args s 0 0 (fun q => E.2.2.1 ≤ q)) (F0 mth 0 ls []) := by
  intro H locs h ls hl
  unfold M_X8_byteAt at hM
  refine lv_iload_n C.1 C.2.1 dX8_byteAt_0 rfl (lv_at hl 1 rfl) ?_
  refine lv_if_lt (tgt := 21) C.1 C.2.1 dX8_byteAt_1 (by decide) (fun q => ?_) (fun q => ?_)
  · have hM := ite_t q hM
    refine lv_iconst (v := (-1)) C.1 C.2.1 dX8_byteAt_21 (by decide) ?_
    refine lv_goto (tgt := 35) C.1 C.2.1 dX8_byteAt_22 (by decide) ?_
    obtain ⟨rfl, rfl⟩ := so_inj hM
    exact h_iret C h dX8_byteAt_35
  · have hM := ite_f q hM
    refine lv_iload_n C.1 C.2.1 dX8_byteAt_4 rfl (lv_at hl 1 rfl) ?_
    refine lv_aload_n C.1 C.2.1 dX8_byteAt_5 rfl (lv_at hl 0 rfl) ?_
    refine gt_8_1 C h tx0 fl_X8_15 dX8_byteAt_6 ?_
    refine lv_icmp_ge (tgt := 21) C.1 C.2.1 dX8_byteAt_9 (by decide) (fun q => ?_) (fun q => ?_)
    · have hM := ite_t q hM
      refine lv_iconst (v := (-1)) C.1 C.2.1 dX8_byteAt_21 (by decide) ?_
      refine lv_goto (tgt := 35) C.1 C.2.1 dX8_byteAt_22 (by decide) ?_
      obtain ⟨rfl, rfl⟩ := so_inj hM
      exact h_iret C h dX8_byteAt_35
    · have hM := ite_f q hM
      refine lv_iload_n C.1 C.2.1 dX8_byteAt_12 rfl (lv_at hl 1 rfl) ?_
      refine lv_aload_n C.1 C.2.1 dX8_byteAt_13 rfl (lv_at hl 0 rfl) ?_
      refine gt_8_0 C h tx0 fl_X8_9 dX8_byteAt_14 ?_
      obtain ⟨b_1, hb_1, hM⟩ := nb_some hM
      have tb_1 : Ty E G b_1 13 := (fun b hb => tyf h tx0 hb) _ hb_1
      refine st_ref hb_1 ?_
      refine h_alen C h 13 (by decide) (by decide) tb_1 dX8_byteAt_17 ?_
      refine lv_icmp_lt (tgt := 25) C.1 C.2.1 dX8_byteAt_18 (by decide) (fun q => ?_) (fun q => ?_)
      · have hM := ite_t q hM
        refine lv_aload_n C.1 C.2.1 dX8_byteAt_25 rfl (lv_at hl 0 rfl) ?_
        refine gt_8_0 C h tx0 fl_X8_9 dX8_byteAt_26 ?_
        refine st_ref hb_1 ?_
        refine lv_iload_n C.1 C.2.1 dX8_byteAt_29 rfl (lv_at hl 1 rfl) ?_
        obtain ⟨hi, hM⟩ := ib_some hM
        refine h_bald C h tb_1 hi dX8_byteAt_30 ?_
        refine lv_sipush (v := 255) C.1 C.2.1 dX8_byteAt_31 (by decide) ?_
        refine lv_iand C.1 C.2.1 dX8_byteAt_34 ?_
        obtain ⟨rfl, rfl⟩ := so_inj hM
        exact h_iret C h dX8_byteAt_35
      · have hM := ite_f q hM
        refine lv_iconst (v := (-1)) C.1 C.2.1 dX8_byteAt_21 (by decide) ?_
        refine lv_goto (tgt := 35) C.1 C.2.1 dX8_byteAt_22 (by decide) ?_
        obtain ⟨rfl, rfl⟩ := so_inj hM
        exact h_iret C h dX8_byteAt_35
theorem cy_X8_byteAt : Cy yX8_byteAt cX8_byteAt 2 (some .int) 1 := ⟨cd_yX8_byteAt, ii_X8, by decide, by decide, by decide +kernel⟩
set_option maxRecDepth 100000 in
theorem c_X8_byteAt {l : Launch} {E : EE} {G : GG} {x0 : Nat} {x1 : Int32} {m m9 : MM} {r9 : Int32} (hM : M_X8_byteAt G x0 x1 m = some (r9, m9)) (tx0 : Ty E G x0 8) : Mc l E yX8_byteAt cX8_byteAt 2 (some .int) rmX8_byteAt [.ref x0, .int x1] G m (cQi E r9 G m9) := M_of (by decide) (Nat.le_of_ble_eq_true rfl) (fun p e s mth below meth c C h ls hl => cM_X8_byteAt C hM tx0 _ _ h ls hl)
abbrev rmX8_isLetterAt : Room := { frames := 1, cells := 0, slots := 0, locals := 21 }
def B_X8_isLetterAt_18 (G : GG) (x2 : Int32) (m : MM) : Option (Bool × MM) :=
  if x2 < 65 then
    some (false, m)
  else
    if 90 < x2 then
      some (false, m)
    else
      some (true, m)
set_option maxRecDepth 100000 in
set_option maxHeartbeats 4000000 in
theorem cB_X8_isLetterAt_18 {p : Program} {l : Launch} {e : Env} {s : State} {mth : MethodId} {args : Array Value} {below : List Frame} {meth : Method} {c : Code} {E : EE} {G : GG} {r9 : Bool} {m9 : MM} (C : Cx E G p s mth args meth c cX8_isLetterAt RX8 "isLetterAt" 3 (some .boolean)) {x2 : Int32} {m : MM} (hM : B_X8_isLetterAt_18 G x2 m = some (r9, m9))  : ∀ (H : Heap) (locs : List Loc), Hp E G m s H locs → ∀ ls : Array Slot, lv_has ls 3 [(2, .int x2)] → W p l e rmX8_isLetterAt s mth args below meth c H locs 0 0 (MQ below (cQi E (bz r9) G m9) args s 0 0 (fun q => E.2.2.1 ≤ q)) (F0 mth 18 ls []) := by
  intro H locs h ls hl
  unfold B_X8_isLetterAt_18 at hM
  refine lv_iload_n C.1 C.2.1 dX8_isLetterAt_18 rfl (lv_at hl 0 rfl) ?_
  refine lv_bipush (v := 65) C.1 C.2.1 dX8_isLetterAt_19 (by decide) ?_
  refine lv_icmp_lt (tgt := 34) C.1 C.2.1 dX8_isLetterAt_21 (by decide) (fun q => ?_) (fun q => ?_)
  · have hM := ite_t q hM
    refine lv_iconst (v := 0) C.1 C.2.1 dX8_isLetterAt_34 (by decide) ?_
    obtain ⟨rfl, rfl⟩ := so_inj hM
    exact h_zret C h (bz_ok _).1 dX8_isLetterAt_35
  · have hM := ite_f q hM
    refine lv_iload_n C.1 C.2.1 dX8_isLetterAt_24 rfl (lv_at hl 0 rfl) ?_
    refine lv_bipush (v := 90) C.1 C.2.1 dX8_isLetterAt_25 (by decide) ?_
    refine lv_icmp_gt (tgt := 34) C.1 C.2.1 dX8_isLetterAt_27 (by decide) (fun q => ?_) (fun q => ?_)
    · have hM := ite_t q hM
      refine lv_iconst (v := 0) C.1 C.2.1 dX8_isLetterAt_34 (by decide) ?_
      obtain ⟨rfl, rfl⟩ := so_inj hM
      exact h_zret C h (bz_ok _).1 dX8_isLetterAt_35
    · have hM := ite_f q hM
      refine lv_iconst (v := 1) C.1 C.2.1 dX8_isLetterAt_30 (by decide) ?_
      refine lv_goto (tgt := 35) C.1 C.2.1 dX8_isLetterAt_31 (by decide) ?_
      obtain ⟨rfl, rfl⟩ := so_inj hM
      exact h_zret C h (bz_ok _).1 dX8_isLetterAt_35
def M_X8_isLetterAt (G : GG) (x0 : Nat) (x1 : Int32) (m : MM) : Option (Bool × MM) :=
  bd (M_X8_byteAt G x0 x1 m) fun r_1 m_2 =>
    if r_1 < 97 then
      B_X8_isLetterAt_18 G r_1 m_2
    else
      if r_1 ≤ 122 then
        some (true, m_2)
      else
        B_X8_isLetterAt_18 G r_1 m_2
set_option maxRecDepth 100000 in
set_option maxHeartbeats 4000000 in
theorem cM_X8_isLetterAt {p : Program} {l : Launch} {e : Env} {s : State} {mth : MethodId} {args : Array Value} {below : List Frame} {meth : Method} {c : Code} {E : EE} {G : GG} {r9 : Bool} {m9 : MM} (C : Cx E G p s mth args meth c cX8_isLetterAt RX8 "isLetterAt" 3 (some .boolean)) {x0 : Nat} {x1 : Int32} {m : MM} (hM : M_X8_isLetterAt G x0 x1 m = some (r9, m9)) (tx0 : Ty E G x0 8) : ∀ (H : Heap) (locs : List Loc), Hp E G m s H locs → ∀ ls : Array Slot, lv_has ls 3 [(0, .ref x0), (1, .int x1)] → W p l e rmX8_isLetterAt s mth args below meth c H locs 0 0 (MQ below (cQi E (bz r9) G m9) args s 0 0 (fun q => E.2.2.1 ≤ q)) (F0 mth 0 ls []) := by
  intro H locs h ls hl
  unfold M_X8_isLetterAt at hM
  refine lv_aload_n C.1 C.2.1 dX8_isLetterAt_0 rfl (lv_at hl 0 rfl) ?_
  refine lv_iload_n C.1 C.2.1 dX8_isLetterAt_1 rfl (lv_at hl 1 rfl) ?_
  obtain ⟨r_1, m_2, hc_1, hM⟩ := bd_some hM
  refine h_callVi C h (As := [.int x1]) (rest := []) r_1 m_2 (c_X8_byteAt hc_1 tx0) 8 rfl (by decide) tx0 im_yX8_byteAt se_yX8_byteAt cy_X8_byteAt rfl ml_X8_19 ⟨by decide, by decide⟩ ⟨Nat.zero_le _, Nat.zero_le _⟩ hl.1 rfl (Nat.le_of_ble_eq_true rfl) dX8_isLetterAt_2 (fun H locs h => ?_)
  refine lv_istore_n (lv' := [(2, .int r_1), (0, .ref x0), (1, .int x1)]) C.1 C.2.1 dX8_isLetterAt_5 rfl hl (by decide) rfl (fun ls hl => ?_)
  refine lv_iload_n C.1 C.2.1 dX8_isLetterAt_6 rfl (lv_at hl 0 rfl) ?_
  refine lv_bipush (v := 97) C.1 C.2.1 dX8_isLetterAt_7 (by decide) ?_
  refine lv_icmp_lt (tgt := 18) C.1 C.2.1 dX8_isLetterAt_9 (by decide) (fun q => ?_) (fun q => ?_)
  · have hM := ite_t q hM
    exact cB_X8_isLetterAt_18 C hM  _ _ h ls (lv_sub hl [0] rfl)
  · have hM := ite_f q hM
    refine lv_iload_n C.1 C.2.1 dX8_isLetterAt_12 rfl (lv_at hl 0 rfl) ?_
    refine lv_bipush (v := 122) C.1 C.2.1 dX8_isLetterAt_13 (by decide) ?_
    refine lv_icmp_le (tgt := 30) C.1 C.2.1 dX8_isLetterAt_15 (by decide) (fun q => ?_) (fun q => ?_)
    · have hM := ite_t q hM
      refine lv_iconst (v := 1) C.1 C.2.1 dX8_isLetterAt_30 (by decide) ?_
      refine lv_goto (tgt := 35) C.1 C.2.1 dX8_isLetterAt_31 (by decide) ?_
      obtain ⟨rfl, rfl⟩ := so_inj hM
      exact h_zret C h (bz_ok _).1 dX8_isLetterAt_35
    · have hM := ite_f q hM
      exact cB_X8_isLetterAt_18 C hM  _ _ h ls (lv_sub hl [0] rfl)
theorem cy_X8_isLetterAt : Cy yX8_isLetterAt cX8_isLetterAt 3 (some .boolean) 1 := ⟨cd_yX8_isLetterAt, ii_X8, by decide, by decide, by decide +kernel⟩
set_option maxRecDepth 100000 in
theorem c_X8_isLetterAt {l : Launch} {E : EE} {G : GG} {x0 : Nat} {x1 : Int32} {m m9 : MM} {r9 : Bool} (hM : M_X8_isLetterAt G x0 x1 m = some (r9, m9)) (tx0 : Ty E G x0 8) : Mc l E yX8_isLetterAt cX8_isLetterAt 3 (some .boolean) rmX8_isLetterAt [.ref x0, .int x1] G m (cQi E (bz r9) G m9) := M_of (by decide) (Nat.le_of_ble_eq_true rfl) (fun p e s mth below meth c C h ls hl => cM_X8_isLetterAt C hM tx0 _ _ h ls hl)
abbrev rmX8_isDigitAt : Room := { frames := 1, cells := 0, slots := 0, locals := 21 }
def M_X8_isDigitAt (G : GG) (x0 : Nat) (x1 : Int32) (m : MM) : Option (Bool × MM) :=
  bd (M_X8_byteAt G x0 x1 m) fun r_1 m_2 =>
    if r_1 < 48 then
      some (false, m_2)
    else
      if 57 < r_1 then
        some (false, m_2)
      else
        some (true, m_2)
set_option maxRecDepth 100000 in
set_option maxHeartbeats 4000000 in
theorem cM_X8_isDigitAt {p : Program} {l : Launch} {e : Env} {s : State} {mth : MethodId} {args : Array Value} {below : List Frame} {meth : Method} {c : Code} {E : EE} {G : GG} {r9 : Bool} {m9 : MM} (C : Cx E G p s mth args meth c cX8_isDigitAt RX8 "isDigitAt" 3 (some .boolean)) {x0 : Nat} {x1 : Int32} {m : MM} (hM : M_X8_isDigitAt G x0 x1 m = some (r9, m9)) (tx0 : Ty E G x0 8) : ∀ (H : Heap) (locs : List Loc), Hp E G m s H locs → ∀ ls : Array Slot, lv_has ls 3 [(0, .ref x0), (1, .int x1)] → W p l e rmX8_isDigitAt s mth args below meth c H locs 0 0 (MQ below (cQi E (bz r9) G m9) args s 0 0 (fun q => E.2.2.1 ≤ q)) (F0 mth 0 ls []) := by
  intro H locs h ls hl
  unfold M_X8_isDigitAt at hM
  refine lv_aload_n C.1 C.2.1 dX8_isDigitAt_0 rfl (lv_at hl 0 rfl) ?_
  refine lv_iload_n C.1 C.2.1 dX8_isDigitAt_1 rfl (lv_at hl 1 rfl) ?_
  obtain ⟨r_1, m_2, hc_1, hM⟩ := bd_some hM
  refine h_callVi C h (As := [.int x1]) (rest := []) r_1 m_2 (c_X8_byteAt hc_1 tx0) 8 rfl (by decide) tx0 im_yX8_byteAt se_yX8_byteAt cy_X8_byteAt rfl ml_X8_19 ⟨by decide, by decide⟩ ⟨Nat.zero_le _, Nat.zero_le _⟩ hl.1 rfl (Nat.le_of_ble_eq_true rfl) dX8_isDigitAt_2 (fun H locs h => ?_)
  refine lv_istore_n (lv' := [(2, .int r_1), (0, .ref x0), (1, .int x1)]) C.1 C.2.1 dX8_isDigitAt_5 rfl hl (by decide) rfl (fun ls hl => ?_)
  refine lv_iload_n C.1 C.2.1 dX8_isDigitAt_6 rfl (lv_at hl 0 rfl) ?_
  refine lv_bipush (v := 48) C.1 C.2.1 dX8_isDigitAt_7 (by decide) ?_
  refine lv_icmp_lt (tgt := 22) C.1 C.2.1 dX8_isDigitAt_9 (by decide) (fun q => ?_) (fun q => ?_)
  · have hM := ite_t q hM
    refine lv_iconst (v := 0) C.1 C.2.1 dX8_isDigitAt_22 (by decide) ?_
    obtain ⟨rfl, rfl⟩ := so_inj hM
    exact h_zret C h (bz_ok _).1 dX8_isDigitAt_23
  · have hM := ite_f q hM
    refine lv_iload_n C.1 C.2.1 dX8_isDigitAt_12 rfl (lv_at hl 0 rfl) ?_
    refine lv_bipush (v := 57) C.1 C.2.1 dX8_isDigitAt_13 (by decide) ?_
    refine lv_icmp_gt (tgt := 22) C.1 C.2.1 dX8_isDigitAt_15 (by decide) (fun q => ?_) (fun q => ?_)
    · have hM := ite_t q hM
      refine lv_iconst (v := 0) C.1 C.2.1 dX8_isDigitAt_22 (by decide) ?_
      obtain ⟨rfl, rfl⟩ := so_inj hM
      exact h_zret C h (bz_ok _).1 dX8_isDigitAt_23
    · have hM := ite_f q hM
      refine lv_iconst (v := 1) C.1 C.2.1 dX8_isDigitAt_18 (by decide) ?_
      refine lv_goto (tgt := 23) C.1 C.2.1 dX8_isDigitAt_19 (by decide) ?_
      obtain ⟨rfl, rfl⟩ := so_inj hM
      exact h_zret C h (bz_ok _).1 dX8_isDigitAt_23
theorem cy_X8_isDigitAt : Cy yX8_isDigitAt cX8_isDigitAt 3 (some .boolean) 1 := ⟨cd_yX8_isDigitAt, ii_X8, by decide, by decide, by decide +kernel⟩
set_option maxRecDepth 100000 in
theorem c_X8_isDigitAt {l : Launch} {E : EE} {G : GG} {x0 : Nat} {x1 : Int32} {m m9 : MM} {r9 : Bool} (hM : M_X8_isDigitAt G x0 x1 m = some (r9, m9)) (tx0 : Ty E G x0 8) : Mc l E yX8_isDigitAt cX8_isDigitAt 3 (some .boolean) rmX8_isDigitAt [.ref x0, .int x1] G m (cQi E (bz r9) G m9) := M_of (by decide) (Nat.le_of_ble_eq_true rfl) (fun p e s mth below meth c C h ls hl => cM_X8_isDigitAt C hM tx0 _ _ h ls hl)
abbrev rmX8_nameLength : Room := { frames := 2, cells := 0, slots := 0, locals := 43 }
def B_X8_nameLength_2 (G : GG) : Nat → Nat → Int32 → Int32 → MM → Option (Int32 × MM)
  | 0, _, _, _, _ => none
  | fu + 1, x0, x1, x2, m =>
    if (gI m x0 1) ≤ x2 then
      some (x2, m)
    else
      bd (M_X8_isLetterAt G x0 (x1 + x2) m) fun r_1 m_2 =>
        if r_1 = true then
          B_X8_nameLength_2 G fu x0 x1 (x2 + 1) m_2
        else
          bd (M_X8_isDigitAt G x0 (x1 + x2) m_2) fun r_3 m_4 =>
            if r_3 = true then
              B_X8_nameLength_2 G fu x0 x1 (x2 + 1) m_4
            else
              some (x2, m_4)
set_option maxRecDepth 100000 in
set_option maxHeartbeats 4000000 in
theorem cB_X8_nameLength_2 {p : Program} {l : Launch} {e : Env} {s : State} {mth : MethodId} {args : Array Value} {below : List Frame} {meth : Method} {c : Code} {E : EE} {G : GG} {r9 : Int32} {m9 : MM} (C : Cx E G p s mth args meth c cX8_nameLength RX8 "nameLength" 3 (some .int)) : ∀ (fu : Nat) (x0 : Nat) (x1 : Int32) (x2 : Int32) (m : MM), B_X8_nameLength_2 G fu x0 x1 x2 m = some (r9, m9) → (Ty E G x0 8) → ∀ (H : Heap) (locs : List Loc), Hp E G m s H locs → ∀ ls : Array Slot, lv_has ls 3 [(0, .ref x0), (1, .int x1), (2, .int x2)] → W p l e rmX8_nameLength s mth args below meth c H locs 0 0 (MQ below (cQi E r9 G m9) args s 0 0 (fun q => E.2.2.1 ≤ q)) (F0 mth 2 ls []) := by
  intro fu
  induction fu with
  | zero =>
    intro x0 x1 x2 m hM
    rw [B_X8_nameLength_2] at hM
    cases hM
  | succ fu ih =>
    intro x0 x1 x2 m hM tx0 H locs h ls hl
    rw [B_X8_nameLength_2] at hM
    refine lv_iload_n C.1 C.2.1 dX8_nameLength_2 rfl (lv_at hl 2 rfl) ?_
    refine lv_aload_n C.1 C.2.1 dX8_nameLength_3 rfl (lv_at hl 0 rfl) ?_
    refine gt_8_1 C h tx0 fl_X8_15 dX8_nameLength_4 ?_
    refine lv_icmp_ge (tgt := 36) C.1 C.2.1 dX8_nameLength_7 (by decide) (fun q => ?_) (fun q => ?_)
    · have hM := ite_t q hM
      refine lv_iload_n C.1 C.2.1 dX8_nameLength_36 rfl (lv_at hl 2 rfl) ?_
      obtain ⟨rfl, rfl⟩ := so_inj hM
      exact h_iret C h dX8_nameLength_37
    · have hM := ite_f q hM
      refine lv_aload_n C.1 C.2.1 dX8_nameLength_10 rfl (lv_at hl 0 rfl) ?_
      refine lv_iload_n C.1 C.2.1 dX8_nameLength_11 rfl (lv_at hl 1 rfl) ?_
      refine lv_iload_n C.1 C.2.1 dX8_nameLength_12 rfl (lv_at hl 2 rfl) ?_
      refine lv_iadd C.1 C.2.1 dX8_nameLength_13 ?_
      obtain ⟨r_1, m_2, hc_1, hM⟩ := bd_some hM
      refine h_callVi C h (As := [.int (x1 + x2)]) (rest := []) (bz r_1) m_2 (c_X8_isLetterAt hc_1 tx0) 8 rfl (by decide) tx0 im_yX8_isLetterAt se_yX8_isLetterAt cy_X8_isLetterAt rfl ml_X8_23 ⟨by decide, by decide⟩ ⟨Nat.zero_le _, Nat.zero_le _⟩ hl.1 rfl (Nat.le_of_ble_eq_true rfl) dX8_nameLength_14 (fun H locs h => ?_)
      refine h_ifnz (tgt := 30) C.1 C.2.1 dX8_nameLength_17 (by decide) (fun q => ?_) (fun q => ?_)
      · have hM := ite_t q hM
        refine lv_iinc (v := x2 + 1) (lv' := [(2, .int (x2 + 1)), (0, .ref x0), (1, .int x1)]) C.1 C.2.1 dX8_nameLength_30 hl (k := 2) rfl rfl (by decide) rfl (fun ls hl => ?_)
        refine lv_goto (tgt := 2) C.1 C.2.1 dX8_nameLength_33 (by decide) ?_
        exact ih _ _ _ _ hM tx0 _ _ h ls (lv_sub hl [1, 2, 0] rfl)
      · have hM := ite_f q hM
        refine lv_aload_n C.1 C.2.1 dX8_nameLength_20 rfl (lv_at hl 0 rfl) ?_
        refine lv_iload_n C.1 C.2.1 dX8_nameLength_21 rfl (lv_at hl 1 rfl) ?_
        refine lv_iload_n C.1 C.2.1 dX8_nameLength_22 rfl (lv_at hl 2 rfl) ?_
        refine lv_iadd C.1 C.2.1 dX8_nameLength_23 ?_
        obtain ⟨r_3, m_4, hc_3, hM⟩ := bd_some hM
        refine h_callVi C h (As := [.int (x1 + x2)]) (rest := []) (bz r_3) m_4 (c_X8_isDigitAt hc_3 tx0) 8 rfl (by decide) tx0 im_yX8_isDigitAt se_yX8_isDigitAt cy_X8_isDigitAt rfl ml_X8_27 ⟨by decide, by decide⟩ ⟨Nat.zero_le _, Nat.zero_le _⟩ hl.1 rfl (Nat.le_of_ble_eq_true rfl) dX8_nameLength_24 (fun H locs h => ?_)
        refine h_ifz (tgt := 36) C.1 C.2.1 dX8_nameLength_27 (by decide) (fun q => ?_) (fun q => ?_)
        · have hM := ite_f q hM
          refine lv_iload_n C.1 C.2.1 dX8_nameLength_36 rfl (lv_at hl 2 rfl) ?_
          obtain ⟨rfl, rfl⟩ := so_inj hM
          exact h_iret C h dX8_nameLength_37
        · have hM := ite_t q hM
          refine lv_iinc (v := x2 + 1) (lv' := [(2, .int (x2 + 1)), (0, .ref x0), (1, .int x1)]) C.1 C.2.1 dX8_nameLength_30 hl (k := 2) rfl rfl (by decide) rfl (fun ls hl => ?_)
          refine lv_goto (tgt := 2) C.1 C.2.1 dX8_nameLength_33 (by decide) ?_
          exact ih _ _ _ _ hM tx0 _ _ h ls (lv_sub hl [1, 2, 0] rfl)
def M_X8_nameLength (G : GG) (x0 : Nat) (x1 : Int32) (m : MM) : Option (Int32 × MM) :=
  B_X8_nameLength_2 G FU x0 x1 0 m
set_option maxRecDepth 100000 in
set_option maxHeartbeats 4000000 in
theorem cM_X8_nameLength {p : Program} {l : Launch} {e : Env} {s : State} {mth : MethodId} {args : Array Value} {below : List Frame} {meth : Method} {c : Code} {E : EE} {G : GG} {r9 : Int32} {m9 : MM} (C : Cx E G p s mth args meth c cX8_nameLength RX8 "nameLength" 3 (some .int)) {x0 : Nat} {x1 : Int32} {m : MM} (hM : M_X8_nameLength G x0 x1 m = some (r9, m9)) (tx0 : Ty E G x0 8) : ∀ (H : Heap) (locs : List Loc), Hp E G m s H locs → ∀ ls : Array Slot, lv_has ls 3 [(0, .ref x0), (1, .int x1)] → W p l e rmX8_nameLength s mth args below meth c H locs 0 0 (MQ below (cQi E r9 G m9) args s 0 0 (fun q => E.2.2.1 ≤ q)) (F0 mth 0 ls []) := by
  intro H locs h ls hl
  unfold M_X8_nameLength at hM
  refine lv_iconst (v := 0) C.1 C.2.1 dX8_nameLength_0 (by decide) ?_
  refine lv_istore_n (lv' := [(2, .int 0), (0, .ref x0), (1, .int x1)]) C.1 C.2.1 dX8_nameLength_1 rfl hl (by decide) rfl (fun ls hl => ?_)
  exact cB_X8_nameLength_2 C _ _ _ _ _ hM tx0 _ _ h ls (lv_sub hl [1, 2, 0] rfl)
theorem cy_X8_nameLength : Cy yX8_nameLength cX8_nameLength 3 (some .int) 1 := ⟨cd_yX8_nameLength, ii_X8, by decide, by decide, by decide +kernel⟩
set_option maxRecDepth 100000 in
theorem c_X8_nameLength {l : Launch} {E : EE} {G : GG} {x0 : Nat} {x1 : Int32} {m m9 : MM} {r9 : Int32} (hM : M_X8_nameLength G x0 x1 m = some (r9, m9)) (tx0 : Ty E G x0 8) : Mc l E yX8_nameLength cX8_nameLength 3 (some .int) rmX8_nameLength [.ref x0, .int x1] G m (cQi E r9 G m9) := M_of (by decide) (Nat.le_of_ble_eq_true rfl) (fun p e s mth below meth c C h ls hl => cM_X8_nameLength C hM tx0 _ _ h ls hl)
abbrev rmX8_numberLength : Room := { frames := 2, cells := 0, slots := 0, locals := 43 }
def B_X8_numberLength_2 (G : GG) : Nat → Nat → Int32 → Int32 → MM → Option (Int32 × MM)
  | 0, _, _, _, _ => none
  | fu + 1, x0, x1, x2, m =>
    if 9 ≤ x2 then
      some (x2, m)
    else
      bd (M_X8_isDigitAt G x0 (x1 + x2) m) fun r_1 m_2 =>
        if r_1 = true then
          B_X8_numberLength_2 G fu x0 x1 (x2 + 1) m_2
        else
          some (x2, m_2)
set_option maxRecDepth 100000 in
set_option maxHeartbeats 4000000 in
theorem cB_X8_numberLength_2 {p : Program} {l : Launch} {e : Env} {s : State} {mth : MethodId} {args : Array Value} {below : List Frame} {meth : Method} {c : Code} {E : EE} {G : GG} {r9 : Int32} {m9 : MM} (C : Cx E G p s mth args meth c cX8_numberLength RX8 "numberLength" 3 (some .int)) : ∀ (fu : Nat) (x0 : Nat) (x1 : Int32) (x2 : Int32) (m : MM), B_X8_numberLength_2 G fu x0 x1 x2 m = some (r9, m9) → (Ty E G x0 8) → ∀ (H : Heap) (locs : List Loc), Hp E G m s H locs → ∀ ls : Array Slot, lv_has ls 3 [(0, .ref x0), (1, .int x1), (2, .int x2)] → W p l e rmX8_numberLength s mth args below meth c H locs 0 0 (MQ below (cQi E r9 G m9) args s 0 0 (fun q => E.2.2.1 ≤ q)) (F0 mth 2 ls []) := by
  intro fu
  induction fu with
  | zero =>
    intro x0 x1 x2 m hM
    rw [B_X8_numberLength_2] at hM
    cases hM
  | succ fu ih =>
    intro x0 x1 x2 m hM tx0 H locs h ls hl
    rw [B_X8_numberLength_2] at hM
    refine lv_iload_n C.1 C.2.1 dX8_numberLength_2 rfl (lv_at hl 2 rfl) ?_
    refine lv_bipush (v := 9) C.1 C.2.1 dX8_numberLength_3 (by decide) ?_
    refine lv_icmp_ge (tgt := 24) C.1 C.2.1 dX8_numberLength_5 (by decide) (fun q => ?_) (fun q => ?_)
    · have hM := ite_t q hM
      refine lv_iload_n C.1 C.2.1 dX8_numberLength_24 rfl (lv_at hl 2 rfl) ?_
      obtain ⟨rfl, rfl⟩ := so_inj hM
      exact h_iret C h dX8_numberLength_25
    · have hM := ite_f q hM
      refine lv_aload_n C.1 C.2.1 dX8_numberLength_8 rfl (lv_at hl 0 rfl) ?_
      refine lv_iload_n C.1 C.2.1 dX8_numberLength_9 rfl (lv_at hl 1 rfl) ?_
      refine lv_iload_n C.1 C.2.1 dX8_numberLength_10 rfl (lv_at hl 2 rfl) ?_
      refine lv_iadd C.1 C.2.1 dX8_numberLength_11 ?_
      obtain ⟨r_1, m_2, hc_1, hM⟩ := bd_some hM
      refine h_callVi C h (As := [.int (x1 + x2)]) (rest := []) (bz r_1) m_2 (c_X8_isDigitAt hc_1 tx0) 8 rfl (by decide) tx0 im_yX8_isDigitAt se_yX8_isDigitAt cy_X8_isDigitAt rfl ml_X8_27 ⟨by decide, by decide⟩ ⟨Nat.zero_le _, Nat.zero_le _⟩ hl.1 rfl (Nat.le_of_ble_eq_true rfl) dX8_numberLength_12 (fun H locs h => ?_)
      refine h_ifz (tgt := 24) C.1 C.2.1 dX8_numberLength_15 (by decide) (fun q => ?_) (fun q => ?_)
      · have hM := ite_f q hM
        refine lv_iload_n C.1 C.2.1 dX8_numberLength_24 rfl (lv_at hl 2 rfl) ?_
        obtain ⟨rfl, rfl⟩ := so_inj hM
        exact h_iret C h dX8_numberLength_25
      · have hM := ite_t q hM
        refine lv_iinc (v := x2 + 1) (lv' := [(2, .int (x2 + 1)), (0, .ref x0), (1, .int x1)]) C.1 C.2.1 dX8_numberLength_18 hl (k := 2) rfl rfl (by decide) rfl (fun ls hl => ?_)
        refine lv_goto (tgt := 2) C.1 C.2.1 dX8_numberLength_21 (by decide) ?_
        exact ih _ _ _ _ hM tx0 _ _ h ls (lv_sub hl [1, 2, 0] rfl)
def M_X8_numberLength (G : GG) (x0 : Nat) (x1 : Int32) (m : MM) : Option (Int32 × MM) :=
  B_X8_numberLength_2 G FU x0 x1 0 m
set_option maxRecDepth 100000 in
set_option maxHeartbeats 4000000 in
theorem cM_X8_numberLength {p : Program} {l : Launch} {e : Env} {s : State} {mth : MethodId} {args : Array Value} {below : List Frame} {meth : Method} {c : Code} {E : EE} {G : GG} {r9 : Int32} {m9 : MM} (C : Cx E G p s mth args meth c cX8_numberLength RX8 "numberLength" 3 (some .int)) {x0 : Nat} {x1 : Int32} {m : MM} (hM : M_X8_numberLength G x0 x1 m = some (r9, m9)) (tx0 : Ty E G x0 8) : ∀ (H : Heap) (locs : List Loc), Hp E G m s H locs → ∀ ls : Array Slot, lv_has ls 3 [(0, .ref x0), (1, .int x1)] → W p l e rmX8_numberLength s mth args below meth c H locs 0 0 (MQ below (cQi E r9 G m9) args s 0 0 (fun q => E.2.2.1 ≤ q)) (F0 mth 0 ls []) := by
  intro H locs h ls hl
  unfold M_X8_numberLength at hM
  refine lv_iconst (v := 0) C.1 C.2.1 dX8_numberLength_0 (by decide) ?_
  refine lv_istore_n (lv' := [(2, .int 0), (0, .ref x0), (1, .int x1)]) C.1 C.2.1 dX8_numberLength_1 rfl hl (by decide) rfl (fun ls hl => ?_)
  exact cB_X8_numberLength_2 C _ _ _ _ _ hM tx0 _ _ h ls (lv_sub hl [1, 2, 0] rfl)
theorem cy_X8_numberLength : Cy yX8_numberLength cX8_numberLength 3 (some .int) 1 := ⟨cd_yX8_numberLength, ii_X8, by decide, by decide, by decide +kernel⟩
set_option maxRecDepth 100000 in
theorem c_X8_numberLength {l : Launch} {E : EE} {G : GG} {x0 : Nat} {x1 : Int32} {m m9 : MM} {r9 : Int32} (hM : M_X8_numberLength G x0 x1 m = some (r9, m9)) (tx0 : Ty E G x0 8) : Mc l E yX8_numberLength cX8_numberLength 3 (some .int) rmX8_numberLength [.ref x0, .int x1] G m (cQi E r9 G m9) := M_of (by decide) (Nat.le_of_ble_eq_true rfl) (fun p e s mth below meth c C h ls hl => cM_X8_numberLength C hM tx0 _ _ h ls hl)
abbrev rmX8_numberAt : Room := { frames := 3, cells := 0, slots := 0, locals := 65 }
def B_X8_numberAt_11 (G : GG) : Nat → Nat → Int32 → Int32 → Int32 → Int32 → MM → Option (Int32 × MM)
  | 0, _, _, _, _, _, _ => none
  | fu + 1, x0, x1, x2, x3, x4, m =>
    if x2 ≤ x4 then
      some (x3, m)
    else
      bd (M_X8_byteAt G x0 (x1 + x4) m) fun r_1 m_2 =>
        B_X8_numberAt_11 G fu x0 x1 x2 ((x3 * 10) + (r_1 - 48)) (x4 + 1) m_2
set_option maxRecDepth 100000 in
set_option maxHeartbeats 4000000 in
theorem cB_X8_numberAt_11 {p : Program} {l : Launch} {e : Env} {s : State} {mth : MethodId} {args : Array Value} {below : List Frame} {meth : Method} {c : Code} {E : EE} {G : GG} {r9 : Int32} {m9 : MM} (C : Cx E G p s mth args meth c cX8_numberAt RX8 "numberAt" 5 (some .int)) : ∀ (fu : Nat) (x0 : Nat) (x1 : Int32) (x2 : Int32) (x3 : Int32) (x4 : Int32) (m : MM), B_X8_numberAt_11 G fu x0 x1 x2 x3 x4 m = some (r9, m9) → (Ty E G x0 8) → ∀ (H : Heap) (locs : List Loc), Hp E G m s H locs → ∀ ls : Array Slot, lv_has ls 5 [(0, .ref x0), (1, .int x1), (2, .int x2), (3, .int x3), (4, .int x4)] → W p l e rmX8_numberAt s mth args below meth c H locs 0 0 (MQ below (cQi E r9 G m9) args s 0 0 (fun q => E.2.2.1 ≤ q)) (F0 mth 11 ls []) := by
  intro fu
  induction fu with
  | zero =>
    intro x0 x1 x2 x3 x4 m hM
    rw [B_X8_numberAt_11] at hM
    cases hM
  | succ fu ih =>
    intro x0 x1 x2 x3 x4 m hM tx0 H locs h ls hl
    rw [B_X8_numberAt_11] at hM
    refine lv_iload C.1 C.2.1 dX8_numberAt_11 (lv_at hl 4 rfl) ?_
    refine lv_iload_n C.1 C.2.1 dX8_numberAt_13 rfl (lv_at hl 2 rfl) ?_
    refine lv_icmp_ge (tgt := 40) C.1 C.2.1 dX8_numberAt_14 (by decide) (fun q => ?_) (fun q => ?_)
    · have hM := ite_t q hM
      refine lv_iload_n C.1 C.2.1 dX8_numberAt_40 rfl (lv_at hl 3 rfl) ?_
      obtain ⟨rfl, rfl⟩ := so_inj hM
      exact h_iret C h dX8_numberAt_41
    · have hM := ite_f q hM
      refine lv_iload_n C.1 C.2.1 dX8_numberAt_17 rfl (lv_at hl 3 rfl) ?_
      refine lv_bipush (v := 10) C.1 C.2.1 dX8_numberAt_18 (by decide) ?_
      refine lv_imul C.1 C.2.1 dX8_numberAt_20 ?_
      refine lv_aload_n C.1 C.2.1 dX8_numberAt_21 rfl (lv_at hl 0 rfl) ?_
      refine lv_iload_n C.1 C.2.1 dX8_numberAt_22 rfl (lv_at hl 1 rfl) ?_
      refine lv_iload C.1 C.2.1 dX8_numberAt_23 (lv_at hl 4 rfl) ?_
      refine lv_iadd C.1 C.2.1 dX8_numberAt_25 ?_
      obtain ⟨r_1, m_2, hc_1, hM⟩ := bd_some hM
      refine h_callVi C h (As := [.int (x1 + x4)]) (rest := [.int (x3 * 10)]) r_1 m_2 (c_X8_byteAt hc_1 tx0) 8 rfl (by decide) tx0 im_yX8_byteAt se_yX8_byteAt cy_X8_byteAt rfl ml_X8_19 ⟨by decide, by decide⟩ ⟨Nat.zero_le _, Nat.zero_le _⟩ hl.1 rfl (Nat.le_of_ble_eq_true rfl) dX8_numberAt_26 (fun H locs h => ?_)
      refine lv_bipush (v := 48) C.1 C.2.1 dX8_numberAt_29 (by decide) ?_
      refine lv_isub C.1 C.2.1 dX8_numberAt_31 ?_
      refine lv_iadd C.1 C.2.1 dX8_numberAt_32 ?_
      refine lv_istore_n (lv' := [(3, .int ((x3 * 10) + (r_1 - 48))), (0, .ref x0), (1, .int x1), (2, .int x2), (4, .int x4)]) C.1 C.2.1 dX8_numberAt_33 rfl hl (by decide) rfl (fun ls hl => ?_)
      refine lv_iinc (v := x4 + 1) (lv' := [(4, .int (x4 + 1)), (3, .int ((x3 * 10) + (r_1 - 48))), (0, .ref x0), (1, .int x1), (2, .int x2)]) C.1 C.2.1 dX8_numberAt_34 hl (k := 4) rfl rfl (by decide) rfl (fun ls hl => ?_)
      refine lv_goto (tgt := 11) C.1 C.2.1 dX8_numberAt_37 (by decide) ?_
      exact ih _ _ _ _ _ _ hM tx0 _ _ h ls (lv_sub hl [2, 3, 4, 1, 0] rfl)
def M_X8_numberAt (G : GG) (x0 : Nat) (x1 : Int32) (m : MM) : Option (Int32 × MM) :=
  bd (M_X8_numberLength G x0 x1 m) fun r_3 m_4 =>
    B_X8_numberAt_11 G FU x0 x1 r_3 0 0 m_4
set_option maxRecDepth 100000 in
set_option maxHeartbeats 4000000 in
theorem cM_X8_numberAt {p : Program} {l : Launch} {e : Env} {s : State} {mth : MethodId} {args : Array Value} {below : List Frame} {meth : Method} {c : Code} {E : EE} {G : GG} {r9 : Int32} {m9 : MM} (C : Cx E G p s mth args meth c cX8_numberAt RX8 "numberAt" 5 (some .int)) {x0 : Nat} {x1 : Int32} {m : MM} (hM : M_X8_numberAt G x0 x1 m = some (r9, m9)) (tx0 : Ty E G x0 8) : ∀ (H : Heap) (locs : List Loc), Hp E G m s H locs → ∀ ls : Array Slot, lv_has ls 5 [(0, .ref x0), (1, .int x1)] → W p l e rmX8_numberAt s mth args below meth c H locs 0 0 (MQ below (cQi E r9 G m9) args s 0 0 (fun q => E.2.2.1 ≤ q)) (F0 mth 0 ls []) := by
  intro H locs h ls hl
  unfold M_X8_numberAt at hM
  refine lv_aload_n C.1 C.2.1 dX8_numberAt_0 rfl (lv_at hl 0 rfl) ?_
  refine lv_iload_n C.1 C.2.1 dX8_numberAt_1 rfl (lv_at hl 1 rfl) ?_
  obtain ⟨r_3, m_4, hc_3, hM⟩ := bd_some hM
  refine h_callVi C h (As := [.int x1]) (rest := []) r_3 m_4 (c_X8_numberLength hc_3 tx0) 8 rfl (by decide) tx0 im_yX8_numberLength se_yX8_numberLength cy_X8_numberLength rfl ml_X8_30 ⟨by decide, by decide⟩ ⟨Nat.zero_le _, Nat.zero_le _⟩ hl.1 rfl (Nat.le_of_ble_eq_true rfl) dX8_numberAt_2 (fun H locs h => ?_)
  refine lv_istore_n (lv' := [(2, .int r_3), (0, .ref x0), (1, .int x1)]) C.1 C.2.1 dX8_numberAt_5 rfl hl (by decide) rfl (fun ls hl => ?_)
  refine lv_iconst (v := 0) C.1 C.2.1 dX8_numberAt_6 (by decide) ?_
  refine lv_istore_n (lv' := [(3, .int 0), (2, .int r_3), (0, .ref x0), (1, .int x1)]) C.1 C.2.1 dX8_numberAt_7 rfl hl (by decide) rfl (fun ls hl => ?_)
  refine lv_iconst (v := 0) C.1 C.2.1 dX8_numberAt_8 (by decide) ?_
  refine lv_istore (lv' := [(4, .int 0), (3, .int 0), (2, .int r_3), (0, .ref x0), (1, .int x1)]) C.1 C.2.1 dX8_numberAt_9 hl (by decide) rfl (fun ls hl => ?_)
  exact cB_X8_numberAt_11 C _ _ _ _ _ _ _ hM tx0 _ _ h ls (lv_sub hl [3, 4, 2, 1, 0] rfl)
theorem cy_X8_numberAt : Cy yX8_numberAt cX8_numberAt 5 (some .int) 1 := ⟨cd_yX8_numberAt, ii_X8, by decide, by decide, by decide +kernel⟩
set_option maxRecDepth 100000 in
theorem c_X8_numberAt {l : Launch} {E : EE} {G : GG} {x0 : Nat} {x1 : Int32} {m m9 : MM} {r9 : Int32} (hM : M_X8_numberAt G x0 x1 m = some (r9, m9)) (tx0 : Ty E G x0 8) : Mc l E yX8_numberAt cX8_numberAt 5 (some .int) rmX8_numberAt [.ref x0, .int x1] G m (cQi E r9 G m9) := M_of (by decide) (Nat.le_of_ble_eq_true rfl) (fun p e s mth below meth c C h ls hl => cM_X8_numberAt C hM tx0 _ _ h ls hl)
abbrev rmX8_same : Room := { frames := 1, cells := 0, slots := 0, locals := 21 }
def B_X8_same_3 (G : GG) : Nat → Nat → Int32 → Nat → Int32 → Int32 → Int32 → MM → Option (Bool × MM)
  | 0, _, _, _, _, _, _, _ => none
  | fu + 1, x0, x1, x2, x3, x4, x5, m =>
    if x4 ≤ x5 then
      some (true, m)
    else
      bd (M_X8_byteAt G x0 (x1 + x5) m) fun r_1 m_2 =>
        bd (M_X8_byteAt G x2 (x3 + x5) m_2) fun r_3 m_4 =>
          if r_1 = r_3 then
            B_X8_same_3 G fu x0 x1 x2 x3 x4 (x5 + 1) m_4
          else
            some (false, m_4)
set_option maxRecDepth 100000 in
set_option maxHeartbeats 4000000 in
theorem cB_X8_same_3 {p : Program} {l : Launch} {e : Env} {s : State} {mth : MethodId} {args : Array Value} {below : List Frame} {meth : Method} {c : Code} {E : EE} {G : GG} {r9 : Bool} {m9 : MM} (C : Cx E G p s mth args meth c cX8_same RX8 "same" 6 (some .boolean)) : ∀ (fu : Nat) (x0 : Nat) (x1 : Int32) (x2 : Nat) (x3 : Int32) (x4 : Int32) (x5 : Int32) (m : MM), B_X8_same_3 G fu x0 x1 x2 x3 x4 x5 m = some (r9, m9) → (Ty E G x0 8) → (Ty E G x2 8) → ∀ (H : Heap) (locs : List Loc), Hp E G m s H locs → ∀ ls : Array Slot, lv_has ls 6 [(0, .ref x0), (1, .int x1), (2, .ref x2), (3, .int x3), (4, .int x4), (5, .int x5)] → W p l e rmX8_same s mth args below meth c H locs 0 0 (MQ below (cQi E (bz r9) G m9) args s 0 0 (fun q => E.2.2.1 ≤ q)) (F0 mth 3 ls []) := by
  intro fu
  induction fu with
  | zero =>
    intro x0 x1 x2 x3 x4 x5 m hM
    rw [B_X8_same_3] at hM
    cases hM
  | succ fu ih =>
    intro x0 x1 x2 x3 x4 x5 m hM tx0 tx2 H locs h ls hl
    rw [B_X8_same_3] at hM
    refine lv_iload C.1 C.2.1 dX8_same_3 (lv_at hl 5 rfl) ?_
    refine lv_iload C.1 C.2.1 dX8_same_5 (lv_at hl 4 rfl) ?_
    refine lv_icmp_ge (tgt := 37) C.1 C.2.1 dX8_same_7 (by decide) (fun q => ?_) (fun q => ?_)
    · have hM := ite_t q hM
      refine lv_iconst (v := 1) C.1 C.2.1 dX8_same_37 (by decide) ?_
      obtain ⟨rfl, rfl⟩ := so_inj hM
      exact h_zret C h (bz_ok _).1 dX8_same_38
    · have hM := ite_f q hM
      refine lv_aload_n C.1 C.2.1 dX8_same_10 rfl (lv_at hl 0 rfl) ?_
      refine lv_iload_n C.1 C.2.1 dX8_same_11 rfl (lv_at hl 1 rfl) ?_
      refine lv_iload C.1 C.2.1 dX8_same_12 (lv_at hl 5 rfl) ?_
      refine lv_iadd C.1 C.2.1 dX8_same_14 ?_
      obtain ⟨r_1, m_2, hc_1, hM⟩ := bd_some hM
      refine h_callVi C h (As := [.int (x1 + x5)]) (rest := []) r_1 m_2 (c_X8_byteAt hc_1 tx0) 8 rfl (by decide) tx0 im_yX8_byteAt se_yX8_byteAt cy_X8_byteAt rfl ml_X8_19 ⟨by decide, by decide⟩ ⟨Nat.zero_le _, Nat.zero_le _⟩ hl.1 rfl (Nat.le_of_ble_eq_true rfl) dX8_same_15 (fun H locs h => ?_)
      refine lv_aload_n C.1 C.2.1 dX8_same_18 rfl (lv_at hl 2 rfl) ?_
      refine lv_iload_n C.1 C.2.1 dX8_same_19 rfl (lv_at hl 3 rfl) ?_
      refine lv_iload C.1 C.2.1 dX8_same_20 (lv_at hl 5 rfl) ?_
      refine lv_iadd C.1 C.2.1 dX8_same_22 ?_
      obtain ⟨r_3, m_4, hc_3, hM⟩ := bd_some hM
      refine h_callVi C h (As := [.int (x3 + x5)]) (rest := [.int r_1]) r_3 m_4 (c_X8_byteAt hc_3 tx2) 8 rfl (by decide) tx2 im_yX8_byteAt se_yX8_byteAt cy_X8_byteAt rfl ml_X8_19 ⟨by decide, by decide⟩ ⟨Nat.zero_le _, Nat.zero_le _⟩ hl.1 rfl (Nat.le_of_ble_eq_true rfl) dX8_same_23 (fun H locs h => ?_)
      refine lv_icmp_eq (tgt := 31) C.1 C.2.1 dX8_same_26 (by decide) (fun q => ?_) (fun q => ?_)
      · have hM := ite_t q hM
        refine lv_iinc (v := x5 + 1) (lv' := [(5, .int (x5 + 1)), (0, .ref x0), (1, .int x1), (2, .ref x2), (3, .int x3), (4, .int x4)]) C.1 C.2.1 dX8_same_31 hl (k := 5) rfl rfl (by decide) rfl (fun ls hl => ?_)
        refine lv_goto (tgt := 3) C.1 C.2.1 dX8_same_34 (by decide) ?_
        exact ih _ _ _ _ _ _ _ hM tx0 tx2 _ _ h ls (lv_sub hl [1, 2, 3, 4, 5, 0] rfl)
      · have hM := ite_f q hM
        refine lv_iconst (v := 0) C.1 C.2.1 dX8_same_29 (by decide) ?_
        obtain ⟨rfl, rfl⟩ := so_inj hM
        exact h_zret C h (bz_ok _).1 dX8_same_30
def M_X8_same (G : GG) (x0 : Nat) (x1 : Int32) (x2 : Nat) (x3 : Int32) (x4 : Int32) (m : MM) : Option (Bool × MM) :=
  B_X8_same_3 G FU x0 x1 x2 x3 x4 0 m
set_option maxRecDepth 100000 in
set_option maxHeartbeats 4000000 in
theorem cM_X8_same {p : Program} {l : Launch} {e : Env} {s : State} {mth : MethodId} {args : Array Value} {below : List Frame} {meth : Method} {c : Code} {E : EE} {G : GG} {r9 : Bool} {m9 : MM} (C : Cx E G p s mth args meth c cX8_same RX8 "same" 6 (some .boolean)) {x0 : Nat} {x1 : Int32} {x2 : Nat} {x3 : Int32} {x4 : Int32} {m : MM} (hM : M_X8_same G x0 x1 x2 x3 x4 m = some (r9, m9)) (tx0 : Ty E G x0 8) (tx2 : Ty E G x2 8) : ∀ (H : Heap) (locs : List Loc), Hp E G m s H locs → ∀ ls : Array Slot, lv_has ls 6 [(0, .ref x0), (1, .int x1), (2, .ref x2), (3, .int x3), (4, .int x4)] → W p l e rmX8_same s mth args below meth c H locs 0 0 (MQ below (cQi E (bz r9) G m9) args s 0 0 (fun q => E.2.2.1 ≤ q)) (F0 mth 0 ls []) := by
  intro H locs h ls hl
  unfold M_X8_same at hM
  refine lv_iconst (v := 0) C.1 C.2.1 dX8_same_0 (by decide) ?_
  refine lv_istore (lv' := [(5, .int 0), (0, .ref x0), (1, .int x1), (2, .ref x2), (3, .int x3), (4, .int x4)]) C.1 C.2.1 dX8_same_1 hl (by decide) rfl (fun ls hl => ?_)
  exact cB_X8_same_3 C _ _ _ _ _ _ _ _ hM tx0 tx2 _ _ h ls (lv_sub hl [1, 2, 3, 4, 5, 0] rfl)
theorem cy_X8_same : Cy yX8_same cX8_same 6 (some .boolean) 4 := ⟨cd_yX8_same, ii_X8, by decide, by decide, by decide +kernel⟩
set_option maxRecDepth 100000 in
theorem c_X8_same {l : Launch} {E : EE} {G : GG} {x0 : Nat} {x1 : Int32} {x2 : Nat} {x3 : Int32} {x4 : Int32} {m m9 : MM} {r9 : Bool} (hM : M_X8_same G x0 x1 x2 x3 x4 m = some (r9, m9)) (tx0 : Ty E G x0 8) (tx2 : Ty E G x2 8) : Mc l E yX8_same cX8_same 6 (some .boolean) rmX8_same [.ref x0, .int x1, .ref x2, .int x3, .int x4] G m (cQi E (bz r9) G m9) := M_of (by decide) (Nat.le_of_ble_eq_true rfl) (fun p e s mth below meth c C h ls hl => cM_X8_same C hM tx0 tx2 _ _ h ls hl)
abbrev rmX8_firstNamed : Room := { frames := 3, cells := 0, slots := 0, locals := 65 }
def B_X8_firstNamed_10 (G : GG) : Nat → Nat → Int32 → Nat → Int32 → Int32 → Int32 → MM → Option (Int32 × MM)
  | 0, _, _, _, _, _, _, _ => none
  | fu + 1, x0, x1, x2, x3, x4, x5, m =>
    if x3 ≤ x5 then
      some ((-1), m)
    else
      if (nI (G.2.2 x2)) ≤ x5 then
        some ((-1), m)
      else
        ib x5 (G.2.2 x2) <|
          bd (M_X8_same G x0 x1 x0 (gI m x2 x5.toNatClampNeg) x4 m) fun r_1 m_2 =>
            if r_1 = true then
              ib x5 (G.2.2 x2) <|
                bd (M_X8_nameLength G x0 (gI m_2 x2 x5.toNatClampNeg) m_2) fun r_3 m_4 =>
                  if r_3 = x4 then
                    some (x5, m_4)
                  else
                    B_X8_firstNamed_10 G fu x0 x1 x2 x3 x4 (x5 + 1) m_4
            else
              B_X8_firstNamed_10 G fu x0 x1 x2 x3 x4 (x5 + 1) m_2
set_option maxRecDepth 100000 in
set_option maxHeartbeats 4000000 in
theorem cB_X8_firstNamed_10 {p : Program} {l : Launch} {e : Env} {s : State} {mth : MethodId} {args : Array Value} {below : List Frame} {meth : Method} {c : Code} {E : EE} {G : GG} {r9 : Int32} {m9 : MM} (C : Cx E G p s mth args meth c cX8_firstNamed RX8 "firstNamed" 6 (some .int)) : ∀ (fu : Nat) (x0 : Nat) (x1 : Int32) (x2 : Nat) (x3 : Int32) (x4 : Int32) (x5 : Int32) (m : MM), B_X8_firstNamed_10 G fu x0 x1 x2 x3 x4 x5 m = some (r9, m9) → (Ty E G x0 8) → (Ty E G x2 12) → ∀ (H : Heap) (locs : List Loc), Hp E G m s H locs → ∀ ls : Array Slot, lv_has ls 6 [(0, .ref x0), (1, .int x1), (2, .ref x2), (3, .int x3), (4, .int x4), (5, .int x5)] → W p l e rmX8_firstNamed s mth args below meth c H locs 0 0 (MQ below (cQi E r9 G m9) args s 0 0 (fun q => E.2.2.1 ≤ q)) (F0 mth 10 ls []) := by
  intro fu
  induction fu with
  | zero =>
    intro x0 x1 x2 x3 x4 x5 m hM
    rw [B_X8_firstNamed_10] at hM
    cases hM
  | succ fu ih =>
    intro x0 x1 x2 x3 x4 x5 m hM tx0 tx2 H locs h ls hl
    rw [B_X8_firstNamed_10] at hM
    refine lv_iload C.1 C.2.1 dX8_firstNamed_10 (lv_at hl 5 rfl) ?_
    refine lv_iload_n C.1 C.2.1 dX8_firstNamed_12 rfl (lv_at hl 3 rfl) ?_
    refine lv_icmp_ge (tgt := 60) C.1 C.2.1 dX8_firstNamed_13 (by decide) (fun q => ?_) (fun q => ?_)
    · have hM := ite_t q hM
      refine lv_iconst (v := (-1)) C.1 C.2.1 dX8_firstNamed_60 (by decide) ?_
      obtain ⟨rfl, rfl⟩ := so_inj hM
      exact h_iret C h dX8_firstNamed_61
    · have hM := ite_f q hM
      refine lv_iload C.1 C.2.1 dX8_firstNamed_16 (lv_at hl 5 rfl) ?_
      refine lv_aload_n C.1 C.2.1 dX8_firstNamed_18 rfl (lv_at hl 2 rfl) ?_
      refine h_alen C h 12 (by decide) (by decide) tx2 dX8_firstNamed_19 ?_
      refine lv_icmp_ge (tgt := 60) C.1 C.2.1 dX8_firstNamed_20 (by decide) (fun q => ?_) (fun q => ?_)
      · have hM := ite_t q hM
        refine lv_iconst (v := (-1)) C.1 C.2.1 dX8_firstNamed_60 (by decide) ?_
        obtain ⟨rfl, rfl⟩ := so_inj hM
        exact h_iret C h dX8_firstNamed_61
      · have hM := ite_f q hM
        refine lv_aload_n C.1 C.2.1 dX8_firstNamed_23 rfl (lv_at hl 0 rfl) ?_
        refine lv_iload_n C.1 C.2.1 dX8_firstNamed_24 rfl (lv_at hl 1 rfl) ?_
        refine lv_aload_n C.1 C.2.1 dX8_firstNamed_25 rfl (lv_at hl 0 rfl) ?_
        refine lv_aload_n C.1 C.2.1 dX8_firstNamed_26 rfl (lv_at hl 2 rfl) ?_
        refine lv_iload C.1 C.2.1 dX8_firstNamed_27 (lv_at hl 5 rfl) ?_
        obtain ⟨hi, hM⟩ := ib_some hM
        refine h_iald C h tx2 hi dX8_firstNamed_29 ?_
        refine lv_iload C.1 C.2.1 dX8_firstNamed_30 (lv_at hl 4 rfl) ?_
        obtain ⟨r_1, m_2, hc_1, hM⟩ := bd_some hM
        refine h_callVi C h (As := [.int x1, .ref x0, .int (gI m x2 x5.toNatClampNeg), .int x4]) (rest := []) (bz r_1) m_2 (c_X8_same hc_1 tx0 tx0) 8 rfl (by decide) tx0 im_yX8_same se_yX8_same cy_X8_same rfl ml_X8_45 ⟨by decide, by decide⟩ ⟨Nat.zero_le _, Nat.zero_le _⟩ hl.1 rfl (Nat.le_of_ble_eq_true rfl) dX8_firstNamed_32 (fun H locs h => ?_)
        refine h_ifz (tgt := 54) C.1 C.2.1 dX8_firstNamed_35 (by decide) (fun q => ?_) (fun q => ?_)
        · have hM := ite_f q hM
          refine lv_iinc (v := x5 + 1) (lv' := [(5, .int (x5 + 1)), (0, .ref x0), (1, .int x1), (2, .ref x2), (3, .int x3), (4, .int x4)]) C.1 C.2.1 dX8_firstNamed_54 hl (k := 5) rfl rfl (by decide) rfl (fun ls hl => ?_)
          refine lv_goto (tgt := 10) C.1 C.2.1 dX8_firstNamed_57 (by decide) ?_
          exact ih _ _ _ _ _ _ _ hM tx0 tx2 _ _ h ls (lv_sub hl [1, 2, 3, 4, 5, 0] rfl)
        · have hM := ite_t q hM
          refine lv_aload_n C.1 C.2.1 dX8_firstNamed_38 rfl (lv_at hl 0 rfl) ?_
          refine lv_aload_n C.1 C.2.1 dX8_firstNamed_39 rfl (lv_at hl 2 rfl) ?_
          refine lv_iload C.1 C.2.1 dX8_firstNamed_40 (lv_at hl 5 rfl) ?_
          obtain ⟨hi, hM⟩ := ib_some hM
          refine h_iald C h tx2 hi dX8_firstNamed_42 ?_
          obtain ⟨r_3, m_4, hc_3, hM⟩ := bd_some hM
          refine h_callVi C h (As := [.int (gI m_2 x2 x5.toNatClampNeg)]) (rest := []) r_3 m_4 (c_X8_nameLength hc_3 tx0) 8 rfl (by decide) tx0 im_yX8_nameLength se_yX8_nameLength cy_X8_nameLength rfl ml_X8_42 ⟨by decide, by decide⟩ ⟨Nat.zero_le _, Nat.zero_le _⟩ hl.1 rfl (Nat.le_of_ble_eq_true rfl) dX8_firstNamed_43 (fun H locs h => ?_)
          refine lv_iload C.1 C.2.1 dX8_firstNamed_46 (lv_at hl 4 rfl) ?_
          refine lv_icmp_ne (tgt := 54) C.1 C.2.1 dX8_firstNamed_48 (by decide) (fun q => ?_) (fun q => ?_)
          · have hM := ite_f q hM
            refine lv_iinc (v := x5 + 1) (lv' := [(5, .int (x5 + 1)), (0, .ref x0), (1, .int x1), (2, .ref x2), (3, .int x3), (4, .int x4)]) C.1 C.2.1 dX8_firstNamed_54 hl (k := 5) rfl rfl (by decide) rfl (fun ls hl => ?_)
            refine lv_goto (tgt := 10) C.1 C.2.1 dX8_firstNamed_57 (by decide) ?_
            exact ih _ _ _ _ _ _ _ hM tx0 tx2 _ _ h ls (lv_sub hl [1, 2, 3, 4, 5, 0] rfl)
          · have hM := ite_t q hM
            refine lv_iload C.1 C.2.1 dX8_firstNamed_51 (lv_at hl 5 rfl) ?_
            obtain ⟨rfl, rfl⟩ := so_inj hM
            exact h_iret C h dX8_firstNamed_53
def M_X8_firstNamed (G : GG) (x0 : Nat) (x1 : Int32) (x2 : Nat) (x3 : Int32) (m : MM) : Option (Int32 × MM) :=
  bd (M_X8_nameLength G x0 x1 m) fun r_5 m_6 =>
    B_X8_firstNamed_10 G FU x0 x1 x2 x3 r_5 0 m_6
set_option maxRecDepth 100000 in
set_option maxHeartbeats 4000000 in
theorem cM_X8_firstNamed {p : Program} {l : Launch} {e : Env} {s : State} {mth : MethodId} {args : Array Value} {below : List Frame} {meth : Method} {c : Code} {E : EE} {G : GG} {r9 : Int32} {m9 : MM} (C : Cx E G p s mth args meth c cX8_firstNamed RX8 "firstNamed" 6 (some .int)) {x0 : Nat} {x1 : Int32} {x2 : Nat} {x3 : Int32} {m : MM} (hM : M_X8_firstNamed G x0 x1 x2 x3 m = some (r9, m9)) (tx0 : Ty E G x0 8) (tx2 : Ty E G x2 12) : ∀ (H : Heap) (locs : List Loc), Hp E G m s H locs → ∀ ls : Array Slot, lv_has ls 6 [(0, .ref x0), (1, .int x1), (2, .ref x2), (3, .int x3)] → W p l e rmX8_firstNamed s mth args below meth c H locs 0 0 (MQ below (cQi E r9 G m9) args s 0 0 (fun q => E.2.2.1 ≤ q)) (F0 mth 0 ls []) := by
  intro H locs h ls hl
  unfold M_X8_firstNamed at hM
  refine lv_aload_n C.1 C.2.1 dX8_firstNamed_0 rfl (lv_at hl 0 rfl) ?_
  refine lv_iload_n C.1 C.2.1 dX8_firstNamed_1 rfl (lv_at hl 1 rfl) ?_
  obtain ⟨r_5, m_6, hc_5, hM⟩ := bd_some hM
  refine h_callVi C h (As := [.int x1]) (rest := []) r_5 m_6 (c_X8_nameLength hc_5 tx0) 8 rfl (by decide) tx0 im_yX8_nameLength se_yX8_nameLength cy_X8_nameLength rfl ml_X8_42 ⟨by decide, by decide⟩ ⟨Nat.zero_le _, Nat.zero_le _⟩ hl.1 rfl (Nat.le_of_ble_eq_true rfl) dX8_firstNamed_2 (fun H locs h => ?_)
  refine lv_istore (lv' := [(4, .int r_5), (0, .ref x0), (1, .int x1), (2, .ref x2), (3, .int x3)]) C.1 C.2.1 dX8_firstNamed_5 hl (by decide) rfl (fun ls hl => ?_)
  refine lv_iconst (v := 0) C.1 C.2.1 dX8_firstNamed_7 (by decide) ?_
  refine lv_istore (lv' := [(5, .int 0), (4, .int r_5), (0, .ref x0), (1, .int x1), (2, .ref x2), (3, .int x3)]) C.1 C.2.1 dX8_firstNamed_8 hl (by decide) rfl (fun ls hl => ?_)
  exact cB_X8_firstNamed_10 C _ _ _ _ _ _ _ _ hM tx0 tx2 _ _ h ls (lv_sub hl [2, 3, 4, 5, 1, 0] rfl)
theorem cy_X8_firstNamed : Cy yX8_firstNamed cX8_firstNamed 6 (some .int) 3 := ⟨cd_yX8_firstNamed, ii_X8, by decide, by decide, by decide +kernel⟩
set_option maxRecDepth 100000 in
theorem c_X8_firstNamed {l : Launch} {E : EE} {G : GG} {x0 : Nat} {x1 : Int32} {x2 : Nat} {x3 : Int32} {m m9 : MM} {r9 : Int32} (hM : M_X8_firstNamed G x0 x1 x2 x3 m = some (r9, m9)) (tx0 : Ty E G x0 8) (tx2 : Ty E G x2 12) : Mc l E yX8_firstNamed cX8_firstNamed 6 (some .int) rmX8_firstNamed [.ref x0, .int x1, .ref x2, .int x3] G m (cQi E r9 G m9) := M_of (by decide) (Nat.le_of_ble_eq_true rfl) (fun p e s mth below meth c C h ls hl => cM_X8_firstNamed C hM tx0 tx2 _ _ h ls hl)
