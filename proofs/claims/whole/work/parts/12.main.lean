abbrev rmX10_feed : Room := { frames := 1, cells := 0, slots := 0, locals := 22 }
def M_X10_feed (G : GG) (x0 : Nat) (x1 : Int32) (x2 : Int32) (x3 : Int32) (x4 : Int32) (x5 : Int32) (m : MM) : Option (Int32 × MM) :=
  nb (gR m x0 2) fun b_1 =>
    if (gI m b_1 1) ≤ 1980 then
      bd (M_X8_append G b_1 x1 m) fun _ m_3 =>
        nb (gR m_3 x0 2) fun b_4 =>
          bd (M_X8_append G b_4 x2 m_3) fun _ m_6 =>
            nb (gR m_6 x0 2) fun b_7 =>
              bd (M_X8_append G b_7 x3 m_6) fun _ m_9 =>
                nb (gR m_9 x0 2) fun b_10 =>
                  bd (M_X8_append G b_10 x4 m_9) fun _ m_12 =>
                    nb (gR m_12 x0 2) fun b_13 =>
                      bd (M_X8_append G b_13 x5 m_12) fun _ m_15 =>
                        nb (gR m_15 x0 2) fun b_16 =>
                          some (gI m_15 b_16 1, m_15)
    else
      some ((-1000004), m)
set_option maxRecDepth 100000 in
set_option maxHeartbeats 4000000 in
theorem cM_X10_feed {p : Program} {l : Launch} {e : Env} {s : State} {mth : MethodId} {args : Array Value} {below : List Frame} {meth : Method} {c : Code} {E : EE} {G : GG} {r9 : Int32} {m9 : MM} (C : Cx E G p s mth args meth c cX10_feed RX10 "feed" 6 (some .int)) {x0 : Nat} {x1 : Int32} {x2 : Int32} {x3 : Int32} {x4 : Int32} {x5 : Int32} {m : MM} (hM : M_X10_feed G x0 x1 x2 x3 x4 x5 m = some (r9, m9)) (tx0 : Ty E G x0 10) : ∀ (H : Heap) (locs : List Loc), Hp E G m s H locs → ∀ ls : Array Slot, lv_has ls 6 [(0, .ref x0), (1, .int x1), (2, .int x2), (3, .int x3), (4, .int x4), (5, .int x5)] → W p l e rmX10_feed s mth args below meth c H locs 0 0 (MQ below (cQi E r9 G m9) args s 0 0 (fun q => E.2.2.1 ≤ q)) (F0 mth 0 ls []) := by
  intro H locs h ls hl
  unfold M_X10_feed at hM
  refine lv_aload_n C.1 C.2.1 dX10_feed_0 rfl (lv_at hl 0 rfl) ?_
  refine gt_10_2 C h tx0 fl_X10_22 dX10_feed_1 ?_
  obtain ⟨b_1, hb_1, hM⟩ := nb_some hM
  have tb_1 : Ty E G b_1 8 := (fun b hb => tyf h tx0 hb) _ hb_1
  refine st_ref hb_1 ?_
  refine gt_8_1 C h tb_1 fl_X10_62 dX10_feed_4 ?_
  refine lv_sipush (v := 1980) C.1 C.2.1 dX10_feed_7 (by decide) ?_
  refine lv_icmp_le (tgt := 16) C.1 C.2.1 dX10_feed_10 (by decide) (fun q => ?_) (fun q => ?_)
  · have hM := ite_t q hM
    refine lv_aload_n C.1 C.2.1 dX10_feed_16 rfl (lv_at hl 0 rfl) ?_
    refine gt_10_2 C h tx0 fl_X10_22 dX10_feed_17 ?_
    refine st_ref hb_1 ?_
    refine lv_iload_n C.1 C.2.1 dX10_feed_20 rfl (lv_at hl 1 rfl) ?_
    obtain ⟨r_2, m_3, hc_2, hM⟩ := bd_some hM
    refine h_callVv C h (As := [.int x1]) (rest := []) m_3 (c_X8_append hc_2 tb_1) 8 rfl (by decide) tb_1 im_yX8_append se_yX8_append cy_X8_append rfl ml_X10_67 ⟨by decide, by decide⟩ ⟨Nat.zero_le _, Nat.zero_le _⟩ hl.1 rfl (Nat.le_of_ble_eq_true rfl) dX10_feed_21 (fun H locs h => ?_)
    refine lv_aload_n C.1 C.2.1 dX10_feed_24 rfl (lv_at hl 0 rfl) ?_
    refine gt_10_2 C h tx0 fl_X10_22 dX10_feed_25 ?_
    obtain ⟨b_4, hb_4, hM⟩ := nb_some hM
    have tb_4 : Ty E G b_4 8 := (fun b hb => tyf h tx0 hb) _ hb_4
    refine st_ref hb_4 ?_
    refine lv_iload_n C.1 C.2.1 dX10_feed_28 rfl (lv_at hl 2 rfl) ?_
    obtain ⟨r_5, m_6, hc_5, hM⟩ := bd_some hM
    refine h_callVv C h (As := [.int x2]) (rest := []) m_6 (c_X8_append hc_5 tb_4) 8 rfl (by decide) tb_4 im_yX8_append se_yX8_append cy_X8_append rfl ml_X10_67 ⟨by decide, by decide⟩ ⟨Nat.zero_le _, Nat.zero_le _⟩ hl.1 rfl (Nat.le_of_ble_eq_true rfl) dX10_feed_29 (fun H locs h => ?_)
    refine lv_aload_n C.1 C.2.1 dX10_feed_32 rfl (lv_at hl 0 rfl) ?_
    refine gt_10_2 C h tx0 fl_X10_22 dX10_feed_33 ?_
    obtain ⟨b_7, hb_7, hM⟩ := nb_some hM
    have tb_7 : Ty E G b_7 8 := (fun b hb => tyf h tx0 hb) _ hb_7
    refine st_ref hb_7 ?_
    refine lv_iload_n C.1 C.2.1 dX10_feed_36 rfl (lv_at hl 3 rfl) ?_
    obtain ⟨r_8, m_9, hc_8, hM⟩ := bd_some hM
    refine h_callVv C h (As := [.int x3]) (rest := []) m_9 (c_X8_append hc_8 tb_7) 8 rfl (by decide) tb_7 im_yX8_append se_yX8_append cy_X8_append rfl ml_X10_67 ⟨by decide, by decide⟩ ⟨Nat.zero_le _, Nat.zero_le _⟩ hl.1 rfl (Nat.le_of_ble_eq_true rfl) dX10_feed_37 (fun H locs h => ?_)
    refine lv_aload_n C.1 C.2.1 dX10_feed_40 rfl (lv_at hl 0 rfl) ?_
    refine gt_10_2 C h tx0 fl_X10_22 dX10_feed_41 ?_
    obtain ⟨b_10, hb_10, hM⟩ := nb_some hM
    have tb_10 : Ty E G b_10 8 := (fun b hb => tyf h tx0 hb) _ hb_10
    refine st_ref hb_10 ?_
    refine lv_iload C.1 C.2.1 dX10_feed_44 (lv_at hl 4 rfl) ?_
    obtain ⟨r_11, m_12, hc_11, hM⟩ := bd_some hM
    refine h_callVv C h (As := [.int x4]) (rest := []) m_12 (c_X8_append hc_11 tb_10) 8 rfl (by decide) tb_10 im_yX8_append se_yX8_append cy_X8_append rfl ml_X10_67 ⟨by decide, by decide⟩ ⟨Nat.zero_le _, Nat.zero_le _⟩ hl.1 rfl (Nat.le_of_ble_eq_true rfl) dX10_feed_46 (fun H locs h => ?_)
    refine lv_aload_n C.1 C.2.1 dX10_feed_49 rfl (lv_at hl 0 rfl) ?_
    refine gt_10_2 C h tx0 fl_X10_22 dX10_feed_50 ?_
    obtain ⟨b_13, hb_13, hM⟩ := nb_some hM
    have tb_13 : Ty E G b_13 8 := (fun b hb => tyf h tx0 hb) _ hb_13
    refine st_ref hb_13 ?_
    refine lv_iload C.1 C.2.1 dX10_feed_53 (lv_at hl 5 rfl) ?_
    obtain ⟨r_14, m_15, hc_14, hM⟩ := bd_some hM
    refine h_callVv C h (As := [.int x5]) (rest := []) m_15 (c_X8_append hc_14 tb_13) 8 rfl (by decide) tb_13 im_yX8_append se_yX8_append cy_X8_append rfl ml_X10_67 ⟨by decide, by decide⟩ ⟨Nat.zero_le _, Nat.zero_le _⟩ hl.1 rfl (Nat.le_of_ble_eq_true rfl) dX10_feed_55 (fun H locs h => ?_)
    refine lv_aload_n C.1 C.2.1 dX10_feed_58 rfl (lv_at hl 0 rfl) ?_
    refine gt_10_2 C h tx0 fl_X10_22 dX10_feed_59 ?_
    obtain ⟨b_16, hb_16, hM⟩ := nb_some hM
    have tb_16 : Ty E G b_16 8 := (fun b hb => tyf h tx0 hb) _ hb_16
    refine st_ref hb_16 ?_
    refine gt_8_1 C h tb_16 fl_X10_62 dX10_feed_62 ?_
    obtain ⟨rfl, rfl⟩ := so_inj hM
    exact h_iret C h dX10_feed_65
  · have hM := ite_f q hM
    refine lv_ldc C.1 C.2.1 C.2.2.2.1 (C.2.2.2.2.1 _ co_X10_66) dX10_feed_13 ?_
    obtain ⟨rfl, rfl⟩ := so_inj hM
    exact h_iret C h dX10_feed_15
theorem cy_X10_feed : Cy yX10_feed cX10_feed 6 (some .int) 5 := ⟨cd_yX10_feed, ii_X10, by decide, by decide, by decide +kernel⟩
set_option maxRecDepth 100000 in
theorem c_X10_feed {l : Launch} {E : EE} {G : GG} {x0 : Nat} {x1 : Int32} {x2 : Int32} {x3 : Int32} {x4 : Int32} {x5 : Int32} {m m9 : MM} {r9 : Int32} (hM : M_X10_feed G x0 x1 x2 x3 x4 x5 m = some (r9, m9)) (tx0 : Ty E G x0 10) : Mc l E yX10_feed cX10_feed 6 (some .int) rmX10_feed [.ref x0, .int x1, .int x2, .int x3, .int x4, .int x5] G m (cQi E r9 G m9) := M_of (by decide) (Nat.le_of_ble_eq_true rfl) (fun p e s mth below meth c C h ls hl => cM_X10_feed C hM tx0 _ _ h ls hl)
abbrev rmX10_end : Room := { frames := 0, cells := 0, slots := 0, locals := 0 }
def M_X10_end (G : GG) (x0 : Nat) (x1 : Int32) (m : MM) : Option (Int32 × MM) :=
  if x1 < 0 then
    some ((-1000002), m)
  else
    nb (gR m x0 2) fun b_1 =>
      if x1 ≤ (gI m b_1 1) then
        some (x1, sI m b_1 1 x1)
      else
        some ((-1000002), m)
set_option maxRecDepth 100000 in
set_option maxHeartbeats 4000000 in
theorem cM_X10_end {p : Program} {l : Launch} {e : Env} {s : State} {mth : MethodId} {args : Array Value} {below : List Frame} {meth : Method} {c : Code} {E : EE} {G : GG} {r9 : Int32} {m9 : MM} (C : Cx E G p s mth args meth c cX10_end RX10 "end" 2 (some .int)) {x0 : Nat} {x1 : Int32} {m : MM} (hM : M_X10_end G x0 x1 m = some (r9, m9)) (tx0 : Ty E G x0 10) : ∀ (H : Heap) (locs : List Loc), Hp E G m s H locs → ∀ ls : Array Slot, lv_has ls 2 [(0, .ref x0), (1, .int x1)] → W p l e rmX10_end s mth args below meth c H locs 0 0 (MQ below (cQi E r9 G m9) args s 0 0 (fun q => E.2.2.1 ≤ q)) (F0 mth 0 ls []) := by
  intro H locs h ls hl
  unfold M_X10_end at hM
  refine lv_iload_n C.1 C.2.1 dX10_end_0 rfl (lv_at hl 1 rfl) ?_
  refine lv_if_lt (tgt := 15) C.1 C.2.1 dX10_end_1 (by decide) (fun q => ?_) (fun q => ?_)
  · have hM := ite_t q hM
    refine lv_ldc C.1 C.2.1 C.2.2.2.1 (C.2.2.2.2.1 _ co_X10_71) dX10_end_15 ?_
    obtain ⟨rfl, rfl⟩ := so_inj hM
    exact h_iret C h dX10_end_17
  · have hM := ite_f q hM
    refine lv_iload_n C.1 C.2.1 dX10_end_4 rfl (lv_at hl 1 rfl) ?_
    refine lv_aload_n C.1 C.2.1 dX10_end_5 rfl (lv_at hl 0 rfl) ?_
    refine gt_10_2 C h tx0 fl_X10_22 dX10_end_6 ?_
    obtain ⟨b_1, hb_1, hM⟩ := nb_some hM
    have tb_1 : Ty E G b_1 8 := (fun b hb => tyf h tx0 hb) _ hb_1
    refine st_ref hb_1 ?_
    refine gt_8_1 C h tb_1 fl_X10_62 dX10_end_9 ?_
    refine lv_icmp_le (tgt := 18) C.1 C.2.1 dX10_end_12 (by decide) (fun q => ?_) (fun q => ?_)
    · have hM := ite_t q hM
      refine lv_aload_n C.1 C.2.1 dX10_end_18 rfl (lv_at hl 0 rfl) ?_
      refine gt_10_2 C h tx0 fl_X10_22 dX10_end_19 ?_
      refine st_ref hb_1 ?_
      refine lv_iload_n C.1 C.2.1 dX10_end_22 rfl (lv_at hl 1 rfl) ?_
      refine pt_8_1 C h tb_1 fl_X10_62 dX10_end_23 (fun H locs h => ?_)
      refine lv_iload_n C.1 C.2.1 dX10_end_26 rfl (lv_at hl 1 rfl) ?_
      obtain ⟨rfl, rfl⟩ := so_inj hM
      exact h_iret C h dX10_end_27
    · have hM := ite_f q hM
      refine lv_ldc C.1 C.2.1 C.2.2.2.1 (C.2.2.2.2.1 _ co_X10_71) dX10_end_15 ?_
      obtain ⟨rfl, rfl⟩ := so_inj hM
      exact h_iret C h dX10_end_17
theorem cy_X10_end : Cy yX10_end cX10_end 2 (some .int) 1 := ⟨cd_yX10_end, ii_X10, by decide, by decide, by decide +kernel⟩
set_option maxRecDepth 100000 in
theorem c_X10_end {l : Launch} {E : EE} {G : GG} {x0 : Nat} {x1 : Int32} {m m9 : MM} {r9 : Int32} (hM : M_X10_end G x0 x1 m = some (r9, m9)) (tx0 : Ty E G x0 10) : Mc l E yX10_end cX10_end 2 (some .int) rmX10_end [.ref x0, .int x1] G m (cQi E r9 G m9) := M_of (by decide) (Nat.le_of_ble_eq_true rfl) (fun p e s mth below meth c C h ls hl => cM_X10_end C hM tx0 _ _ h ls hl)
abbrev rmX10_takeSpare : Room := { frames := 0, cells := 0, slots := 0, locals := 0 }
def M_X10_takeSpare (G : GG) (x0 : Nat) (m : MM) : Option (Unit × MM) :=
  nb (gR m x0 0) fun b_4 =>
    nb (gR (sR (sR (sR m x0 0 (gR m x0 1)) x0 1 (gR m x0 0)) x0 2 (gR (sR (sR m x0 0 (gR m x0 1)) x0 1 (gR m x0 0)) b_4 5)) x0 2) fun b_6 =>
      nb (gR (sI (sR (sR (sR m x0 0 (gR m x0 1)) x0 1 (gR m x0 0)) x0 2 (gR (sR (sR m x0 0 (gR m x0 1)) x0 1 (gR m x0 0)) b_4 5)) b_6 1 0) x0 6) fun b_7 =>
        some ((), sI (sI (sI (sR (sR (sR m x0 0 (gR m x0 1)) x0 1 (gR m x0 0)) x0 2 (gR (sR (sR m x0 0 (gR m x0 1)) x0 1 (gR m x0 0)) b_4 5)) b_6 1 0) b_7 2 0) x0 9 0)
set_option maxRecDepth 100000 in
set_option maxHeartbeats 4000000 in
theorem cM_X10_takeSpare {p : Program} {l : Launch} {e : Env} {s : State} {mth : MethodId} {args : Array Value} {below : List Frame} {meth : Method} {c : Code} {E : EE} {G : GG} {r9 : Unit} {m9 : MM} (C : Cx E G p s mth args meth c cX10_takeSpare RX10 "takeSpare" 2 none) {x0 : Nat} {m : MM} (hM : M_X10_takeSpare G x0 m = some (r9, m9)) (tx0 : Ty E G x0 10) : ∀ (H : Heap) (locs : List Loc), Hp E G m s H locs → ∀ ls : Array Slot, lv_has ls 2 [(0, .ref x0)] → W p l e rmX10_takeSpare s mth args below meth c H locs 0 0 (MQ below (cQv E G m9) args s 0 0 (fun q => E.2.2.1 ≤ q)) (F0 mth 0 ls []) := by
  intro H locs h ls hl
  unfold M_X10_takeSpare at hM
  refine lv_aload_n C.1 C.2.1 dX10_takeSpare_0 rfl (lv_at hl 0 rfl) ?_
  refine gt_10_0 C h tx0 fl_X10_10 dX10_takeSpare_1 ?_
  have tq_1 : ∀ b, gR m x0 0 = some b → Ty E G b 6 := (fun b hb => tyf h tx0 hb)
  refine h_astore_n (lv' := [(1, va_rf (gR m x0 0)), (0, .ref x0)]) C.1 C.2.1 dX10_takeSpare_4 rfl hl (by decide) rfl (fun ls hl => ?_)
  refine lv_aload_n C.1 C.2.1 dX10_takeSpare_5 rfl (lv_at hl 1 rfl) ?_
  refine lv_aload_n C.1 C.2.1 dX10_takeSpare_6 rfl (lv_at hl 1 rfl) ?_
  refine gt_10_1 C h tx0 fl_X10_16 dX10_takeSpare_7 ?_
  have tq_2 : ∀ b, gR m x0 1 = some b → Ty E G b 6 := (fun b hb => tyf h tx0 hb)
  refine pt_10_0 C h tq_2 tx0 fl_X10_10 dX10_takeSpare_10 (fun H locs h => ?_)
  refine lv_aload_n C.1 C.2.1 dX10_takeSpare_13 rfl (lv_at hl 1 rfl) ?_
  refine h_aload_n C.1 C.2.1 dX10_takeSpare_14 rfl (lv_at hl 0 rfl) ?_
  have tq_3 : ∀ b, gR m x0 0 = some b → Ty E G b 6 := tq_1
  refine pt_10_1 C h tq_3 tx0 fl_X10_16 dX10_takeSpare_15 (fun H locs h => ?_)
  refine lv_aload_n C.1 C.2.1 dX10_takeSpare_18 rfl (lv_at hl 1 rfl) ?_
  refine h_aload_n C.1 C.2.1 dX10_takeSpare_19 rfl (lv_at hl 0 rfl) ?_
  obtain ⟨b_4, hb_4, hM⟩ := nb_some hM
  have tb_4 : Ty E G b_4 6 := tq_1 _ hb_4
  refine st_ref hb_4 ?_
  refine gt_6_5 C h tb_4 fl_X10_92 dX10_takeSpare_20 ?_
  have tq_5 : ∀ b, gR (sR (sR m x0 0 (gR m x0 1)) x0 1 (gR m x0 0)) b_4 5 = some b → Ty E G b 8 := (fun b hb => tyf h tb_4 hb)
  refine pt_10_2 C h tq_5 tx0 fl_X10_22 dX10_takeSpare_23 (fun H locs h => ?_)
  refine lv_aload_n C.1 C.2.1 dX10_takeSpare_26 rfl (lv_at hl 1 rfl) ?_
  refine gt_10_2 C h tx0 fl_X10_22 dX10_takeSpare_27 ?_
  obtain ⟨b_6, hb_6, hM⟩ := nb_some hM
  have tb_6 : Ty E G b_6 8 := (fun b hb => tyf h tx0 hb) _ hb_6
  refine st_ref hb_6 ?_
  refine lv_iconst (v := 0) C.1 C.2.1 dX10_takeSpare_30 (by decide) ?_
  refine pt_8_1 C h tb_6 fl_X10_62 dX10_takeSpare_31 (fun H locs h => ?_)
  refine lv_aload_n C.1 C.2.1 dX10_takeSpare_34 rfl (lv_at hl 1 rfl) ?_
  refine gt_10_6 C h tx0 fl_X10_50 dX10_takeSpare_35 ?_
  obtain ⟨b_7, hb_7, hM⟩ := nb_some hM
  have tb_7 : Ty E G b_7 7 := (fun b hb => tyf h tx0 hb) _ hb_7
  refine st_ref hb_7 ?_
  refine lv_iconst (v := 0) C.1 C.2.1 dX10_takeSpare_38 (by decide) ?_
  refine pt_7_2 C h tb_7 fl_X10_95 dX10_takeSpare_39 (fun H locs h => ?_)
  refine lv_aload_n C.1 C.2.1 dX10_takeSpare_42 rfl (lv_at hl 1 rfl) ?_
  refine lv_iconst (v := 0) C.1 C.2.1 dX10_takeSpare_43 (by decide) ?_
  refine pt_10_9 C h tx0 fl_X10_98 dX10_takeSpare_44 (fun H locs h => ?_)
  obtain ⟨rfl, rfl⟩ := so_inj hM
  exact h_vret C h dX10_takeSpare_47
theorem cy_X10_takeSpare : Cy yX10_takeSpare cX10_takeSpare 2 none 0 := ⟨cd_yX10_takeSpare, ii_X10, by decide, by decide, by decide +kernel⟩
set_option maxRecDepth 100000 in
theorem c_X10_takeSpare {l : Launch} {E : EE} {G : GG} {x0 : Nat} {m m9 : MM} {r9 : Unit} (hM : M_X10_takeSpare G x0 m = some (r9, m9)) (tx0 : Ty E G x0 10) : Mc l E yX10_takeSpare cX10_takeSpare 2 none rmX10_takeSpare [.ref x0] G m (cQv E G m9) := M_of (by decide) (Nat.le_of_ble_eq_true rfl) (fun p e s mth below meth c C h ls hl => cM_X10_takeSpare C hM tx0 _ _ h ls hl)
abbrev rmX10_load : Room := { frames := 9, cells := 0, slots := 0, locals := 203 }
def B_X10_load_51 (G : GG) (x0 : Nat) (m : MM) : Option (Int32 × MM) :=
  nb (gR m x0 3) fun b_1 =>
    if (gI m b_1 0) = 0 then
      bd (M_X10_takeSpare G x0 m) fun _ m_3 =>
        nb (gR m_3 x0 0) fun b_4 =>
          some (gI m_3 b_4 3, m_3)
    else
      nb (gR m x0 2) fun b_5 =>
        nb (gR (sI m b_5 1 0) x0 3) fun b_6 =>
          some ((-10) - (gI (sI m b_5 1 0) b_6 0), sI m b_5 1 0)
set_option maxRecDepth 100000 in
set_option maxHeartbeats 4000000 in
theorem cB_X10_load_51 {p : Program} {l : Launch} {e : Env} {s : State} {mth : MethodId} {args : Array Value} {below : List Frame} {meth : Method} {c : Code} {E : EE} {G : GG} {r9 : Int32} {m9 : MM} (C : Cx E G p s mth args meth c cX10_load RX10 "load" 1 (some .int)) {x0 : Nat} {m : MM} (hM : B_X10_load_51 G x0 m = some (r9, m9)) (tx0 : Ty E G x0 10) : ∀ (H : Heap) (locs : List Loc), Hp E G m s H locs → ∀ ls : Array Slot, lv_has ls 1 [(0, .ref x0)] → W p l e rmX10_load s mth args below meth c H locs 0 0 (MQ below (cQi E r9 G m9) args s 0 0 (fun q => E.2.2.1 ≤ q)) (F0 mth 51 ls []) := by
  intro H locs h ls hl
  unfold B_X10_load_51 at hM
  refine lv_aload_n C.1 C.2.1 dX10_load_51 rfl (lv_at hl 0 rfl) ?_
  refine gt_10_3 C h tx0 fl_X10_29 dX10_load_52 ?_
  obtain ⟨b_1, hb_1, hM⟩ := nb_some hM
  have tb_1 : Ty E G b_1 3 := (fun b hb => tyf h tx0 hb) _ hb_1
  refine st_ref hb_1 ?_
  refine gt_3_0 C h tb_1 fl_X10_83 dX10_load_55 ?_
  refine lv_if_eq (tgt := 80) C.1 C.2.1 dX10_load_58 (by decide) (fun q => ?_) (fun q => ?_)
  · have hM := ite_t q hM
    refine lv_aload_n C.1 C.2.1 dX10_load_80 rfl (lv_at hl 0 rfl) ?_
    obtain ⟨r_2, m_3, hc_2, hM⟩ := bd_some hM
    refine h_callVv C h (As := []) (rest := []) m_3 (c_X10_takeSpare hc_2 tx0) 10 rfl (by decide) tx0 im_yX10_takeSpare se_yX10_takeSpare cy_X10_takeSpare rfl ml_X10_86 ⟨by decide, by decide⟩ ⟨Nat.zero_le _, Nat.zero_le _⟩ hl.1 rfl (Nat.le_of_ble_eq_true rfl) dX10_load_81 (fun H locs h => ?_)
    refine lv_aload_n C.1 C.2.1 dX10_load_84 rfl (lv_at hl 0 rfl) ?_
    refine gt_10_0 C h tx0 fl_X10_10 dX10_load_85 ?_
    obtain ⟨b_4, hb_4, hM⟩ := nb_some hM
    have tb_4 : Ty E G b_4 6 := (fun b hb => tyf h tx0 hb) _ hb_4
    refine st_ref hb_4 ?_
    refine gt_6_3 C h tb_4 fl_X10_89 dX10_load_88 ?_
    obtain ⟨rfl, rfl⟩ := so_inj hM
    exact h_iret C h dX10_load_91
  · have hM := ite_f q hM
    refine lv_aload_n C.1 C.2.1 dX10_load_61 rfl (lv_at hl 0 rfl) ?_
    refine gt_10_2 C h tx0 fl_X10_22 dX10_load_62 ?_
    obtain ⟨b_5, hb_5, hM⟩ := nb_some hM
    have tb_5 : Ty E G b_5 8 := (fun b hb => tyf h tx0 hb) _ hb_5
    refine st_ref hb_5 ?_
    refine lv_iconst (v := 0) C.1 C.2.1 dX10_load_65 (by decide) ?_
    refine pt_8_1 C h tb_5 fl_X10_62 dX10_load_66 (fun H locs h => ?_)
    refine lv_bipush (v := (-10)) C.1 C.2.1 dX10_load_69 (by decide) ?_
    refine lv_aload_n C.1 C.2.1 dX10_load_71 rfl (lv_at hl 0 rfl) ?_
    refine gt_10_3 C h tx0 fl_X10_29 dX10_load_72 ?_
    obtain ⟨b_6, hb_6, hM⟩ := nb_some hM
    have tb_6 : Ty E G b_6 3 := (fun b hb => tyf h tx0 hb) _ hb_6
    refine st_ref hb_6 ?_
    refine gt_3_0 C h tb_6 fl_X10_83 dX10_load_75 ?_
    refine lv_isub C.1 C.2.1 dX10_load_78 ?_
    obtain ⟨rfl, rfl⟩ := so_inj hM
    exact h_iret C h dX10_load_79
def M_X10_load (G : GG) (x0 : Nat) (m : MM) : Option (Int32 × MM) :=
  nb (gR m x0 3) fun b_7 =>
    bd (M_X3_forget G b_7 m) fun _ m_9 =>
      nb (gR m_9 x0 1) fun b_10 =>
        nb (gR m_9 x0 2) fun b_11 =>
          bd (M_X6_begin G b_10 b_11 m_9) fun _ m_13 =>
            nb (gR m_13 x0 4) fun b_14 =>
              nb (gR m_13 x0 1) fun b_15 =>
                nb (gR m_13 x0 3) fun b_16 =>
                  bd (M_X5_readText G b_14 b_15 b_16 m_13) fun r_17 m_18 =>
                    if r_17 = true then
                      nb (gR m_18 x0 5) fun b_19 =>
                        nb (gR m_18 x0 1) fun b_20 =>
                          nb (gR m_18 x0 3) fun b_21 =>
                            bd (M_X0_bind G b_19 b_20 b_21 m_18) fun _ m_23 =>
                              B_X10_load_51 G x0 m_23
                    else
                      B_X10_load_51 G x0 m_18
set_option maxRecDepth 100000 in
set_option maxHeartbeats 4000000 in
theorem cM_X10_load {p : Program} {l : Launch} {e : Env} {s : State} {mth : MethodId} {args : Array Value} {below : List Frame} {meth : Method} {c : Code} {E : EE} {G : GG} {r9 : Int32} {m9 : MM} (C : Cx E G p s mth args meth c cX10_load RX10 "load" 1 (some .int)) {x0 : Nat} {m : MM} (hM : M_X10_load G x0 m = some (r9, m9)) (tx0 : Ty E G x0 10) : ∀ (H : Heap) (locs : List Loc), Hp E G m s H locs → ∀ ls : Array Slot, lv_has ls 1 [(0, .ref x0)] → W p l e rmX10_load s mth args below meth c H locs 0 0 (MQ below (cQi E r9 G m9) args s 0 0 (fun q => E.2.2.1 ≤ q)) (F0 mth 0 ls []) := by
  intro H locs h ls hl
  unfold M_X10_load at hM
  refine lv_aload_n C.1 C.2.1 dX10_load_0 rfl (lv_at hl 0 rfl) ?_
  refine gt_10_3 C h tx0 fl_X10_29 dX10_load_1 ?_
  obtain ⟨b_7, hb_7, hM⟩ := nb_some hM
  have tb_7 : Ty E G b_7 3 := (fun b hb => tyf h tx0 hb) _ hb_7
  refine st_ref hb_7 ?_
  obtain ⟨r_8, m_9, hc_8, hM⟩ := bd_some hM
  refine h_callVv C h (As := []) (rest := []) m_9 (c_X3_forget hc_8 tb_7) 3 rfl (by decide) tb_7 im_yX3_forget se_yX3_forget cy_X3_forget rfl ml_X10_72 ⟨by decide, by decide⟩ ⟨Nat.zero_le _, Nat.zero_le _⟩ hl.1 rfl (Nat.le_of_ble_eq_true rfl) dX10_load_4 (fun H locs h => ?_)
  refine lv_aload_n C.1 C.2.1 dX10_load_7 rfl (lv_at hl 0 rfl) ?_
  refine gt_10_1 C h tx0 fl_X10_16 dX10_load_8 ?_
  obtain ⟨b_10, hb_10, hM⟩ := nb_some hM
  have tb_10 : Ty E G b_10 6 := (fun b hb => tyf h tx0 hb) _ hb_10
  refine st_ref hb_10 ?_
  refine lv_aload_n C.1 C.2.1 dX10_load_11 rfl (lv_at hl 0 rfl) ?_
  refine gt_10_2 C h tx0 fl_X10_22 dX10_load_12 ?_
  obtain ⟨b_11, hb_11, hM⟩ := nb_some hM
  have tb_11 : Ty E G b_11 8 := (fun b hb => tyf h tx0 hb) _ hb_11
  refine st_ref hb_11 ?_
  obtain ⟨r_12, m_13, hc_12, hM⟩ := bd_some hM
  refine h_callVv C h (As := [.ref b_11]) (rest := []) m_13 (c_X6_begin hc_12 tb_10 tb_11) 6 rfl (by decide) tb_10 im_yX6_begin se_yX6_begin cy_X6_begin rfl ml_X10_58 ⟨by decide, by decide⟩ ⟨Nat.zero_le _, Nat.zero_le _⟩ hl.1 rfl (Nat.le_of_ble_eq_true rfl) dX10_load_15 (fun H locs h => ?_)
  refine lv_aload_n C.1 C.2.1 dX10_load_18 rfl (lv_at hl 0 rfl) ?_
  refine gt_10_4 C h tx0 fl_X10_36 dX10_load_19 ?_
  obtain ⟨b_14, hb_14, hM⟩ := nb_some hM
  have tb_14 : Ty E G b_14 5 := (fun b hb => tyf h tx0 hb) _ hb_14
  refine st_ref hb_14 ?_
  refine lv_aload_n C.1 C.2.1 dX10_load_22 rfl (lv_at hl 0 rfl) ?_
  refine gt_10_1 C h tx0 fl_X10_16 dX10_load_23 ?_
  obtain ⟨b_15, hb_15, hM⟩ := nb_some hM
  have tb_15 : Ty E G b_15 6 := (fun b hb => tyf h tx0 hb) _ hb_15
  refine st_ref hb_15 ?_
  refine lv_aload_n C.1 C.2.1 dX10_load_26 rfl (lv_at hl 0 rfl) ?_
  refine gt_10_3 C h tx0 fl_X10_29 dX10_load_27 ?_
  obtain ⟨b_16, hb_16, hM⟩ := nb_some hM
  have tb_16 : Ty E G b_16 3 := (fun b hb => tyf h tx0 hb) _ hb_16
  refine st_ref hb_16 ?_
  obtain ⟨r_17, m_18, hc_17, hM⟩ := bd_some hM
  refine h_callVi C h (As := [.ref b_15, .ref b_16]) (rest := []) (bz r_17) m_18 (c_X5_readText hc_17 tb_14 tb_15 tb_16) 5 rfl (by decide) tb_14 im_yX5_readText se_yX5_readText cy_X5_readText rfl ml_X10_75 ⟨by decide, by decide⟩ ⟨Nat.zero_le _, Nat.zero_le _⟩ hl.1 rfl (Nat.le_of_ble_eq_true rfl) dX10_load_30 (fun H locs h => ?_)
  refine h_ifz (tgt := 51) C.1 C.2.1 dX10_load_33 (by decide) (fun q => ?_) (fun q => ?_)
  · have hM := ite_f q hM
    exact cB_X10_load_51 C hM tx0 _ _ h ls (lv_sub hl [0] rfl)
  · have hM := ite_t q hM
    refine lv_aload_n C.1 C.2.1 dX10_load_36 rfl (lv_at hl 0 rfl) ?_
    refine gt_10_5 C h tx0 fl_X10_43 dX10_load_37 ?_
    obtain ⟨b_19, hb_19, hM⟩ := nb_some hM
    have tb_19 : Ty E G b_19 0 := (fun b hb => tyf h tx0 hb) _ hb_19
    refine st_ref hb_19 ?_
    refine lv_aload_n C.1 C.2.1 dX10_load_40 rfl (lv_at hl 0 rfl) ?_
    refine gt_10_1 C h tx0 fl_X10_16 dX10_load_41 ?_
    obtain ⟨b_20, hb_20, hM⟩ := nb_some hM
    have tb_20 : Ty E G b_20 6 := (fun b hb => tyf h tx0 hb) _ hb_20
    refine st_ref hb_20 ?_
    refine lv_aload_n C.1 C.2.1 dX10_load_44 rfl (lv_at hl 0 rfl) ?_
    refine gt_10_3 C h tx0 fl_X10_29 dX10_load_45 ?_
    obtain ⟨b_21, hb_21, hM⟩ := nb_some hM
    have tb_21 : Ty E G b_21 3 := (fun b hb => tyf h tx0 hb) _ hb_21
    refine st_ref hb_21 ?_
    obtain ⟨r_22, m_23, hc_22, hM⟩ := bd_some hM
    refine h_callVv C h (As := [.ref b_20, .ref b_21]) (rest := []) m_23 (c_X0_bind hc_22 tb_19 tb_20 tb_21) 0 rfl (by decide) tb_19 im_yX0_bind se_yX0_bind cy_X0_bind rfl ml_X10_79 ⟨by decide, by decide⟩ ⟨Nat.zero_le _, Nat.zero_le _⟩ hl.1 rfl (Nat.le_of_ble_eq_true rfl) dX10_load_48 (fun H locs h => ?_)
    exact cB_X10_load_51 C hM tx0 _ _ h ls (lv_sub hl [0] rfl)
theorem cy_X10_load : Cy yX10_load cX10_load 1 (some .int) 0 := ⟨cd_yX10_load, ii_X10, by decide, by decide, by decide +kernel⟩
set_option maxRecDepth 100000 in
theorem c_X10_load {l : Launch} {E : EE} {G : GG} {x0 : Nat} {m m9 : MM} {r9 : Int32} (hM : M_X10_load G x0 m = some (r9, m9)) (tx0 : Ty E G x0 10) : Mc l E yX10_load cX10_load 1 (some .int) rmX10_load [.ref x0] G m (cQi E r9 G m9) := M_of (by decide) (Nat.le_of_ble_eq_true rfl) (fun p e s mth below meth c C h ls hl => cM_X10_load C hM tx0 _ _ h ls hl)
abbrev rmX10_fault : Room := { frames := 0, cells := 0, slots := 0, locals := 0 }
def M_X10_fault (G : GG) (x0 : Nat) (x1 : Int32) (m : MM) : Option (Int32 × MM) :=
  if x1 < 0 then
    some ((-1000002), m)
  else
    if x1 ≤ 1 then
      if x1 = 0 then
        nb (gR m x0 3) fun b_2 =>
          some (gI m b_2 0, m)
      else
        nb (gR m x0 3) fun b_1 =>
          if (gI m b_1 0) = 0 then
            some ((-1000009), m)
          else
            some (gI m b_1 1, m)
    else
      some ((-1000002), m)
set_option maxRecDepth 100000 in
set_option maxHeartbeats 4000000 in
theorem cM_X10_fault {p : Program} {l : Launch} {e : Env} {s : State} {mth : MethodId} {args : Array Value} {below : List Frame} {meth : Method} {c : Code} {E : EE} {G : GG} {r9 : Int32} {m9 : MM} (C : Cx E G p s mth args meth c cX10_fault RX10 "fault" 2 (some .int)) {x0 : Nat} {x1 : Int32} {m : MM} (hM : M_X10_fault G x0 x1 m = some (r9, m9)) (tx0 : Ty E G x0 10) : ∀ (H : Heap) (locs : List Loc), Hp E G m s H locs → ∀ ls : Array Slot, lv_has ls 2 [(0, .ref x0), (1, .int x1)] → W p l e rmX10_fault s mth args below meth c H locs 0 0 (MQ below (cQi E r9 G m9) args s 0 0 (fun q => E.2.2.1 ≤ q)) (F0 mth 0 ls []) := by
  intro H locs h ls hl
  unfold M_X10_fault at hM
  refine lv_iload_n C.1 C.2.1 dX10_fault_0 rfl (lv_at hl 1 rfl) ?_
  refine lv_if_lt (tgt := 9) C.1 C.2.1 dX10_fault_1 (by decide) (fun q => ?_) (fun q => ?_)
  · have hM := ite_t q hM
    refine lv_ldc C.1 C.2.1 C.2.2.2.1 (C.2.2.2.2.1 _ co_X10_71) dX10_fault_9 ?_
    obtain ⟨rfl, rfl⟩ := so_inj hM
    exact h_iret C h dX10_fault_11
  · have hM := ite_f q hM
    refine lv_iload_n C.1 C.2.1 dX10_fault_4 rfl (lv_at hl 1 rfl) ?_
    refine lv_iconst (v := 1) C.1 C.2.1 dX10_fault_5 (by decide) ?_
    refine lv_icmp_le (tgt := 12) C.1 C.2.1 dX10_fault_6 (by decide) (fun q => ?_) (fun q => ?_)
    · have hM := ite_t q hM
      refine lv_iload_n C.1 C.2.1 dX10_fault_12 rfl (lv_at hl 1 rfl) ?_
      refine lv_if_ne (tgt := 24) C.1 C.2.1 dX10_fault_13 (by decide) (fun q => ?_) (fun q => ?_)
      · have hM := ite_f q hM
        refine lv_aload_n C.1 C.2.1 dX10_fault_24 rfl (lv_at hl 0 rfl) ?_
        refine gt_10_3 C h tx0 fl_X10_29 dX10_fault_25 ?_
        obtain ⟨b_1, hb_1, hM⟩ := nb_some hM
        have tb_1 : Ty E G b_1 3 := (fun b hb => tyf h tx0 hb) _ hb_1
        refine st_ref hb_1 ?_
        refine gt_3_0 C h tb_1 fl_X10_83 dX10_fault_28 ?_
        refine lv_if_ne (tgt := 39) C.1 C.2.1 dX10_fault_31 (by decide) (fun q => ?_) (fun q => ?_)
        · have hM := ite_f q hM
          refine lv_aload_n C.1 C.2.1 dX10_fault_39 rfl (lv_at hl 0 rfl) ?_
          refine gt_10_3 C h tx0 fl_X10_29 dX10_fault_40 ?_
          refine st_ref hb_1 ?_
          refine gt_3_1 C h tb_1 fl_X10_102 dX10_fault_43 ?_
          obtain ⟨rfl, rfl⟩ := so_inj hM
          exact h_iret C h dX10_fault_46
        · have hM := ite_t q hM
          refine lv_ldc C.1 C.2.1 C.2.2.2.1 (C.2.2.2.2.1 _ co_X10_101) dX10_fault_34 ?_
          refine lv_goto (tgt := 46) C.1 C.2.1 dX10_fault_36 (by decide) ?_
          obtain ⟨rfl, rfl⟩ := so_inj hM
          exact h_iret C h dX10_fault_46
      · have hM := ite_t q hM
        refine lv_aload_n C.1 C.2.1 dX10_fault_16 rfl (lv_at hl 0 rfl) ?_
        refine gt_10_3 C h tx0 fl_X10_29 dX10_fault_17 ?_
        obtain ⟨b_2, hb_2, hM⟩ := nb_some hM
        have tb_2 : Ty E G b_2 3 := (fun b hb => tyf h tx0 hb) _ hb_2
        refine st_ref hb_2 ?_
        refine gt_3_0 C h tb_2 fl_X10_83 dX10_fault_20 ?_
        obtain ⟨rfl, rfl⟩ := so_inj hM
        exact h_iret C h dX10_fault_23
    · have hM := ite_f q hM
      refine lv_ldc C.1 C.2.1 C.2.2.2.1 (C.2.2.2.2.1 _ co_X10_71) dX10_fault_9 ?_
      obtain ⟨rfl, rfl⟩ := so_inj hM
      exact h_iret C h dX10_fault_11
theorem cy_X10_fault : Cy yX10_fault cX10_fault 2 (some .int) 1 := ⟨cd_yX10_fault, ii_X10, by decide, by decide, by decide +kernel⟩
set_option maxRecDepth 100000 in
theorem c_X10_fault {l : Launch} {E : EE} {G : GG} {x0 : Nat} {x1 : Int32} {m m9 : MM} {r9 : Int32} (hM : M_X10_fault G x0 x1 m = some (r9, m9)) (tx0 : Ty E G x0 10) : Mc l E yX10_fault cX10_fault 2 (some .int) rmX10_fault [.ref x0, .int x1] G m (cQi E r9 G m9) := M_of (by decide) (Nat.le_of_ble_eq_true rfl) (fun p e s mth below meth c C h ls hl => cM_X10_fault C hM tx0 _ _ h ls hl)
abbrev rmX10_cause : Room := { frames := 0, cells := 0, slots := 0, locals := 0 }
def M_X10_cause (G : GG) (x0 : Nat) (m : MM) : Option (Int32 × MM) :=
  some (gI m x0 10, m)
set_option maxRecDepth 100000 in
set_option maxHeartbeats 4000000 in
theorem cM_X10_cause {p : Program} {l : Launch} {e : Env} {s : State} {mth : MethodId} {args : Array Value} {below : List Frame} {meth : Method} {c : Code} {E : EE} {G : GG} {r9 : Int32} {m9 : MM} (C : Cx E G p s mth args meth c cX10_cause RX10 "cause" 1 (some .int)) {x0 : Nat} {m : MM} (hM : M_X10_cause G x0 m = some (r9, m9)) (tx0 : Ty E G x0 10) : ∀ (H : Heap) (locs : List Loc), Hp E G m s H locs → ∀ ls : Array Slot, lv_has ls 1 [(0, .ref x0)] → W p l e rmX10_cause s mth args below meth c H locs 0 0 (MQ below (cQi E r9 G m9) args s 0 0 (fun q => E.2.2.1 ≤ q)) (F0 mth 0 ls []) := by
  intro H locs h ls hl
  unfold M_X10_cause at hM
  refine lv_aload_n C.1 C.2.1 dX10_cause_0 rfl (lv_at hl 0 rfl) ?_
  refine gt_10_10 C h tx0 fl_X10_105 dX10_cause_1 ?_
  obtain ⟨rfl, rfl⟩ := so_inj hM
  exact h_iret C h dX10_cause_4
theorem cy_X10_cause : Cy yX10_cause cX10_cause 1 (some .int) 0 := ⟨cd_yX10_cause, ii_X10, by decide, by decide, by decide +kernel⟩
set_option maxRecDepth 100000 in
theorem c_X10_cause {l : Launch} {E : EE} {G : GG} {x0 : Nat} {m m9 : MM} {r9 : Int32} (hM : M_X10_cause G x0 m = some (r9, m9)) (tx0 : Ty E G x0 10) : Mc l E yX10_cause cX10_cause 1 (some .int) rmX10_cause [.ref x0] G m (cQi E r9 G m9) := M_of (by decide) (Nat.le_of_ble_eq_true rfl) (fun p e s mth below meth c C h ls hl => cM_X10_cause C hM tx0 _ _ h ls hl)
abbrev rmX10_told : Room := { frames := 1, cells := 0, slots := 0, locals := 21 }
def M_X10_told (G : GG) (x0 : Nat) (x1 : Int32) (x2 : Int32) (m : MM) : Option (Int32 × MM) :=
  nb (gR m x0 0) fun b_1 =>
    bd (M_X6_enumAt G b_1 x1 m) fun r_2 m_3 =>
      el r_2 (
        some ((-1000001), m_3)
      ) fun b_6 =>
        if x2 = 0 then
          some (gI m_3 b_6 12, m_3)
        else
          if x2 = 1 then
            some (gI m_3 b_6 13, m_3)
          else
            if x2 = 2 then
              some (gI m_3 b_6 15, m_3)
            else
              if x2 = 3 then
                some ((gI m_3 b_6 14) - (gI m_3 b_6 15), m_3)
              else
                if x2 = 4 then
                  some (gI m_3 b_6 17, m_3)
                else
                  some ((-1000002), m_3)
set_option maxRecDepth 100000 in
set_option maxHeartbeats 4000000 in
theorem cM_X10_told {p : Program} {l : Launch} {e : Env} {s : State} {mth : MethodId} {args : Array Value} {below : List Frame} {meth : Method} {c : Code} {E : EE} {G : GG} {r9 : Int32} {m9 : MM} (C : Cx E G p s mth args meth c cX10_told RX10 "told" 4 (some .int)) {x0 : Nat} {x1 : Int32} {x2 : Int32} {m : MM} (hM : M_X10_told G x0 x1 x2 m = some (r9, m9)) (tx0 : Ty E G x0 10) : ∀ (H : Heap) (locs : List Loc), Hp E G m s H locs → ∀ ls : Array Slot, lv_has ls 4 [(0, .ref x0), (1, .int x1), (2, .int x2)] → W p l e rmX10_told s mth args below meth c H locs 0 0 (MQ below (cQi E r9 G m9) args s 0 0 (fun q => E.2.2.1 ≤ q)) (F0 mth 0 ls []) := by
  intro H locs h ls hl
  unfold M_X10_told at hM
  refine lv_aload_n C.1 C.2.1 dX10_told_0 rfl (lv_at hl 0 rfl) ?_
  refine gt_10_0 C h tx0 fl_X10_10 dX10_told_1 ?_
  obtain ⟨b_1, hb_1, hM⟩ := nb_some hM
  have tb_1 : Ty E G b_1 6 := (fun b hb => tyf h tx0 hb) _ hb_1
  refine st_ref hb_1 ?_
  refine lv_iload_n C.1 C.2.1 dX10_told_4 rfl (lv_at hl 1 rfl) ?_
  obtain ⟨r_2, m_3, hc_2, hM⟩ := bd_some hM
  refine h_callVq C h (As := [.int x1]) (rest := []) r_2 1 m_3 (c_X6_enumAt hc_2 tb_1) 6 rfl (by decide) tb_1 im_yX6_enumAt se_yX6_enumAt cy_X6_enumAt rfl ml_X10_108 ⟨by decide, by decide⟩ ⟨Nat.zero_le _, Nat.zero_le _⟩ hl.1 rfl (Nat.le_of_ble_eq_true rfl) dX10_told_5 (fun tq_2 H locs h => ?_)
  have tq_4 : ∀ b, r_2 = some b → Ty E G b 1 := tq_2
  refine h_astore_n (lv' := [(3, va_rf r_2), (0, .ref x0), (1, .int x1), (2, .int x2)]) C.1 C.2.1 dX10_told_8 rfl hl (by decide) rfl (fun ls hl => ?_)
  refine h_aload_n C.1 C.2.1 dX10_told_9 rfl (lv_at hl 0 rfl) ?_
  have tq_5 : ∀ b, r_2 = some b → Ty E G b 1 := tq_4
  refine h_ifnonnull (tgt := 16) (x := r_2) C.1 C.2.1 dX10_told_10 (by decide) (fun q => ?_) (fun b_6 hb_6 => ?_)
  · have hM := el_none q hM
    refine lv_ldc C.1 C.2.1 C.2.2.2.1 (C.2.2.2.2.1 _ co_X10_112) dX10_told_13 ?_
    obtain ⟨rfl, rfl⟩ := so_inj hM
    exact h_iret C h dX10_told_15
  · have hM := el_some hb_6 hM
    have tb_6 := tq_5 _ hb_6
    refine lv_iload_n C.1 C.2.1 dX10_told_16 rfl (lv_at hl 3 rfl) ?_
    by_cases q0 : x2 = 0
    · have hM := ite_t q0 hM
      refine h_tabIn q0 (tgt := 52) C.1 C.2.1 dX10_told_17 (by decide) (by decide) rfl (by decide) ?_
      refine h_aload_n C.1 C.2.1 dX10_told_52 rfl (lv_at hl 0 rfl) ?_
      refine st_ref hb_6 ?_
      refine gt_1_12 C h tb_6 fl_X10_113 dX10_told_53 ?_
      obtain ⟨rfl, rfl⟩ := so_inj hM
      exact h_iret C h dX10_told_56
    · have hM := ite_f q0 hM
      by_cases q1 : x2 = 1
      · have hM := ite_t q1 hM
        refine h_tabIn q1 (tgt := 57) C.1 C.2.1 dX10_told_17 (by decide) (by decide) rfl (by decide) ?_
        refine h_aload_n C.1 C.2.1 dX10_told_57 rfl (lv_at hl 0 rfl) ?_
        refine st_ref hb_6 ?_
        refine gt_1_13 C h tb_6 fl_X10_118 dX10_told_58 ?_
        obtain ⟨rfl, rfl⟩ := so_inj hM
        exact h_iret C h dX10_told_61
      · have hM := ite_f q1 hM
        by_cases q2 : x2 = 2
        · have hM := ite_t q2 hM
          refine h_tabIn q2 (tgt := 62) C.1 C.2.1 dX10_told_17 (by decide) (by decide) rfl (by decide) ?_
          refine h_aload_n C.1 C.2.1 dX10_told_62 rfl (lv_at hl 0 rfl) ?_
          refine st_ref hb_6 ?_
          refine gt_1_15 C h tb_6 fl_X10_121 dX10_told_63 ?_
          obtain ⟨rfl, rfl⟩ := so_inj hM
          exact h_iret C h dX10_told_66
        · have hM := ite_f q2 hM
          by_cases q3 : x2 = 3
          · have hM := ite_t q3 hM
            refine h_tabIn q3 (tgt := 67) C.1 C.2.1 dX10_told_17 (by decide) (by decide) rfl (by decide) ?_
            refine h_aload_n C.1 C.2.1 dX10_told_67 rfl (lv_at hl 0 rfl) ?_
            refine st_ref hb_6 ?_
            refine gt_1_14 C h tb_6 fl_X10_124 dX10_told_68 ?_
            refine h_aload_n C.1 C.2.1 dX10_told_71 rfl (lv_at hl 0 rfl) ?_
            refine st_ref hb_6 ?_
            refine gt_1_15 C h tb_6 fl_X10_121 dX10_told_72 ?_
            refine lv_isub C.1 C.2.1 dX10_told_75 ?_
            obtain ⟨rfl, rfl⟩ := so_inj hM
            exact h_iret C h dX10_told_76
          · have hM := ite_f q3 hM
            by_cases q4 : x2 = 4
            · have hM := ite_t q4 hM
              refine h_tabIn q4 (tgt := 77) C.1 C.2.1 dX10_told_17 (by decide) (by decide) rfl (by decide) ?_
              refine h_aload_n C.1 C.2.1 dX10_told_77 rfl (lv_at hl 0 rfl) ?_
              refine st_ref hb_6 ?_
              refine gt_1_17 C h tb_6 fl_X10_127 dX10_told_78 ?_
              obtain ⟨rfl, rfl⟩ := so_inj hM
              exact h_iret C h dX10_told_81
            · have hM := ite_f q4 hM
              refine h_tabOut (tgt := 82) (lo := 0) (n := 5) C.1 C.2.1 dX10_told_17 (by decide) (by decide) (by decide) (fun k hk => ?_) ?_
              · match k, hk with
                | 0, _ => exact q0
                | 1, _ => exact q1
                | 2, _ => exact q2
                | 3, _ => exact q3
                | 4, _ => exact q4
                | k + 5, hk => exact absurd hk (by omega)
              · refine lv_ldc C.1 C.2.1 C.2.2.2.1 (C.2.2.2.2.1 _ co_X10_71) dX10_told_82 ?_
                obtain ⟨rfl, rfl⟩ := so_inj hM
                exact h_iret C h dX10_told_84
theorem cy_X10_told : Cy yX10_told cX10_told 4 (some .int) 2 := ⟨cd_yX10_told, ii_X10, by decide, by decide, by decide +kernel⟩
set_option maxRecDepth 100000 in
theorem c_X10_told {l : Launch} {E : EE} {G : GG} {x0 : Nat} {x1 : Int32} {x2 : Int32} {m m9 : MM} {r9 : Int32} (hM : M_X10_told G x0 x1 x2 m = some (r9, m9)) (tx0 : Ty E G x0 10) : Mc l E yX10_told cX10_told 4 (some .int) rmX10_told [.ref x0, .int x1, .int x2] G m (cQi E r9 G m9) := M_of (by decide) (Nat.le_of_ble_eq_true rfl) (fun p e s mth below meth c C h ls hl => cM_X10_told C hM tx0 _ _ h ls hl)
abbrev rmX10_hasBody : Room := { frames := 1, cells := 0, slots := 0, locals := 21 }
def M_X10_hasBody (G : GG) (x0 : Nat) (x1 : Int32) (x2 : Int32) (m : MM) : Option (Int32 × MM) :=
  nb (gR m x0 0) fun b_1 =>
    bd (M_X6_enumAt G b_1 x1 m) fun r_2 m_3 =>
      el r_2 (
        some ((-1000001), m_3)
      ) fun b_6 =>
        bd (M_X1_hasConstant G b_6 x2 m_3) fun r_7 m_8 =>
          if r_7 = true then
            nb (gR m_8 b_6 2) fun b_9 =>
              ib x2 (G.2.2 b_9) <|
                if (gI m_8 b_9 x2.toNatClampNeg) = 0 then
                  some (0, m_8)
                else
                  some (1, m_8)
          else
            some ((-1000001), m_8)
set_option maxRecDepth 100000 in
set_option maxHeartbeats 4000000 in
theorem cM_X10_hasBody {p : Program} {l : Launch} {e : Env} {s : State} {mth : MethodId} {args : Array Value} {below : List Frame} {meth : Method} {c : Code} {E : EE} {G : GG} {r9 : Int32} {m9 : MM} (C : Cx E G p s mth args meth c cX10_hasBody RX10 "hasBody" 4 (some .int)) {x0 : Nat} {x1 : Int32} {x2 : Int32} {m : MM} (hM : M_X10_hasBody G x0 x1 x2 m = some (r9, m9)) (tx0 : Ty E G x0 10) : ∀ (H : Heap) (locs : List Loc), Hp E G m s H locs → ∀ ls : Array Slot, lv_has ls 4 [(0, .ref x0), (1, .int x1), (2, .int x2)] → W p l e rmX10_hasBody s mth args below meth c H locs 0 0 (MQ below (cQi E r9 G m9) args s 0 0 (fun q => E.2.2.1 ≤ q)) (F0 mth 0 ls []) := by
  intro H locs h ls hl
  unfold M_X10_hasBody at hM
  refine lv_aload_n C.1 C.2.1 dX10_hasBody_0 rfl (lv_at hl 0 rfl) ?_
  refine gt_10_0 C h tx0 fl_X10_10 dX10_hasBody_1 ?_
  obtain ⟨b_1, hb_1, hM⟩ := nb_some hM
  have tb_1 : Ty E G b_1 6 := (fun b hb => tyf h tx0 hb) _ hb_1
  refine st_ref hb_1 ?_
  refine lv_iload_n C.1 C.2.1 dX10_hasBody_4 rfl (lv_at hl 1 rfl) ?_
  obtain ⟨r_2, m_3, hc_2, hM⟩ := bd_some hM
  refine h_callVq C h (As := [.int x1]) (rest := []) r_2 1 m_3 (c_X6_enumAt hc_2 tb_1) 6 rfl (by decide) tb_1 im_yX6_enumAt se_yX6_enumAt cy_X6_enumAt rfl ml_X10_108 ⟨by decide, by decide⟩ ⟨Nat.zero_le _, Nat.zero_le _⟩ hl.1 rfl (Nat.le_of_ble_eq_true rfl) dX10_hasBody_5 (fun tq_2 H locs h => ?_)
  have tq_4 : ∀ b, r_2 = some b → Ty E G b 1 := tq_2
  refine h_astore_n (lv' := [(3, va_rf r_2), (0, .ref x0), (1, .int x1), (2, .int x2)]) C.1 C.2.1 dX10_hasBody_8 rfl hl (by decide) rfl (fun ls hl => ?_)
  refine h_aload_n C.1 C.2.1 dX10_hasBody_9 rfl (lv_at hl 0 rfl) ?_
  have tq_5 : ∀ b, r_2 = some b → Ty E G b 1 := tq_4
  refine h_ifnull (tgt := 21) (x := r_2) C.1 C.2.1 dX10_hasBody_10 (by decide) (fun q => ?_) (fun b_6 hb_6 => ?_)
  · have hM := el_none q hM
    refine lv_ldc C.1 C.2.1 C.2.2.2.1 (C.2.2.2.2.1 _ co_X10_112) dX10_hasBody_21 ?_
    obtain ⟨rfl, rfl⟩ := so_inj hM
    exact h_iret C h dX10_hasBody_23
  · have hM := el_some hb_6 hM
    have tb_6 := tq_5 _ hb_6
    refine h_aload_n C.1 C.2.1 dX10_hasBody_13 rfl (lv_at hl 0 rfl) ?_
    refine st_ref hb_6 ?_
    refine lv_iload_n C.1 C.2.1 dX10_hasBody_14 rfl (lv_at hl 3 rfl) ?_
    obtain ⟨r_7, m_8, hc_7, hM⟩ := bd_some hM
    refine h_callVi C h (As := [.int x2]) (rest := []) (bz r_7) m_8 (c_X1_hasConstant hc_7 tb_6) 1 rfl (by decide) tb_6 im_yX1_hasConstant se_yX1_hasConstant cy_X1_hasConstant rfl ml_X10_130 ⟨by decide, by decide⟩ ⟨Nat.zero_le _, Nat.zero_le _⟩ hl.1 rfl (Nat.le_of_ble_eq_true rfl) dX10_hasBody_15 (fun H locs h => ?_)
    refine h_ifnz (tgt := 24) C.1 C.2.1 dX10_hasBody_18 (by decide) (fun q => ?_) (fun q => ?_)
    · have hM := ite_t q hM
      refine h_aload_n C.1 C.2.1 dX10_hasBody_24 rfl (lv_at hl 0 rfl) ?_
      refine st_ref hb_6 ?_
      refine gt_1_2 C h tb_6 fl_X10_134 dX10_hasBody_25 ?_
      obtain ⟨b_9, hb_9, hM⟩ := nb_some hM
      have tb_9 : Ty E G b_9 14 := (fun b hb => tyf h tb_6 hb) _ hb_9
      refine st_ref hb_9 ?_
      refine lv_iload_n C.1 C.2.1 dX10_hasBody_28 rfl (lv_at hl 3 rfl) ?_
      obtain ⟨hi, hM⟩ := ib_some hM
      refine h_zald C h tb_9 hi dX10_hasBody_29 ?_
      refine lv_if_eq (tgt := 37) C.1 C.2.1 dX10_hasBody_30 (by decide) (fun q => ?_) (fun q => ?_)
      · have hM := ite_t q hM
        refine lv_iconst (v := 0) C.1 C.2.1 dX10_hasBody_37 (by decide) ?_
        obtain ⟨rfl, rfl⟩ := so_inj hM
        exact h_iret C h dX10_hasBody_38
      · have hM := ite_f q hM
        refine lv_iconst (v := 1) C.1 C.2.1 dX10_hasBody_33 (by decide) ?_
        refine lv_goto (tgt := 38) C.1 C.2.1 dX10_hasBody_34 (by decide) ?_
        obtain ⟨rfl, rfl⟩ := so_inj hM
        exact h_iret C h dX10_hasBody_38
    · have hM := ite_f q hM
      refine lv_ldc C.1 C.2.1 C.2.2.2.1 (C.2.2.2.2.1 _ co_X10_112) dX10_hasBody_21 ?_
      obtain ⟨rfl, rfl⟩ := so_inj hM
      exact h_iret C h dX10_hasBody_23
theorem cy_X10_hasBody : Cy yX10_hasBody cX10_hasBody 4 (some .int) 2 := ⟨cd_yX10_hasBody, ii_X10, by decide, by decide, by decide +kernel⟩
set_option maxRecDepth 100000 in
theorem c_X10_hasBody {l : Launch} {E : EE} {G : GG} {x0 : Nat} {x1 : Int32} {x2 : Int32} {m m9 : MM} {r9 : Int32} (hM : M_X10_hasBody G x0 x1 x2 m = some (r9, m9)) (tx0 : Ty E G x0 10) : Mc l E yX10_hasBody cX10_hasBody 4 (some .int) rmX10_hasBody [.ref x0, .int x1, .int x2] G m (cQi E r9 G m9) := M_of (by decide) (Nat.le_of_ble_eq_true rfl) (fun p e s mth below meth c C h ls hl => cM_X10_hasBody C hM tx0 _ _ h ls hl)
abbrev rmX10_finish : Room := { frames := 0, cells := 0, slots := 0, locals := 0 }
def M_X10_finish (G : GG) (x0 : Nat) (x1 : Int32) (m : MM) : Option (Int32 × MM) :=
  nb (gR m x0 6) fun b_1 =>
    if (gI (sI m x0 10 (gI m b_1 4)) x0 10) = 0 then
      some (x1, sI m x0 10 (gI m b_1 4))
    else
      some (0, sI (sI m x0 10 (gI m b_1 4)) x0 11 ((gI (sI m x0 10 (gI m b_1 4)) x0 11) + 1))
set_option maxRecDepth 100000 in
set_option maxHeartbeats 4000000 in
theorem cM_X10_finish {p : Program} {l : Launch} {e : Env} {s : State} {mth : MethodId} {args : Array Value} {below : List Frame} {meth : Method} {c : Code} {E : EE} {G : GG} {r9 : Int32} {m9 : MM} (C : Cx E G p s mth args meth c cX10_finish RX10 "finish" 2 (some .int)) {x0 : Nat} {x1 : Int32} {m : MM} (hM : M_X10_finish G x0 x1 m = some (r9, m9)) (tx0 : Ty E G x0 10) : ∀ (H : Heap) (locs : List Loc), Hp E G m s H locs → ∀ ls : Array Slot, lv_has ls 2 [(0, .ref x0), (1, .int x1)] → W p l e rmX10_finish s mth args below meth c H locs 0 0 (MQ below (cQi E r9 G m9) args s 0 0 (fun q => E.2.2.1 ≤ q)) (F0 mth 0 ls []) := by
  intro H locs h ls hl
  unfold M_X10_finish at hM
  refine lv_aload_n C.1 C.2.1 dX10_finish_0 rfl (lv_at hl 0 rfl) ?_
  refine lv_aload_n C.1 C.2.1 dX10_finish_1 rfl (lv_at hl 0 rfl) ?_
  refine gt_10_6 C h tx0 fl_X10_50 dX10_finish_2 ?_
  obtain ⟨b_1, hb_1, hM⟩ := nb_some hM
  have tb_1 : Ty E G b_1 7 := (fun b hb => tyf h tx0 hb) _ hb_1
  refine st_ref hb_1 ?_
  refine gt_7_4 C h tb_1 fl_X10_210 dX10_finish_5 ?_
  refine pt_10_10 C h tx0 fl_X10_105 dX10_finish_8 (fun H locs h => ?_)
  refine lv_aload_n C.1 C.2.1 dX10_finish_11 rfl (lv_at hl 0 rfl) ?_
  refine gt_10_10 C h tx0 fl_X10_105 dX10_finish_12 ?_
  refine lv_if_ne (tgt := 20) C.1 C.2.1 dX10_finish_15 (by decide) (fun q => ?_) (fun q => ?_)
  · have hM := ite_f q hM
    refine lv_aload_n C.1 C.2.1 dX10_finish_20 rfl (lv_at hl 0 rfl) ?_
    refine lv_dup C.1 C.2.1 dX10_finish_21 rfl ?_
    refine gt_10_11 C h tx0 fl_X10_207 dX10_finish_22 ?_
    refine lv_iconst (v := 1) C.1 C.2.1 dX10_finish_25 (by decide) ?_
    refine lv_iadd C.1 C.2.1 dX10_finish_26 ?_
    refine pt_10_11 C h tx0 fl_X10_207 dX10_finish_27 (fun H locs h => ?_)
    refine lv_iconst (v := 0) C.1 C.2.1 dX10_finish_30 (by decide) ?_
    obtain ⟨rfl, rfl⟩ := so_inj hM
    exact h_iret C h dX10_finish_31
  · have hM := ite_t q hM
    refine lv_iload_n C.1 C.2.1 dX10_finish_18 rfl (lv_at hl 1 rfl) ?_
    obtain ⟨rfl, rfl⟩ := so_inj hM
    exact h_iret C h dX10_finish_19
theorem cy_X10_finish : Cy yX10_finish cX10_finish 2 (some .int) 1 := ⟨cd_yX10_finish, ii_X10, by decide, by decide, by decide +kernel⟩
set_option maxRecDepth 100000 in
theorem c_X10_finish {l : Launch} {E : EE} {G : GG} {x0 : Nat} {x1 : Int32} {m m9 : MM} {r9 : Int32} (hM : M_X10_finish G x0 x1 m = some (r9, m9)) (tx0 : Ty E G x0 10) : Mc l E yX10_finish cX10_finish 2 (some .int) rmX10_finish [.ref x0, .int x1] G m (cQi E r9 G m9) := M_of (by decide) (Nat.le_of_ble_eq_true rfl) (fun p e s mth below meth c C h ls hl => cM_X10_finish C hM tx0 _ _ h ls hl)
abbrev rmX10_value : Room := { frames := 81, cells := 0, slots := 0, locals := 2423 }
def M_X10_value (G : GG) (x0 : Nat) (x1 : Int32) (x2 : Int32) (m : MM) : Option (Int32 × MM) :=
  nb (gR m x0 0) fun b_1 =>
    bd (M_X6_enumAt G b_1 x1 m) fun r_2 m_3 =>
      el r_2 (
        some ((-1000001), m_3)
      ) fun b_6 =>
        bd (M_X1_hasConstant G b_6 x2 m_3) fun r_7 m_8 =>
          if r_7 = true then
            nb (gR m_8 x0 6) fun b_9 =>
              nb (gR m_8 x0 0) fun b_10 =>
                bd (M_X7_begin G b_9 b_10 m_8) fun _ m_12 =>
                  nb (gR m_12 x0 6) fun b_13 =>
                    bd (M_X7_wantR G 10 b_13 x1 0 m_12) fun r_14 m_15 =>
                      nb (gR m_15 b_6 9) fun b_16 =>
                        ib x2 (G.2.2 b_16) <|
                          bd (M_X10_finish G x0 (gI m_15 b_16 x2.toNatClampNeg) m_15) fun r_17 m_18 =>
                            some (r_17, m_18)
          else
            some ((-1000001), m_8)
set_option maxRecDepth 100000 in
set_option maxHeartbeats 4000000 in
theorem cM_X10_value {p : Program} {l : Launch} {e : Env} {s : State} {mth : MethodId} {args : Array Value} {below : List Frame} {meth : Method} {c : Code} {E : EE} {G : GG} {r9 : Int32} {m9 : MM} (C : Cx E G p s mth args meth c cX10_value RX10 "value" 4 (some .int)) {x0 : Nat} {x1 : Int32} {x2 : Int32} {m : MM} (hM : M_X10_value G x0 x1 x2 m = some (r9, m9)) (tx0 : Ty E G x0 10) : ∀ (H : Heap) (locs : List Loc), Hp E G m s H locs → ∀ ls : Array Slot, lv_has ls 4 [(0, .ref x0), (1, .int x1), (2, .int x2)] → W p l e rmX10_value s mth args below meth c H locs 0 0 (MQ below (cQi E r9 G m9) args s 0 0 (fun q => E.2.2.1 ≤ q)) (F0 mth 0 ls []) := by
  intro H locs h ls hl
  unfold M_X10_value at hM
  refine lv_aload_n C.1 C.2.1 dX10_value_0 rfl (lv_at hl 0 rfl) ?_
  refine gt_10_0 C h tx0 fl_X10_10 dX10_value_1 ?_
  obtain ⟨b_1, hb_1, hM⟩ := nb_some hM
  have tb_1 : Ty E G b_1 6 := (fun b hb => tyf h tx0 hb) _ hb_1
  refine st_ref hb_1 ?_
  refine lv_iload_n C.1 C.2.1 dX10_value_4 rfl (lv_at hl 1 rfl) ?_
  obtain ⟨r_2, m_3, hc_2, hM⟩ := bd_some hM
  refine h_callVq C h (As := [.int x1]) (rest := []) r_2 1 m_3 (c_X6_enumAt hc_2 tb_1) 6 rfl (by decide) tb_1 im_yX6_enumAt se_yX6_enumAt cy_X6_enumAt rfl ml_X10_108 ⟨by decide, by decide⟩ ⟨Nat.zero_le _, Nat.zero_le _⟩ hl.1 rfl (Nat.le_of_ble_eq_true rfl) dX10_value_5 (fun tq_2 H locs h => ?_)
  have tq_4 : ∀ b, r_2 = some b → Ty E G b 1 := tq_2
  refine h_astore_n (lv' := [(3, va_rf r_2), (0, .ref x0), (1, .int x1), (2, .int x2)]) C.1 C.2.1 dX10_value_8 rfl hl (by decide) rfl (fun ls hl => ?_)
  refine h_aload_n C.1 C.2.1 dX10_value_9 rfl (lv_at hl 0 rfl) ?_
  have tq_5 : ∀ b, r_2 = some b → Ty E G b 1 := tq_4
  refine h_ifnull (tgt := 21) (x := r_2) C.1 C.2.1 dX10_value_10 (by decide) (fun q => ?_) (fun b_6 hb_6 => ?_)
  · have hM := el_none q hM
    refine lv_ldc C.1 C.2.1 C.2.2.2.1 (C.2.2.2.2.1 _ co_X10_112) dX10_value_21 ?_
    obtain ⟨rfl, rfl⟩ := so_inj hM
    exact h_iret C h dX10_value_23
  · have hM := el_some hb_6 hM
    have tb_6 := tq_5 _ hb_6
    refine h_aload_n C.1 C.2.1 dX10_value_13 rfl (lv_at hl 0 rfl) ?_
    refine st_ref hb_6 ?_
    refine lv_iload_n C.1 C.2.1 dX10_value_14 rfl (lv_at hl 3 rfl) ?_
    obtain ⟨r_7, m_8, hc_7, hM⟩ := bd_some hM
    refine h_callVi C h (As := [.int x2]) (rest := []) (bz r_7) m_8 (c_X1_hasConstant hc_7 tb_6) 1 rfl (by decide) tb_6 im_yX1_hasConstant se_yX1_hasConstant cy_X1_hasConstant rfl ml_X10_130 ⟨by decide, by decide⟩ ⟨Nat.zero_le _, Nat.zero_le _⟩ hl.1 rfl (Nat.le_of_ble_eq_true rfl) dX10_value_15 (fun H locs h => ?_)
    refine h_ifnz (tgt := 24) C.1 C.2.1 dX10_value_18 (by decide) (fun q => ?_) (fun q => ?_)
    · have hM := ite_t q hM
      refine lv_aload_n C.1 C.2.1 dX10_value_24 rfl (lv_at hl 1 rfl) ?_
      refine gt_10_6 C h tx0 fl_X10_50 dX10_value_25 ?_
      obtain ⟨b_9, hb_9, hM⟩ := nb_some hM
      have tb_9 : Ty E G b_9 7 := (fun b hb => tyf h tx0 hb) _ hb_9
      refine st_ref hb_9 ?_
      refine lv_aload_n C.1 C.2.1 dX10_value_28 rfl (lv_at hl 1 rfl) ?_
      refine gt_10_0 C h tx0 fl_X10_10 dX10_value_29 ?_
      obtain ⟨b_10, hb_10, hM⟩ := nb_some hM
      have tb_10 : Ty E G b_10 6 := (fun b hb => tyf h tx0 hb) _ hb_10
      refine st_ref hb_10 ?_
      obtain ⟨r_11, m_12, hc_11, hM⟩ := bd_some hM
      refine h_callVv C h (As := [.ref b_10]) (rest := []) m_12 (c_X7_begin hc_11 tb_9 tb_10) 7 rfl (by decide) tb_9 im_yX7_begin se_yX7_begin cy_X7_begin rfl ml_X10_138 ⟨by decide, by decide⟩ ⟨Nat.zero_le _, Nat.zero_le _⟩ hl.1 rfl (Nat.le_of_ble_eq_true rfl) dX10_value_32 (fun H locs h => ?_)
      refine lv_aload_n C.1 C.2.1 dX10_value_35 rfl (lv_at hl 1 rfl) ?_
      refine gt_10_6 C h tx0 fl_X10_50 dX10_value_36 ?_
      obtain ⟨b_13, hb_13, hM⟩ := nb_some hM
      have tb_13 : Ty E G b_13 7 := (fun b hb => tyf h tx0 hb) _ hb_13
      refine st_ref hb_13 ?_
      refine lv_iload_n C.1 C.2.1 dX10_value_39 rfl (lv_at hl 2 rfl) ?_
      refine lv_iconst (v := 0) C.1 C.2.1 dX10_value_40 (by decide) ?_
      obtain ⟨r_14, m_15, hc_14, hM⟩ := bd_some hM
      refine h_callVi C h (As := [.int x1, .int 0]) (rest := []) (bz r_14) m_15 (c_X7_wantR 10 hc_14 tb_13) 7 rfl (by decide) tb_13 im_yX7_want se_yX7_want cy_X7_want rfl ml_X10_141 ⟨by decide, by decide⟩ ⟨Nat.zero_le _, Nat.zero_le _⟩ hl.1 rfl (Nat.le_of_ble_eq_true rfl) dX10_value_41 (fun H locs h => ?_)
      refine lv_pop C.1 C.2.1 dX10_value_44 rfl ?_
      refine lv_aload_n C.1 C.2.1 dX10_value_45 rfl (lv_at hl 1 rfl) ?_
      refine h_aload_n C.1 C.2.1 dX10_value_46 rfl (lv_at hl 0 rfl) ?_
      refine st_ref hb_6 ?_
      refine gt_1_9 C h tb_6 fl_X10_145 dX10_value_47 ?_
      obtain ⟨b_16, hb_16, hM⟩ := nb_some hM
      have tb_16 : Ty E G b_16 12 := (fun b hb => tyf h tb_6 hb) _ hb_16
      refine st_ref hb_16 ?_
      refine lv_iload_n C.1 C.2.1 dX10_value_50 rfl (lv_at hl 3 rfl) ?_
      obtain ⟨hi, hM⟩ := ib_some hM
      refine h_iald C h tb_16 hi dX10_value_51 ?_
      obtain ⟨r_17, m_18, hc_17, hM⟩ := bd_some hM
      refine h_callVi C h (As := [.int (gI m_15 b_16 x2.toNatClampNeg)]) (rest := []) r_17 m_18 (c_X10_finish hc_17 tx0) 10 rfl (by decide) tx0 im_yX10_finish se_yX10_finish cy_X10_finish rfl ml_X10_148 ⟨by decide, by decide⟩ ⟨Nat.zero_le _, Nat.zero_le _⟩ hl.1 rfl (Nat.le_of_ble_eq_true rfl) dX10_value_52 (fun H locs h => ?_)
      obtain ⟨rfl, rfl⟩ := so_inj hM
      exact h_iret C h dX10_value_55
    · have hM := ite_f q hM
      refine lv_ldc C.1 C.2.1 C.2.2.2.1 (C.2.2.2.2.1 _ co_X10_112) dX10_value_21 ?_
      obtain ⟨rfl, rfl⟩ := so_inj hM
      exact h_iret C h dX10_value_23
theorem cy_X10_value : Cy yX10_value cX10_value 4 (some .int) 2 := ⟨cd_yX10_value, ii_X10, by decide, by decide, by decide +kernel⟩
set_option maxRecDepth 100000 in
theorem c_X10_value {l : Launch} {E : EE} {G : GG} {x0 : Nat} {x1 : Int32} {x2 : Int32} {m m9 : MM} {r9 : Int32} (hM : M_X10_value G x0 x1 x2 m = some (r9, m9)) (tx0 : Ty E G x0 10) : Mc l E yX10_value cX10_value 4 (some .int) rmX10_value [.ref x0, .int x1, .int x2] G m (cQi E r9 G m9) := M_of (by decide) (Nat.le_of_ble_eq_true rfl) (fun p e s mth below meth c C h ls hl => cM_X10_value C hM tx0 _ _ h ls hl)
abbrev rmX10_call : Room := { frames := 84, cells := 0, slots := 0, locals := 2502 }
def M_X10_call (G : GG) (x0 : Nat) (x1 : Int32) (x2 : Int32) (x3 : Int32) (m : MM) : Option (Int32 × MM) :=
  nb (gR m x0 0) fun b_1 =>
    bd (M_X6_enumAt G b_1 x1 m) fun r_2 m_3 =>
      el r_2 (
        some ((-1000001), m_3)
      ) fun b_6 =>
        bd (M_X1_hasConstant G b_6 x2 m_3) fun r_7 m_8 =>
          if r_7 = true then
            bd (M_X1_hasMember G b_6 x3 m_8) fun r_9 m_10 =>
              if r_9 = true then
                nb (gR m_10 x0 6) fun b_11 =>
                  nb (gR m_10 x0 0) fun b_12 =>
                    bd (M_X7_begin G b_11 b_12 m_10) fun _ m_14 =>
                      nb (gR m_14 x0 6) fun b_15 =>
                        bd (M_X7_wantR G 10 b_15 x1 0 m_14) fun r_16 m_17 =>
                          if r_16 = true then
                            nb (gR m_17 x0 6) fun b_20 =>
                              bd (M_X1_codeOf G b_6 x2 x3 m_17) fun r_21 m_22 =>
                                bd (M_X7_work G (M_X7_wantR G 10) b_20 r_21 b_6 x2 0 m_22) fun r_23 m_24 =>
                                  bd (M_X10_finish G x0 r_23 m_24) fun r_25 m_26 =>
                                    some (r_25, m_26)
                          else
                            bd (M_X10_finish G x0 0 m_17) fun r_18 m_19 =>
                              some (r_18, m_19)
              else
                some ((-1000001), m_10)
          else
            some ((-1000001), m_8)
set_option maxRecDepth 100000 in
set_option maxHeartbeats 4000000 in
theorem cM_X10_call {p : Program} {l : Launch} {e : Env} {s : State} {mth : MethodId} {args : Array Value} {below : List Frame} {meth : Method} {c : Code} {E : EE} {G : GG} {r9 : Int32} {m9 : MM} (C : Cx E G p s mth args meth c cX10_call RX10 "call" 6 (some .int)) {x0 : Nat} {x1 : Int32} {x2 : Int32} {x3 : Int32} {m : MM} (hM : M_X10_call G x0 x1 x2 x3 m = some (r9, m9)) (tx0 : Ty E G x0 10) : ∀ (H : Heap) (locs : List Loc), Hp E G m s H locs → ∀ ls : Array Slot, lv_has ls 6 [(0, .ref x0), (1, .int x1), (2, .int x2), (3, .int x3)] → W p l e rmX10_call s mth args below meth c H locs 0 0 (MQ below (cQi E r9 G m9) args s 0 0 (fun q => E.2.2.1 ≤ q)) (F0 mth 0 ls []) := by
  intro H locs h ls hl
  unfold M_X10_call at hM
  refine lv_aload_n C.1 C.2.1 dX10_call_0 rfl (lv_at hl 0 rfl) ?_
  refine gt_10_0 C h tx0 fl_X10_10 dX10_call_1 ?_
  obtain ⟨b_1, hb_1, hM⟩ := nb_some hM
  have tb_1 : Ty E G b_1 6 := (fun b hb => tyf h tx0 hb) _ hb_1
  refine st_ref hb_1 ?_
  refine lv_iload_n C.1 C.2.1 dX10_call_4 rfl (lv_at hl 1 rfl) ?_
  obtain ⟨r_2, m_3, hc_2, hM⟩ := bd_some hM
  refine h_callVq C h (As := [.int x1]) (rest := []) r_2 1 m_3 (c_X6_enumAt hc_2 tb_1) 6 rfl (by decide) tb_1 im_yX6_enumAt se_yX6_enumAt cy_X6_enumAt rfl ml_X10_108 ⟨by decide, by decide⟩ ⟨Nat.zero_le _, Nat.zero_le _⟩ hl.1 rfl (Nat.le_of_ble_eq_true rfl) dX10_call_5 (fun tq_2 H locs h => ?_)
  have tq_4 : ∀ b, r_2 = some b → Ty E G b 1 := tq_2
  refine h_astore (lv' := [(4, va_rf r_2), (0, .ref x0), (1, .int x1), (2, .int x2), (3, .int x3)]) C.1 C.2.1 dX10_call_8 hl (by decide) rfl (fun ls hl => ?_)
  refine h_aload C.1 C.2.1 dX10_call_10 (lv_at hl 0 rfl) ?_
  have tq_5 : ∀ b, r_2 = some b → Ty E G b 1 := tq_4
  refine h_ifnull (tgt := 33) (x := r_2) C.1 C.2.1 dX10_call_12 (by decide) (fun q => ?_) (fun b_6 hb_6 => ?_)
  · have hM := el_none q hM
    refine lv_ldc C.1 C.2.1 C.2.2.2.1 (C.2.2.2.2.1 _ co_X10_112) dX10_call_33 ?_
    obtain ⟨rfl, rfl⟩ := so_inj hM
    exact h_iret C h dX10_call_35
  · have hM := el_some hb_6 hM
    have tb_6 := tq_5 _ hb_6
    refine h_aload C.1 C.2.1 dX10_call_15 (lv_at hl 0 rfl) ?_
    refine st_ref hb_6 ?_
    refine lv_iload_n C.1 C.2.1 dX10_call_17 rfl (lv_at hl 3 rfl) ?_
    obtain ⟨r_7, m_8, hc_7, hM⟩ := bd_some hM
    refine h_callVi C h (As := [.int x2]) (rest := []) (bz r_7) m_8 (c_X1_hasConstant hc_7 tb_6) 1 rfl (by decide) tb_6 im_yX1_hasConstant se_yX1_hasConstant cy_X1_hasConstant rfl ml_X10_130 ⟨by decide, by decide⟩ ⟨Nat.zero_le _, Nat.zero_le _⟩ hl.1 rfl (Nat.le_of_ble_eq_true rfl) dX10_call_18 (fun H locs h => ?_)
    refine h_ifz (tgt := 33) C.1 C.2.1 dX10_call_21 (by decide) (fun q => ?_) (fun q => ?_)
    · have hM := ite_f q hM
      refine lv_ldc C.1 C.2.1 C.2.2.2.1 (C.2.2.2.2.1 _ co_X10_112) dX10_call_33 ?_
      obtain ⟨rfl, rfl⟩ := so_inj hM
      exact h_iret C h dX10_call_35
    · have hM := ite_t q hM
      refine h_aload C.1 C.2.1 dX10_call_24 (lv_at hl 0 rfl) ?_
      refine st_ref hb_6 ?_
      refine lv_iload_n C.1 C.2.1 dX10_call_26 rfl (lv_at hl 4 rfl) ?_
      obtain ⟨r_9, m_10, hc_9, hM⟩ := bd_some hM
      refine h_callVi C h (As := [.int x3]) (rest := []) (bz r_9) m_10 (c_X1_hasMember hc_9 tb_6) 1 rfl (by decide) tb_6 im_yX1_hasMember se_yX1_hasMember cy_X1_hasMember rfl ml_X10_152 ⟨by decide, by decide⟩ ⟨Nat.zero_le _, Nat.zero_le _⟩ hl.1 rfl (Nat.le_of_ble_eq_true rfl) dX10_call_27 (fun H locs h => ?_)
      refine h_ifnz (tgt := 36) C.1 C.2.1 dX10_call_30 (by decide) (fun q => ?_) (fun q => ?_)
      · have hM := ite_t q hM
        refine lv_aload_n C.1 C.2.1 dX10_call_36 rfl (lv_at hl 1 rfl) ?_
        refine gt_10_6 C h tx0 fl_X10_50 dX10_call_37 ?_
        obtain ⟨b_11, hb_11, hM⟩ := nb_some hM
        have tb_11 : Ty E G b_11 7 := (fun b hb => tyf h tx0 hb) _ hb_11
        refine st_ref hb_11 ?_
        refine lv_aload_n C.1 C.2.1 dX10_call_40 rfl (lv_at hl 1 rfl) ?_
        refine gt_10_0 C h tx0 fl_X10_10 dX10_call_41 ?_
        obtain ⟨b_12, hb_12, hM⟩ := nb_some hM
        have tb_12 : Ty E G b_12 6 := (fun b hb => tyf h tx0 hb) _ hb_12
        refine st_ref hb_12 ?_
        obtain ⟨r_13, m_14, hc_13, hM⟩ := bd_some hM
        refine h_callVv C h (As := [.ref b_12]) (rest := []) m_14 (c_X7_begin hc_13 tb_11 tb_12) 7 rfl (by decide) tb_11 im_yX7_begin se_yX7_begin cy_X7_begin rfl ml_X10_138 ⟨by decide, by decide⟩ ⟨Nat.zero_le _, Nat.zero_le _⟩ hl.1 rfl (Nat.le_of_ble_eq_true rfl) dX10_call_44 (fun H locs h => ?_)
        refine lv_iconst (v := 0) C.1 C.2.1 dX10_call_47 (by decide) ?_
        refine lv_istore (lv' := [(5, .int 0), (4, va_rf r_2), (0, .ref x0), (1, .int x1), (2, .int x2), (3, .int x3)]) C.1 C.2.1 dX10_call_48 hl (by decide) (by generalize r_2 = z; cases z <;> rfl) (fun ls hl => ?_)
        refine lv_aload_n C.1 C.2.1 dX10_call_50 rfl (lv_at hl 2 rfl) ?_
        refine gt_10_6 C h tx0 fl_X10_50 dX10_call_51 ?_
        obtain ⟨b_15, hb_15, hM⟩ := nb_some hM
        have tb_15 : Ty E G b_15 7 := (fun b hb => tyf h tx0 hb) _ hb_15
        refine st_ref hb_15 ?_
        refine lv_iload_n C.1 C.2.1 dX10_call_54 rfl (lv_at hl 3 rfl) ?_
        refine lv_iconst (v := 0) C.1 C.2.1 dX10_call_55 (by decide) ?_
        obtain ⟨r_16, m_17, hc_16, hM⟩ := bd_some hM
        refine h_callVi C h (As := [.int x1, .int 0]) (rest := []) (bz r_16) m_17 (c_X7_wantR 10 hc_16 tb_15) 7 rfl (by decide) tb_15 im_yX7_want se_yX7_want cy_X7_want rfl ml_X10_141 ⟨by decide, by decide⟩ ⟨Nat.zero_le _, Nat.zero_le _⟩ hl.1 rfl (Nat.le_of_ble_eq_true rfl) dX10_call_56 (fun H locs h => ?_)
        refine h_ifz (tgt := 82) C.1 C.2.1 dX10_call_59 (by decide) (fun q => ?_) (fun q => ?_)
        · have hM := ite_f q hM
          refine lv_aload_n C.1 C.2.1 dX10_call_82 rfl (lv_at hl 2 rfl) ?_
          refine lv_iload C.1 C.2.1 dX10_call_83 (lv_at hl 0 rfl) ?_
          obtain ⟨r_18, m_19, hc_18, hM⟩ := bd_some hM
          refine h_callVi C h (As := [.int 0]) (rest := []) r_18 m_19 (c_X10_finish hc_18 tx0) 10 rfl (by decide) tx0 im_yX10_finish se_yX10_finish cy_X10_finish rfl ml_X10_148 ⟨by decide, by decide⟩ ⟨Nat.zero_le _, Nat.zero_le _⟩ hl.1 rfl (Nat.le_of_ble_eq_true rfl) dX10_call_85 (fun H locs h => ?_)
          obtain ⟨rfl, rfl⟩ := so_inj hM
          exact h_iret C h dX10_call_88
        · have hM := ite_t q hM
          refine lv_aload_n C.1 C.2.1 dX10_call_62 rfl (lv_at hl 2 rfl) ?_
          refine gt_10_6 C h tx0 fl_X10_50 dX10_call_63 ?_
          obtain ⟨b_20, hb_20, hM⟩ := nb_some hM
          have tb_20 : Ty E G b_20 7 := (fun b hb => tyf h tx0 hb) _ hb_20
          refine st_ref hb_20 ?_
          refine h_aload C.1 C.2.1 dX10_call_66 (lv_at hl 1 rfl) ?_
          refine st_ref hb_6 ?_
          refine lv_iload_n C.1 C.2.1 dX10_call_68 rfl (lv_at hl 4 rfl) ?_
          refine lv_iload_n C.1 C.2.1 dX10_call_69 rfl (lv_at hl 5 rfl) ?_
          obtain ⟨r_21, m_22, hc_21, hM⟩ := bd_some hM
          refine h_callVi C h (As := [.int x2, .int x3]) (rest := [.ref b_20]) r_21 m_22 (c_X1_codeOf hc_21 tb_6) 1 rfl (by decide) tb_6 im_yX1_codeOf se_yX1_codeOf cy_X1_codeOf rfl ml_X10_155 ⟨by decide, by decide⟩ ⟨Nat.zero_le _, Nat.zero_le _⟩ hl.1 rfl (Nat.le_of_ble_eq_true rfl) dX10_call_70 (fun H locs h => ?_)
          refine h_aload C.1 C.2.1 dX10_call_73 (lv_at hl 1 rfl) ?_
          refine st_ref hb_6 ?_
          refine lv_iload_n C.1 C.2.1 dX10_call_75 rfl (lv_at hl 4 rfl) ?_
          refine lv_iconst (v := 0) C.1 C.2.1 dX10_call_76 (by decide) ?_
          obtain ⟨r_23, m_24, hc_23, hM⟩ := bd_some hM
          refine h_callVi C h (As := [.int r_21, .ref b_6, .int x2, .int 0]) (rest := []) r_23 m_24 (c_X7_work (d := 10) (fun h t => c_X7_wantR 10 h t) hc_23 tb_20 tb_6) 7 rfl (by decide) tb_20 im_yX7_work se_yX7_work cy_X7_work rfl ml_X10_159 ⟨by decide, by decide⟩ ⟨Nat.zero_le _, Nat.zero_le _⟩ hl.1 rfl (Nat.le_of_ble_eq_true rfl) dX10_call_77 (fun H locs h => ?_)
          refine lv_istore (lv' := [(5, .int r_23), (4, va_rf r_2), (0, .ref x0), (1, .int x1), (2, .int x2), (3, .int x3)]) C.1 C.2.1 dX10_call_80 hl (by decide) (by generalize r_2 = z; cases z <;> rfl) (fun ls hl => ?_)
          refine lv_aload_n C.1 C.2.1 dX10_call_82 rfl (lv_at hl 2 rfl) ?_
          refine lv_iload C.1 C.2.1 dX10_call_83 (lv_at hl 0 rfl) ?_
          obtain ⟨r_25, m_26, hc_25, hM⟩ := bd_some hM
          refine h_callVi C h (As := [.int r_23]) (rest := []) r_25 m_26 (c_X10_finish hc_25 tx0) 10 rfl (by decide) tx0 im_yX10_finish se_yX10_finish cy_X10_finish rfl ml_X10_148 ⟨by decide, by decide⟩ ⟨Nat.zero_le _, Nat.zero_le _⟩ hl.1 rfl (Nat.le_of_ble_eq_true rfl) dX10_call_85 (fun H locs h => ?_)
          obtain ⟨rfl, rfl⟩ := so_inj hM
          exact h_iret C h dX10_call_88
      · have hM := ite_f q hM
        refine lv_ldc C.1 C.2.1 C.2.2.2.1 (C.2.2.2.2.1 _ co_X10_112) dX10_call_33 ?_
        obtain ⟨rfl, rfl⟩ := so_inj hM
        exact h_iret C h dX10_call_35
theorem cy_X10_call : Cy yX10_call cX10_call 6 (some .int) 3 := ⟨cd_yX10_call, ii_X10, by decide, by decide, by decide +kernel⟩
set_option maxRecDepth 100000 in
theorem c_X10_call {l : Launch} {E : EE} {G : GG} {x0 : Nat} {x1 : Int32} {x2 : Int32} {x3 : Int32} {m m9 : MM} {r9 : Int32} (hM : M_X10_call G x0 x1 x2 x3 m = some (r9, m9)) (tx0 : Ty E G x0 10) : Mc l E yX10_call cX10_call 6 (some .int) rmX10_call [.ref x0, .int x1, .int x2, .int x3] G m (cQi E r9 G m9) := M_of (by decide) (Nat.le_of_ble_eq_true rfl) (fun p e s mth below meth c C h ls hl => cM_X10_call C hM tx0 _ _ h ls hl)
abbrev rmX10_field : Room := { frames := 81, cells := 0, slots := 0, locals := 2423 }
def M_X10_field (G : GG) (x0 : Nat) (x1 : Int32) (x2 : Int32) (m : MM) : Option (Int32 × MM) :=
  nb (gR m x0 0) fun b_1 =>
    bd (M_X6_enumAt G b_1 x1 m) fun r_2 m_3 =>
      el r_2 (
        some ((-1000001), m_3)
      ) fun b_6 =>
        bd (M_X1_hasField G b_6 x2 m_3) fun r_7 m_8 =>
          if r_7 = true then
            nb (gR m_8 x0 6) fun b_9 =>
              nb (gR m_8 x0 0) fun b_10 =>
                bd (M_X7_begin G b_9 b_10 m_8) fun _ m_12 =>
                  bd (M_X1_isWorked G b_6 x2 m_12) fun r_13 m_14 =>
                    if r_13 = true then
                      nb (gR m_14 x0 6) fun b_18 =>
                        bd (M_X7_wantR G 10 b_18 x1 0 m_14) fun r_19 m_20 =>
                          nb (gR m_20 b_6 8) fun b_21 =>
                            ib x2 (G.2.2 b_21) <|
                              bd (M_X10_finish G x0 (gI m_20 b_21 x2.toNatClampNeg) m_20) fun r_22 m_23 =>
                                some (r_22, m_23)
                    else
                      nb (gR m_14 b_6 8) fun b_15 =>
                        ib x2 (G.2.2 b_15) <|
                          bd (M_X10_finish G x0 (gI m_14 b_15 x2.toNatClampNeg) m_14) fun r_16 m_17 =>
                            some (r_16, m_17)
          else
            some ((-1000001), m_8)
set_option maxRecDepth 100000 in
set_option maxHeartbeats 4000000 in
theorem cM_X10_field {p : Program} {l : Launch} {e : Env} {s : State} {mth : MethodId} {args : Array Value} {below : List Frame} {meth : Method} {c : Code} {E : EE} {G : GG} {r9 : Int32} {m9 : MM} (C : Cx E G p s mth args meth c cX10_field RX10 "field" 4 (some .int)) {x0 : Nat} {x1 : Int32} {x2 : Int32} {m : MM} (hM : M_X10_field G x0 x1 x2 m = some (r9, m9)) (tx0 : Ty E G x0 10) : ∀ (H : Heap) (locs : List Loc), Hp E G m s H locs → ∀ ls : Array Slot, lv_has ls 4 [(0, .ref x0), (1, .int x1), (2, .int x2)] → W p l e rmX10_field s mth args below meth c H locs 0 0 (MQ below (cQi E r9 G m9) args s 0 0 (fun q => E.2.2.1 ≤ q)) (F0 mth 0 ls []) := by
  intro H locs h ls hl
  unfold M_X10_field at hM
  refine lv_aload_n C.1 C.2.1 dX10_field_0 rfl (lv_at hl 0 rfl) ?_
  refine gt_10_0 C h tx0 fl_X10_10 dX10_field_1 ?_
  obtain ⟨b_1, hb_1, hM⟩ := nb_some hM
  have tb_1 : Ty E G b_1 6 := (fun b hb => tyf h tx0 hb) _ hb_1
  refine st_ref hb_1 ?_
  refine lv_iload_n C.1 C.2.1 dX10_field_4 rfl (lv_at hl 1 rfl) ?_
  obtain ⟨r_2, m_3, hc_2, hM⟩ := bd_some hM
  refine h_callVq C h (As := [.int x1]) (rest := []) r_2 1 m_3 (c_X6_enumAt hc_2 tb_1) 6 rfl (by decide) tb_1 im_yX6_enumAt se_yX6_enumAt cy_X6_enumAt rfl ml_X10_108 ⟨by decide, by decide⟩ ⟨Nat.zero_le _, Nat.zero_le _⟩ hl.1 rfl (Nat.le_of_ble_eq_true rfl) dX10_field_5 (fun tq_2 H locs h => ?_)
  have tq_4 : ∀ b, r_2 = some b → Ty E G b 1 := tq_2
  refine h_astore_n (lv' := [(3, va_rf r_2), (0, .ref x0), (1, .int x1), (2, .int x2)]) C.1 C.2.1 dX10_field_8 rfl hl (by decide) rfl (fun ls hl => ?_)
  refine h_aload_n C.1 C.2.1 dX10_field_9 rfl (lv_at hl 0 rfl) ?_
  have tq_5 : ∀ b, r_2 = some b → Ty E G b 1 := tq_4
  refine h_ifnull (tgt := 21) (x := r_2) C.1 C.2.1 dX10_field_10 (by decide) (fun q => ?_) (fun b_6 hb_6 => ?_)
  · have hM := el_none q hM
    refine lv_ldc C.1 C.2.1 C.2.2.2.1 (C.2.2.2.2.1 _ co_X10_112) dX10_field_21 ?_
    obtain ⟨rfl, rfl⟩ := so_inj hM
    exact h_iret C h dX10_field_23
  · have hM := el_some hb_6 hM
    have tb_6 := tq_5 _ hb_6
    refine h_aload_n C.1 C.2.1 dX10_field_13 rfl (lv_at hl 0 rfl) ?_
    refine st_ref hb_6 ?_
    refine lv_iload_n C.1 C.2.1 dX10_field_14 rfl (lv_at hl 3 rfl) ?_
    obtain ⟨r_7, m_8, hc_7, hM⟩ := bd_some hM
    refine h_callVi C h (As := [.int x2]) (rest := []) (bz r_7) m_8 (c_X1_hasField hc_7 tb_6) 1 rfl (by decide) tb_6 im_yX1_hasField se_yX1_hasField cy_X1_hasField rfl ml_X10_163 ⟨by decide, by decide⟩ ⟨Nat.zero_le _, Nat.zero_le _⟩ hl.1 rfl (Nat.le_of_ble_eq_true rfl) dX10_field_15 (fun H locs h => ?_)
    refine h_ifnz (tgt := 24) C.1 C.2.1 dX10_field_18 (by decide) (fun q => ?_) (fun q => ?_)
    · have hM := ite_t q hM
      refine lv_aload_n C.1 C.2.1 dX10_field_24 rfl (lv_at hl 1 rfl) ?_
      refine gt_10_6 C h tx0 fl_X10_50 dX10_field_25 ?_
      obtain ⟨b_9, hb_9, hM⟩ := nb_some hM
      have tb_9 : Ty E G b_9 7 := (fun b hb => tyf h tx0 hb) _ hb_9
      refine st_ref hb_9 ?_
      refine lv_aload_n C.1 C.2.1 dX10_field_28 rfl (lv_at hl 1 rfl) ?_
      refine gt_10_0 C h tx0 fl_X10_10 dX10_field_29 ?_
      obtain ⟨b_10, hb_10, hM⟩ := nb_some hM
      have tb_10 : Ty E G b_10 6 := (fun b hb => tyf h tx0 hb) _ hb_10
      refine st_ref hb_10 ?_
      obtain ⟨r_11, m_12, hc_11, hM⟩ := bd_some hM
      refine h_callVv C h (As := [.ref b_10]) (rest := []) m_12 (c_X7_begin hc_11 tb_9 tb_10) 7 rfl (by decide) tb_9 im_yX7_begin se_yX7_begin cy_X7_begin rfl ml_X10_138 ⟨by decide, by decide⟩ ⟨Nat.zero_le _, Nat.zero_le _⟩ hl.1 rfl (Nat.le_of_ble_eq_true rfl) dX10_field_32 (fun H locs h => ?_)
      refine h_aload_n C.1 C.2.1 dX10_field_35 rfl (lv_at hl 0 rfl) ?_
      refine st_ref hb_6 ?_
      refine lv_iload_n C.1 C.2.1 dX10_field_36 rfl (lv_at hl 3 rfl) ?_
      obtain ⟨r_13, m_14, hc_13, hM⟩ := bd_some hM
      refine h_callVi C h (As := [.int x2]) (rest := []) (bz r_13) m_14 (c_X1_isWorked hc_13 tb_6) 1 rfl (by decide) tb_6 im_yX1_isWorked se_yX1_isWorked cy_X1_isWorked rfl ml_X10_166 ⟨by decide, by decide⟩ ⟨Nat.zero_le _, Nat.zero_le _⟩ hl.1 rfl (Nat.le_of_ble_eq_true rfl) dX10_field_37 (fun H locs h => ?_)
      refine h_ifz (tgt := 53) C.1 C.2.1 dX10_field_40 (by decide) (fun q => ?_) (fun q => ?_)
      · have hM := ite_f q hM
        refine lv_aload_n C.1 C.2.1 dX10_field_53 rfl (lv_at hl 1 rfl) ?_
        refine h_aload_n C.1 C.2.1 dX10_field_54 rfl (lv_at hl 0 rfl) ?_
        refine st_ref hb_6 ?_
        refine gt_1_8 C h tb_6 fl_X10_169 dX10_field_55 ?_
        obtain ⟨b_15, hb_15, hM⟩ := nb_some hM
        have tb_15 : Ty E G b_15 12 := (fun b hb => tyf h tb_6 hb) _ hb_15
        refine st_ref hb_15 ?_
        refine lv_iload_n C.1 C.2.1 dX10_field_58 rfl (lv_at hl 3 rfl) ?_
        obtain ⟨hi, hM⟩ := ib_some hM
        refine h_iald C h tb_15 hi dX10_field_59 ?_
        obtain ⟨r_16, m_17, hc_16, hM⟩ := bd_some hM
        refine h_callVi C h (As := [.int (gI m_14 b_15 x2.toNatClampNeg)]) (rest := []) r_16 m_17 (c_X10_finish hc_16 tx0) 10 rfl (by decide) tx0 im_yX10_finish se_yX10_finish cy_X10_finish rfl ml_X10_148 ⟨by decide, by decide⟩ ⟨Nat.zero_le _, Nat.zero_le _⟩ hl.1 rfl (Nat.le_of_ble_eq_true rfl) dX10_field_60 (fun H locs h => ?_)
        obtain ⟨rfl, rfl⟩ := so_inj hM
        exact h_iret C h dX10_field_63
      · have hM := ite_t q hM
        refine lv_aload_n C.1 C.2.1 dX10_field_43 rfl (lv_at hl 1 rfl) ?_
        refine gt_10_6 C h tx0 fl_X10_50 dX10_field_44 ?_
        obtain ⟨b_18, hb_18, hM⟩ := nb_some hM
        have tb_18 : Ty E G b_18 7 := (fun b hb => tyf h tx0 hb) _ hb_18
        refine st_ref hb_18 ?_
        refine lv_iload_n C.1 C.2.1 dX10_field_47 rfl (lv_at hl 2 rfl) ?_
        refine lv_iconst (v := 0) C.1 C.2.1 dX10_field_48 (by decide) ?_
        obtain ⟨r_19, m_20, hc_19, hM⟩ := bd_some hM
        refine h_callVi C h (As := [.int x1, .int 0]) (rest := []) (bz r_19) m_20 (c_X7_wantR 10 hc_19 tb_18) 7 rfl (by decide) tb_18 im_yX7_want se_yX7_want cy_X7_want rfl ml_X10_141 ⟨by decide, by decide⟩ ⟨Nat.zero_le _, Nat.zero_le _⟩ hl.1 rfl (Nat.le_of_ble_eq_true rfl) dX10_field_49 (fun H locs h => ?_)
        refine lv_pop C.1 C.2.1 dX10_field_52 rfl ?_
        refine lv_aload_n C.1 C.2.1 dX10_field_53 rfl (lv_at hl 1 rfl) ?_
        refine h_aload_n C.1 C.2.1 dX10_field_54 rfl (lv_at hl 0 rfl) ?_
        refine st_ref hb_6 ?_
        refine gt_1_8 C h tb_6 fl_X10_169 dX10_field_55 ?_
        obtain ⟨b_21, hb_21, hM⟩ := nb_some hM
        have tb_21 : Ty E G b_21 12 := (fun b hb => tyf h tb_6 hb) _ hb_21
        refine st_ref hb_21 ?_
        refine lv_iload_n C.1 C.2.1 dX10_field_58 rfl (lv_at hl 3 rfl) ?_
        obtain ⟨hi, hM⟩ := ib_some hM
        refine h_iald C h tb_21 hi dX10_field_59 ?_
        obtain ⟨r_22, m_23, hc_22, hM⟩ := bd_some hM
        refine h_callVi C h (As := [.int (gI m_20 b_21 x2.toNatClampNeg)]) (rest := []) r_22 m_23 (c_X10_finish hc_22 tx0) 10 rfl (by decide) tx0 im_yX10_finish se_yX10_finish cy_X10_finish rfl ml_X10_148 ⟨by decide, by decide⟩ ⟨Nat.zero_le _, Nat.zero_le _⟩ hl.1 rfl (Nat.le_of_ble_eq_true rfl) dX10_field_60 (fun H locs h => ?_)
        obtain ⟨rfl, rfl⟩ := so_inj hM
        exact h_iret C h dX10_field_63
    · have hM := ite_f q hM
      refine lv_ldc C.1 C.2.1 C.2.2.2.1 (C.2.2.2.2.1 _ co_X10_112) dX10_field_21 ?_
      obtain ⟨rfl, rfl⟩ := so_inj hM
      exact h_iret C h dX10_field_23
theorem cy_X10_field : Cy yX10_field cX10_field 4 (some .int) 2 := ⟨cd_yX10_field, ii_X10, by decide, by decide, by decide +kernel⟩
set_option maxRecDepth 100000 in
theorem c_X10_field {l : Launch} {E : EE} {G : GG} {x0 : Nat} {x1 : Int32} {x2 : Int32} {m m9 : MM} {r9 : Int32} (hM : M_X10_field G x0 x1 x2 m = some (r9, m9)) (tx0 : Ty E G x0 10) : Mc l E yX10_field cX10_field 4 (some .int) rmX10_field [.ref x0, .int x1, .int x2] G m (cQi E r9 G m9) := M_of (by decide) (Nat.le_of_ble_eq_true rfl) (fun p e s mth below meth c C h ls hl => cM_X10_field C hM tx0 _ _ h ls hl)
abbrev rmX10_compare : Room := { frames := 81, cells := 0, slots := 0, locals := 2423 }
def B_X10_compare_101 (G : GG) (x0 : Nat) (x2 : Int32) (x4 : Int32) (m : MM) : Option (Int32 × MM) :=
  if x4 ≤ x2 then
    if x2 = x4 then
      bd (M_X10_finish G x0 2 m) fun r_3 m_4 =>
        some (r_3, m_4)
    else
      bd (M_X10_finish G x0 3 m) fun r_1 m_2 =>
        some (r_1, m_2)
  else
    bd (M_X10_finish G x0 1 m) fun r_5 m_6 =>
      some (r_5, m_6)
set_option maxRecDepth 100000 in
set_option maxHeartbeats 4000000 in
theorem cB_X10_compare_101 {p : Program} {l : Launch} {e : Env} {s : State} {mth : MethodId} {args : Array Value} {below : List Frame} {meth : Method} {c : Code} {E : EE} {G : GG} {r9 : Int32} {m9 : MM} (C : Cx E G p s mth args meth c cX10_compare RX10 "compare" 7 (some .int)) {x0 : Nat} {x2 : Int32} {x4 : Int32} {m : MM} (hM : B_X10_compare_101 G x0 x2 x4 m = some (r9, m9)) (tx0 : Ty E G x0 10) : ∀ (H : Heap) (locs : List Loc), Hp E G m s H locs → ∀ ls : Array Slot, lv_has ls 7 [(0, .ref x0), (2, .int x2), (4, .int x4)] → W p l e rmX10_compare s mth args below meth c H locs 0 0 (MQ below (cQi E r9 G m9) args s 0 0 (fun q => E.2.2.1 ≤ q)) (F0 mth 101 ls []) := by
  intro H locs h ls hl
  unfold B_X10_compare_101 at hM
  refine lv_aload_n C.1 C.2.1 dX10_compare_101 rfl (lv_at hl 0 rfl) ?_
  refine lv_iload_n C.1 C.2.1 dX10_compare_102 rfl (lv_at hl 1 rfl) ?_
  refine lv_iload C.1 C.2.1 dX10_compare_103 (lv_at hl 2 rfl) ?_
  refine lv_icmp_ge (tgt := 112) C.1 C.2.1 dX10_compare_105 (by decide) (fun q => ?_) (fun q => ?_)
  · have hM := ite_t q hM
    refine lv_iload_n C.1 C.2.1 dX10_compare_112 rfl (lv_at hl 1 rfl) ?_
    refine lv_iload C.1 C.2.1 dX10_compare_113 (lv_at hl 2 rfl) ?_
    refine lv_icmp_ne (tgt := 122) C.1 C.2.1 dX10_compare_115 (by decide) (fun q => ?_) (fun q => ?_)
    · have hM := ite_f q hM
      refine lv_iconst (v := 3) C.1 C.2.1 dX10_compare_122 (by decide) ?_
      obtain ⟨r_1, m_2, hc_1, hM⟩ := bd_some hM
      refine h_callVi C h (As := [.int 3]) (rest := []) r_1 m_2 (c_X10_finish hc_1 tx0) 10 rfl (by decide) tx0 im_yX10_finish se_yX10_finish cy_X10_finish rfl ml_X10_148 ⟨by decide, by decide⟩ ⟨Nat.zero_le _, Nat.zero_le _⟩ hl.1 rfl (Nat.le_of_ble_eq_true rfl) dX10_compare_123 (fun H locs h => ?_)
      obtain ⟨rfl, rfl⟩ := so_inj hM
      exact h_iret C h dX10_compare_126
    · have hM := ite_t q hM
      refine lv_iconst (v := 2) C.1 C.2.1 dX10_compare_118 (by decide) ?_
      refine lv_goto (tgt := 123) C.1 C.2.1 dX10_compare_119 (by decide) ?_
      obtain ⟨r_3, m_4, hc_3, hM⟩ := bd_some hM
      refine h_callVi C h (As := [.int 2]) (rest := []) r_3 m_4 (c_X10_finish hc_3 tx0) 10 rfl (by decide) tx0 im_yX10_finish se_yX10_finish cy_X10_finish rfl ml_X10_148 ⟨by decide, by decide⟩ ⟨Nat.zero_le _, Nat.zero_le _⟩ hl.1 rfl (Nat.le_of_ble_eq_true rfl) dX10_compare_123 (fun H locs h => ?_)
      obtain ⟨rfl, rfl⟩ := so_inj hM
      exact h_iret C h dX10_compare_126
  · have hM := ite_f q hM
    refine lv_iconst (v := 1) C.1 C.2.1 dX10_compare_108 (by decide) ?_
    refine lv_goto (tgt := 123) C.1 C.2.1 dX10_compare_109 (by decide) ?_
    obtain ⟨r_5, m_6, hc_5, hM⟩ := bd_some hM
    refine h_callVi C h (As := [.int 1]) (rest := []) r_5 m_6 (c_X10_finish hc_5 tx0) 10 rfl (by decide) tx0 im_yX10_finish se_yX10_finish cy_X10_finish rfl ml_X10_148 ⟨by decide, by decide⟩ ⟨Nat.zero_le _, Nat.zero_le _⟩ hl.1 rfl (Nat.le_of_ble_eq_true rfl) dX10_compare_123 (fun H locs h => ?_)
    obtain ⟨rfl, rfl⟩ := so_inj hM
    exact h_iret C h dX10_compare_126
def M_X10_compare (G : GG) (x0 : Nat) (x1 : Int32) (x2 : Int32) (x3 : Int32) (x4 : Int32) (m : MM) : Option (Int32 × MM) :=
  nb (gR m x0 0) fun b_7 =>
    bd (M_X6_enumAt G b_7 x1 m) fun r_8 m_9 =>
      nb (gR m_9 x0 0) fun b_11 =>
        bd (M_X6_enumAt G b_11 x3 m_9) fun r_12 m_13 =>
          el r_8 (
            some ((-1000001), m_13)
          ) fun b_16 =>
            el r_12 (
              some ((-1000001), m_13)
            ) fun b_18 =>
              bd (M_X1_hasConstant G b_16 x2 m_13) fun r_19 m_20 =>
                if r_19 = true then
                  bd (M_X1_hasConstant G b_18 x4 m_20) fun r_21 m_22 =>
                    if r_21 = true then
                      nb (gR m_22 x0 6) fun b_23 =>
                        nb (gR m_22 x0 0) fun b_24 =>
                          bd (M_X7_begin G b_23 b_24 m_22) fun _ m_26 =>
                            nb (gR m_26 x0 6) fun b_27 =>
                              bd (M_X7_wantR G 10 b_27 x1 0 m_26) fun r_28 m_29 =>
                                if r_28 = true then
                                  nb (gR m_29 x0 6) fun b_30 =>
                                    bd (M_X7_wantR G 10 b_30 x3 0 m_29) fun r_31 m_32 =>
                                      if r_31 = true then
                                        if x1 = x3 then
                                          B_X10_compare_101 G x0 x2 x4 m_32
                                        else
                                          nb (gR m_32 x0 6) fun b_33 =>
                                            bd (M_X7_failBy G b_33 5 m_32) fun r_34 m_35 =>
                                              B_X10_compare_101 G x0 x2 x4 m_35
                                      else
                                        B_X10_compare_101 G x0 x2 x4 m_32
                                else
                                  B_X10_compare_101 G x0 x2 x4 m_29
                    else
                      some ((-1000001), m_22)
                else
                  some ((-1000001), m_20)
set_option maxRecDepth 100000 in
set_option maxHeartbeats 4000000 in
theorem cM_X10_compare {p : Program} {l : Launch} {e : Env} {s : State} {mth : MethodId} {args : Array Value} {below : List Frame} {meth : Method} {c : Code} {E : EE} {G : GG} {r9 : Int32} {m9 : MM} (C : Cx E G p s mth args meth c cX10_compare RX10 "compare" 7 (some .int)) {x0 : Nat} {x1 : Int32} {x2 : Int32} {x3 : Int32} {x4 : Int32} {m : MM} (hM : M_X10_compare G x0 x1 x2 x3 x4 m = some (r9, m9)) (tx0 : Ty E G x0 10) : ∀ (H : Heap) (locs : List Loc), Hp E G m s H locs → ∀ ls : Array Slot, lv_has ls 7 [(0, .ref x0), (1, .int x1), (2, .int x2), (3, .int x3), (4, .int x4)] → W p l e rmX10_compare s mth args below meth c H locs 0 0 (MQ below (cQi E r9 G m9) args s 0 0 (fun q => E.2.2.1 ≤ q)) (F0 mth 0 ls []) := by
  intro H locs h ls hl
  unfold M_X10_compare at hM
  refine lv_aload_n C.1 C.2.1 dX10_compare_0 rfl (lv_at hl 0 rfl) ?_
  refine gt_10_0 C h tx0 fl_X10_10 dX10_compare_1 ?_
  obtain ⟨b_7, hb_7, hM⟩ := nb_some hM
  have tb_7 : Ty E G b_7 6 := (fun b hb => tyf h tx0 hb) _ hb_7
  refine st_ref hb_7 ?_
  refine lv_iload_n C.1 C.2.1 dX10_compare_4 rfl (lv_at hl 1 rfl) ?_
  obtain ⟨r_8, m_9, hc_8, hM⟩ := bd_some hM
  refine h_callVq C h (As := [.int x1]) (rest := []) r_8 1 m_9 (c_X6_enumAt hc_8 tb_7) 6 rfl (by decide) tb_7 im_yX6_enumAt se_yX6_enumAt cy_X6_enumAt rfl ml_X10_108 ⟨by decide, by decide⟩ ⟨Nat.zero_le _, Nat.zero_le _⟩ hl.1 rfl (Nat.le_of_ble_eq_true rfl) dX10_compare_5 (fun tq_8 H locs h => ?_)
  have tq_10 : ∀ b, r_8 = some b → Ty E G b 1 := tq_8
  refine h_astore (lv' := [(5, va_rf r_8), (0, .ref x0), (1, .int x1), (2, .int x2), (3, .int x3), (4, .int x4)]) C.1 C.2.1 dX10_compare_8 hl (by decide) rfl (fun ls hl => ?_)
  refine lv_aload_n C.1 C.2.1 dX10_compare_10 rfl (lv_at hl 1 rfl) ?_
  refine gt_10_0 C h tx0 fl_X10_10 dX10_compare_11 ?_
  obtain ⟨b_11, hb_11, hM⟩ := nb_some hM
  have tb_11 : Ty E G b_11 6 := (fun b hb => tyf h tx0 hb) _ hb_11
  refine st_ref hb_11 ?_
  refine lv_iload_n C.1 C.2.1 dX10_compare_14 rfl (lv_at hl 4 rfl) ?_
  obtain ⟨r_12, m_13, hc_12, hM⟩ := bd_some hM
  refine h_callVq C h (As := [.int x3]) (rest := []) r_12 1 m_13 (c_X6_enumAt hc_12 tb_11) 6 rfl (by decide) tb_11 im_yX6_enumAt se_yX6_enumAt cy_X6_enumAt rfl ml_X10_108 ⟨by decide, by decide⟩ ⟨Nat.zero_le _, Nat.zero_le _⟩ hl.1 rfl (Nat.le_of_ble_eq_true rfl) dX10_compare_15 (fun tq_12 H locs h => ?_)
  have tq_14 : ∀ b, r_12 = some b → Ty E G b 1 := tq_12
  refine h_astore (lv' := [(6, va_rf r_12), (5, va_rf r_8), (0, .ref x0), (1, .int x1), (2, .int x2), (3, .int x3), (4, .int x4)]) C.1 C.2.1 dX10_compare_18 hl (by decide) (by generalize r_8 = z; cases z <;> rfl) (fun ls hl => ?_)
  refine h_aload C.1 C.2.1 dX10_compare_20 (lv_at hl 1 rfl) ?_
  have tq_15 : ∀ b, r_8 = some b → Ty E G b 1 := tq_10
  refine h_ifnull (tgt := 49) (x := r_8) C.1 C.2.1 dX10_compare_22 (by decide) (fun q => ?_) (fun b_16 hb_16 => ?_)
  · have hM := el_none q hM
    refine lv_ldc C.1 C.2.1 C.2.2.2.1 (C.2.2.2.2.1 _ co_X10_112) dX10_compare_49 ?_
    obtain ⟨rfl, rfl⟩ := so_inj hM
    exact h_iret C h dX10_compare_51
  · have hM := el_some hb_16 hM
    have tb_16 := tq_15 _ hb_16
    refine h_aload C.1 C.2.1 dX10_compare_25 (lv_at hl 0 rfl) ?_
    have tq_17 : ∀ b, r_12 = some b → Ty E G b 1 := tq_14
    refine h_ifnull (tgt := 49) (x := r_12) C.1 C.2.1 dX10_compare_27 (by decide) (fun q => ?_) (fun b_18 hb_18 => ?_)
    · have hM := el_none q hM
      refine lv_ldc C.1 C.2.1 C.2.2.2.1 (C.2.2.2.2.1 _ co_X10_112) dX10_compare_49 ?_
      obtain ⟨rfl, rfl⟩ := so_inj hM
      exact h_iret C h dX10_compare_51
    · have hM := el_some hb_18 hM
      have tb_18 := tq_17 _ hb_18
      refine h_aload C.1 C.2.1 dX10_compare_30 (lv_at hl 1 rfl) ?_
      refine st_ref hb_16 ?_
      refine lv_iload_n C.1 C.2.1 dX10_compare_32 rfl (lv_at hl 4 rfl) ?_
      obtain ⟨r_19, m_20, hc_19, hM⟩ := bd_some hM
      refine h_callVi C h (As := [.int x2]) (rest := []) (bz r_19) m_20 (c_X1_hasConstant hc_19 tb_16) 1 rfl (by decide) tb_16 im_yX1_hasConstant se_yX1_hasConstant cy_X1_hasConstant rfl ml_X10_130 ⟨by decide, by decide⟩ ⟨Nat.zero_le _, Nat.zero_le _⟩ hl.1 rfl (Nat.le_of_ble_eq_true rfl) dX10_compare_33 (fun H locs h => ?_)
      refine h_ifz (tgt := 49) C.1 C.2.1 dX10_compare_36 (by decide) (fun q => ?_) (fun q => ?_)
      · have hM := ite_f q hM
        refine lv_ldc C.1 C.2.1 C.2.2.2.1 (C.2.2.2.2.1 _ co_X10_112) dX10_compare_49 ?_
        obtain ⟨rfl, rfl⟩ := so_inj hM
        exact h_iret C h dX10_compare_51
      · have hM := ite_t q hM
        refine h_aload C.1 C.2.1 dX10_compare_39 (lv_at hl 0 rfl) ?_
        refine st_ref hb_18 ?_
        refine lv_iload C.1 C.2.1 dX10_compare_41 (lv_at hl 6 rfl) ?_
        obtain ⟨r_21, m_22, hc_21, hM⟩ := bd_some hM
        refine h_callVi C h (As := [.int x4]) (rest := []) (bz r_21) m_22 (c_X1_hasConstant hc_21 tb_18) 1 rfl (by decide) tb_18 im_yX1_hasConstant se_yX1_hasConstant cy_X1_hasConstant rfl ml_X10_130 ⟨by decide, by decide⟩ ⟨Nat.zero_le _, Nat.zero_le _⟩ hl.1 rfl (Nat.le_of_ble_eq_true rfl) dX10_compare_43 (fun H locs h => ?_)
        refine h_ifnz (tgt := 52) C.1 C.2.1 dX10_compare_46 (by decide) (fun q => ?_) (fun q => ?_)
        · have hM := ite_t q hM
          refine lv_aload_n C.1 C.2.1 dX10_compare_52 rfl (lv_at hl 2 rfl) ?_
          refine gt_10_6 C h tx0 fl_X10_50 dX10_compare_53 ?_
          obtain ⟨b_23, hb_23, hM⟩ := nb_some hM
          have tb_23 : Ty E G b_23 7 := (fun b hb => tyf h tx0 hb) _ hb_23
          refine st_ref hb_23 ?_
          refine lv_aload_n C.1 C.2.1 dX10_compare_56 rfl (lv_at hl 2 rfl) ?_
          refine gt_10_0 C h tx0 fl_X10_10 dX10_compare_57 ?_
          obtain ⟨b_24, hb_24, hM⟩ := nb_some hM
          have tb_24 : Ty E G b_24 6 := (fun b hb => tyf h tx0 hb) _ hb_24
          refine st_ref hb_24 ?_
          obtain ⟨r_25, m_26, hc_25, hM⟩ := bd_some hM
          refine h_callVv C h (As := [.ref b_24]) (rest := []) m_26 (c_X7_begin hc_25 tb_23 tb_24) 7 rfl (by decide) tb_23 im_yX7_begin se_yX7_begin cy_X7_begin rfl ml_X10_138 ⟨by decide, by decide⟩ ⟨Nat.zero_le _, Nat.zero_le _⟩ hl.1 rfl (Nat.le_of_ble_eq_true rfl) dX10_compare_60 (fun H locs h => ?_)
          refine lv_aload_n C.1 C.2.1 dX10_compare_63 rfl (lv_at hl 2 rfl) ?_
          refine gt_10_6 C h tx0 fl_X10_50 dX10_compare_64 ?_
          obtain ⟨b_27, hb_27, hM⟩ := nb_some hM
          have tb_27 : Ty E G b_27 7 := (fun b hb => tyf h tx0 hb) _ hb_27
          refine st_ref hb_27 ?_
          refine lv_iload_n C.1 C.2.1 dX10_compare_67 rfl (lv_at hl 3 rfl) ?_
          refine lv_iconst (v := 0) C.1 C.2.1 dX10_compare_68 (by decide) ?_
          obtain ⟨r_28, m_29, hc_28, hM⟩ := bd_some hM
          refine h_callVi C h (As := [.int x1, .int 0]) (rest := []) (bz r_28) m_29 (c_X7_wantR 10 hc_28 tb_27) 7 rfl (by decide) tb_27 im_yX7_want se_yX7_want cy_X7_want rfl ml_X10_141 ⟨by decide, by decide⟩ ⟨Nat.zero_le _, Nat.zero_le _⟩ hl.1 rfl (Nat.le_of_ble_eq_true rfl) dX10_compare_69 (fun H locs h => ?_)
          refine h_ifz (tgt := 101) C.1 C.2.1 dX10_compare_72 (by decide) (fun q => ?_) (fun q => ?_)
          · have hM := ite_f q hM
            exact cB_X10_compare_101 C hM tx0 _ _ h ls (lv_sub hl [2, 4, 6] rfl)
          · have hM := ite_t q hM
            refine lv_aload_n C.1 C.2.1 dX10_compare_75 rfl (lv_at hl 2 rfl) ?_
            refine gt_10_6 C h tx0 fl_X10_50 dX10_compare_76 ?_
            obtain ⟨b_30, hb_30, hM⟩ := nb_some hM
            have tb_30 : Ty E G b_30 7 := (fun b hb => tyf h tx0 hb) _ hb_30
            refine st_ref hb_30 ?_
            refine lv_iload_n C.1 C.2.1 dX10_compare_79 rfl (lv_at hl 5 rfl) ?_
            refine lv_iconst (v := 0) C.1 C.2.1 dX10_compare_80 (by decide) ?_
            obtain ⟨r_31, m_32, hc_31, hM⟩ := bd_some hM
            refine h_callVi C h (As := [.int x3, .int 0]) (rest := []) (bz r_31) m_32 (c_X7_wantR 10 hc_31 tb_30) 7 rfl (by decide) tb_30 im_yX7_want se_yX7_want cy_X7_want rfl ml_X10_141 ⟨by decide, by decide⟩ ⟨Nat.zero_le _, Nat.zero_le _⟩ hl.1 rfl (Nat.le_of_ble_eq_true rfl) dX10_compare_81 (fun H locs h => ?_)
            refine h_ifz (tgt := 101) C.1 C.2.1 dX10_compare_84 (by decide) (fun q => ?_) (fun q => ?_)
            · have hM := ite_f q hM
              exact cB_X10_compare_101 C hM tx0 _ _ h ls (lv_sub hl [2, 4, 6] rfl)
            · have hM := ite_t q hM
              refine lv_iload_n C.1 C.2.1 dX10_compare_87 rfl (lv_at hl 3 rfl) ?_
              refine lv_iload_n C.1 C.2.1 dX10_compare_88 rfl (lv_at hl 5 rfl) ?_
              refine lv_icmp_eq (tgt := 101) C.1 C.2.1 dX10_compare_89 (by decide) (fun q => ?_) (fun q => ?_)
              · have hM := ite_t q hM
                exact cB_X10_compare_101 C hM tx0 _ _ h ls (lv_sub hl [2, 4, 6] rfl)
              · have hM := ite_f q hM
                refine lv_aload_n C.1 C.2.1 dX10_compare_92 rfl (lv_at hl 2 rfl) ?_
                refine gt_10_6 C h tx0 fl_X10_50 dX10_compare_93 ?_
                obtain ⟨b_33, hb_33, hM⟩ := nb_some hM
                have tb_33 : Ty E G b_33 7 := (fun b hb => tyf h tx0 hb) _ hb_33
                refine st_ref hb_33 ?_
                refine lv_iconst (v := 5) C.1 C.2.1 dX10_compare_96 (by decide) ?_
                obtain ⟨r_34, m_35, hc_34, hM⟩ := bd_some hM
                refine h_callVi C h (As := [.int 5]) (rest := []) (bz r_34) m_35 (c_X7_failBy hc_34 tb_33) 7 rfl (by decide) tb_33 im_yX7_failBy se_yX7_failBy cy_X7_failBy rfl ml_X10_172 ⟨by decide, by decide⟩ ⟨Nat.zero_le _, Nat.zero_le _⟩ hl.1 rfl (Nat.le_of_ble_eq_true rfl) dX10_compare_97 (fun H locs h => ?_)
                refine lv_pop C.1 C.2.1 dX10_compare_100 rfl ?_
                exact cB_X10_compare_101 C hM tx0 _ _ h ls (lv_sub hl [2, 4, 6] rfl)
        · have hM := ite_f q hM
          refine lv_ldc C.1 C.2.1 C.2.2.2.1 (C.2.2.2.2.1 _ co_X10_112) dX10_compare_49 ?_
          obtain ⟨rfl, rfl⟩ := so_inj hM
          exact h_iret C h dX10_compare_51
theorem cy_X10_compare : Cy yX10_compare cX10_compare 7 (some .int) 4 := ⟨cd_yX10_compare, ii_X10, by decide, by decide, by decide +kernel⟩
set_option maxRecDepth 100000 in
theorem c_X10_compare {l : Launch} {E : EE} {G : GG} {x0 : Nat} {x1 : Int32} {x2 : Int32} {x3 : Int32} {x4 : Int32} {m m9 : MM} {r9 : Int32} (hM : M_X10_compare G x0 x1 x2 x3 x4 m = some (r9, m9)) (tx0 : Ty E G x0 10) : Mc l E yX10_compare cX10_compare 7 (some .int) rmX10_compare [.ref x0, .int x1, .int x2, .int x3, .int x4] G m (cQi E r9 G m9) := M_of (by decide) (Nat.le_of_ble_eq_true rfl) (fun p e s mth below meth c C h ls hl => cM_X10_compare C hM tx0 _ _ h ls hl)
abbrev rmX10_takeInHand : Room := { frames := 2, cells := 0, slots := 0, locals := 53 }
def B_X10_takeInHand_20 (G : GG) : Nat → Nat → Int32 → MM → Option (Unit × MM)
  | 0, _, _, _ => none
  | fu + 1, x0, x3, m =>
    if (gI m x0 9) ≤ x3 then
      some ((), m)
    else
      nb (gR m x0 7) fun b_1 =>
        ib x3 (G.2.2 b_1) <|
          B_X10_takeInHand_20 G fu x0 (x3 + 1) (sI m b_1 x3.toNatClampNeg x3)
set_option maxRecDepth 100000 in
set_option maxHeartbeats 4000000 in
theorem cB_X10_takeInHand_20 {p : Program} {l : Launch} {e : Env} {s : State} {mth : MethodId} {args : Array Value} {below : List Frame} {meth : Method} {c : Code} {E : EE} {G : GG} {r9 : Unit} {m9 : MM} (C : Cx E G p s mth args meth c cX10_takeInHand RX10 "takeInHand" 4 none) : ∀ (fu : Nat) (x0 : Nat) (x3 : Int32) (m : MM), B_X10_takeInHand_20 G fu x0 x3 m = some (r9, m9) → (Ty E G x0 10) → ∀ (H : Heap) (locs : List Loc), Hp E G m s H locs → ∀ ls : Array Slot, lv_has ls 4 [(0, .ref x0), (3, .int x3)] → W p l e rmX10_takeInHand s mth args below meth c H locs 0 0 (MQ below (cQv E G m9) args s 0 0 (fun q => E.2.2.1 ≤ q)) (F0 mth 20 ls []) := by
  intro fu
  induction fu with
  | zero =>
    intro x0 x3 m hM
    rw [B_X10_takeInHand_20] at hM
    cases hM
  | succ fu ih =>
    intro x0 x3 m hM tx0 H locs h ls hl
    rw [B_X10_takeInHand_20] at hM
    refine lv_iload_n C.1 C.2.1 dX10_takeInHand_20 rfl (lv_at hl 1 rfl) ?_
    refine lv_aload_n C.1 C.2.1 dX10_takeInHand_21 rfl (lv_at hl 0 rfl) ?_
    refine gt_10_9 C h tx0 fl_X10_98 dX10_takeInHand_22 ?_
    refine lv_icmp_ge (tgt := 41) C.1 C.2.1 dX10_takeInHand_25 (by decide) (fun q => ?_) (fun q => ?_)
    · have hM := ite_t q hM
      obtain ⟨rfl, rfl⟩ := so_inj hM
      exact h_vret C h dX10_takeInHand_41
    · have hM := ite_f q hM
      refine lv_aload_n C.1 C.2.1 dX10_takeInHand_28 rfl (lv_at hl 0 rfl) ?_
      refine gt_10_7 C h tx0 fl_X10_54 dX10_takeInHand_29 ?_
      obtain ⟨b_1, hb_1, hM⟩ := nb_some hM
      have tb_1 : Ty E G b_1 12 := (fun b hb => tyf h tx0 hb) _ hb_1
      refine st_ref hb_1 ?_
      refine lv_iload_n C.1 C.2.1 dX10_takeInHand_32 rfl (lv_at hl 1 rfl) ?_
      refine lv_iload_n C.1 C.2.1 dX10_takeInHand_33 rfl (lv_at hl 1 rfl) ?_
      obtain ⟨hi, hM⟩ := ib_some hM
      refine h_iast C h tb_1 hi dX10_takeInHand_34 (fun H locs h => ?_)
      refine lv_iinc (v := x3 + 1) (lv' := [(3, .int (x3 + 1)), (0, .ref x0)]) C.1 C.2.1 dX10_takeInHand_35 hl (k := 1) rfl rfl (by decide) rfl (fun ls hl => ?_)
      refine lv_goto (tgt := 20) C.1 C.2.1 dX10_takeInHand_38 (by decide) ?_
      exact ih _ _ _ hM tx0 _ _ h ls (lv_sub hl [1, 0] rfl)
def M_X10_takeInHand (G : GG) (x0 : Nat) (x1 : Int32) (x2 : Int32) (m : MM) : Option (Unit × MM) :=
  nb (gR (sI m x0 8 x1) x0 7) fun b_2 =>
    B_X10_takeInHand_20 G FU x0 0 (sI (sI m x0 8 x1) x0 9 (if (nI (G.2.2 b_2)) < x2 then (nI (G.2.2 b_2)) else x2))
set_option maxRecDepth 100000 in
set_option maxHeartbeats 4000000 in
theorem cM_X10_takeInHand {p : Program} {l : Launch} {e : Env} {s : State} {mth : MethodId} {args : Array Value} {below : List Frame} {meth : Method} {c : Code} {E : EE} {G : GG} {r9 : Unit} {m9 : MM} (C : Cx E G p s mth args meth c cX10_takeInHand RX10 "takeInHand" 4 none) {x0 : Nat} {x1 : Int32} {x2 : Int32} {m : MM} (hM : M_X10_takeInHand G x0 x1 x2 m = some (r9, m9)) (tx0 : Ty E G x0 10) : ∀ (H : Heap) (locs : List Loc), Hp E G m s H locs → ∀ ls : Array Slot, lv_has ls 4 [(0, .ref x0), (1, .int x1), (2, .int x2)] → W p l e rmX10_takeInHand s mth args below meth c H locs 0 0 (MQ below (cQv E G m9) args s 0 0 (fun q => E.2.2.1 ≤ q)) (F0 mth 0 ls []) := by
  intro H locs h ls hl
  unfold M_X10_takeInHand at hM
  refine lv_aload_n C.1 C.2.1 dX10_takeInHand_0 rfl (lv_at hl 0 rfl) ?_
  refine lv_iload_n C.1 C.2.1 dX10_takeInHand_1 rfl (lv_at hl 1 rfl) ?_
  refine pt_10_8 C h tx0 fl_X10_179 dX10_takeInHand_2 (fun H locs h => ?_)
  refine lv_aload_n C.1 C.2.1 dX10_takeInHand_5 rfl (lv_at hl 0 rfl) ?_
  refine lv_iload_n C.1 C.2.1 dX10_takeInHand_6 rfl (lv_at hl 2 rfl) ?_
  refine lv_aload_n C.1 C.2.1 dX10_takeInHand_7 rfl (lv_at hl 0 rfl) ?_
  refine gt_10_7 C h tx0 fl_X10_54 dX10_takeInHand_8 ?_
  obtain ⟨b_2, hb_2, hM⟩ := nb_some hM
  have tb_2 : Ty E G b_2 12 := (fun b hb => tyf h tx0 hb) _ hb_2
  refine st_ref hb_2 ?_
  refine h_alen C h 12 (by decide) (by decide) tb_2 dX10_takeInHand_11 ?_
  refine va_mmin C.1 C.2.1 (C.2.2.1.trans hl.1.symm) C.2.2.2.1 (C.2.2.2.2.1 _ ml_X10_182) (C.2.2.2.2.1 _ st_min) (C.2.2.2.2.1 _ ii_Math) (C.2.2.2.2.1 _ cd_min) (by decide) (Nat.le_of_ble_eq_true rfl) (Nat.zero_le _) (Nat.zero_le _) dX10_takeInHand_12 ?_
  refine pt_10_9 C h tx0 fl_X10_98 dX10_takeInHand_15 (fun H locs h => ?_)
  refine lv_iconst (v := 0) C.1 C.2.1 dX10_takeInHand_18 (by decide) ?_
  refine lv_istore_n (lv' := [(3, .int 0), (0, .ref x0), (1, .int x1), (2, .int x2)]) C.1 C.2.1 dX10_takeInHand_19 rfl hl (by decide) rfl (fun ls hl => ?_)
  exact cB_X10_takeInHand_20 C _ _ _ _ hM tx0 _ _ h ls (lv_sub hl [1, 0] rfl)
theorem cy_X10_takeInHand : Cy yX10_takeInHand cX10_takeInHand 4 none 2 := ⟨cd_yX10_takeInHand, ii_X10, by decide, by decide, by decide +kernel⟩
set_option maxRecDepth 100000 in
theorem c_X10_takeInHand {l : Launch} {E : EE} {G : GG} {x0 : Nat} {x1 : Int32} {x2 : Int32} {m m9 : MM} {r9 : Unit} (hM : M_X10_takeInHand G x0 x1 x2 m = some (r9, m9)) (tx0 : Ty E G x0 10) : Mc l E yX10_takeInHand cX10_takeInHand 4 none rmX10_takeInHand [.ref x0, .int x1, .int x2] G m (cQv E G m9) := M_of (by decide) (Nat.le_of_ble_eq_true rfl) (fun p e s mth below meth c C h ls hl => cM_X10_takeInHand C hM tx0 _ _ h ls hl)
abbrev rmX10_values : Room := { frames := 81, cells := 0, slots := 0, locals := 2423 }
def M_X10_values (G : GG) (x0 : Nat) (x1 : Int32) (m : MM) : Option (Int32 × MM) :=
  nb (gR m x0 0) fun b_1 =>
    bd (M_X6_enumAt G b_1 x1 m) fun r_2 m_3 =>
      el r_2 (
        some ((-1000001), m_3)
      ) fun b_6 =>
        nb (gR m_3 x0 6) fun b_7 =>
          nb (gR m_3 x0 0) fun b_8 =>
            bd (M_X7_begin G b_7 b_8 m_3) fun _ m_10 =>
              nb (gR m_10 x0 6) fun b_11 =>
                bd (M_X7_wantR G 10 b_11 x1 0 m_10) fun r_12 m_13 =>
                  if r_12 = true then
                    bd (M_X10_takeInHand G x0 x1 (gI m_13 b_6 12) m_13) fun _ m_17 =>
                      bd (M_X10_finish G x0 (gI m_17 b_6 12) m_17) fun r_18 m_19 =>
                        some (r_18, m_19)
                  else
                    bd (M_X10_finish G x0 (gI m_13 b_6 12) m_13) fun r_14 m_15 =>
                      some (r_14, m_15)
set_option maxRecDepth 100000 in
set_option maxHeartbeats 4000000 in
theorem cM_X10_values {p : Program} {l : Launch} {e : Env} {s : State} {mth : MethodId} {args : Array Value} {below : List Frame} {meth : Method} {c : Code} {E : EE} {G : GG} {r9 : Int32} {m9 : MM} (C : Cx E G p s mth args meth c cX10_values RX10 "values" 3 (some .int)) {x0 : Nat} {x1 : Int32} {m : MM} (hM : M_X10_values G x0 x1 m = some (r9, m9)) (tx0 : Ty E G x0 10) : ∀ (H : Heap) (locs : List Loc), Hp E G m s H locs → ∀ ls : Array Slot, lv_has ls 3 [(0, .ref x0), (1, .int x1)] → W p l e rmX10_values s mth args below meth c H locs 0 0 (MQ below (cQi E r9 G m9) args s 0 0 (fun q => E.2.2.1 ≤ q)) (F0 mth 0 ls []) := by
  intro H locs h ls hl
  unfold M_X10_values at hM
  refine lv_aload_n C.1 C.2.1 dX10_values_0 rfl (lv_at hl 0 rfl) ?_
  refine gt_10_0 C h tx0 fl_X10_10 dX10_values_1 ?_
  obtain ⟨b_1, hb_1, hM⟩ := nb_some hM
  have tb_1 : Ty E G b_1 6 := (fun b hb => tyf h tx0 hb) _ hb_1
  refine st_ref hb_1 ?_
  refine lv_iload_n C.1 C.2.1 dX10_values_4 rfl (lv_at hl 1 rfl) ?_
  obtain ⟨r_2, m_3, hc_2, hM⟩ := bd_some hM
  refine h_callVq C h (As := [.int x1]) (rest := []) r_2 1 m_3 (c_X6_enumAt hc_2 tb_1) 6 rfl (by decide) tb_1 im_yX6_enumAt se_yX6_enumAt cy_X6_enumAt rfl ml_X10_108 ⟨by decide, by decide⟩ ⟨Nat.zero_le _, Nat.zero_le _⟩ hl.1 rfl (Nat.le_of_ble_eq_true rfl) dX10_values_5 (fun tq_2 H locs h => ?_)
  have tq_4 : ∀ b, r_2 = some b → Ty E G b 1 := tq_2
  refine h_astore_n (lv' := [(2, va_rf r_2), (0, .ref x0), (1, .int x1)]) C.1 C.2.1 dX10_values_8 rfl hl (by decide) rfl (fun ls hl => ?_)
  refine h_aload_n C.1 C.2.1 dX10_values_9 rfl (lv_at hl 0 rfl) ?_
  have tq_5 : ∀ b, r_2 = some b → Ty E G b 1 := tq_4
  refine h_ifnonnull (tgt := 16) (x := r_2) C.1 C.2.1 dX10_values_10 (by decide) (fun q => ?_) (fun b_6 hb_6 => ?_)
  · have hM := el_none q hM
    refine lv_ldc C.1 C.2.1 C.2.2.2.1 (C.2.2.2.2.1 _ co_X10_112) dX10_values_13 ?_
    obtain ⟨rfl, rfl⟩ := so_inj hM
    exact h_iret C h dX10_values_15
  · have hM := el_some hb_6 hM
    have tb_6 := tq_5 _ hb_6
    refine lv_aload_n C.1 C.2.1 dX10_values_16 rfl (lv_at hl 1 rfl) ?_
    refine gt_10_6 C h tx0 fl_X10_50 dX10_values_17 ?_
    obtain ⟨b_7, hb_7, hM⟩ := nb_some hM
    have tb_7 : Ty E G b_7 7 := (fun b hb => tyf h tx0 hb) _ hb_7
    refine st_ref hb_7 ?_
    refine lv_aload_n C.1 C.2.1 dX10_values_20 rfl (lv_at hl 1 rfl) ?_
    refine gt_10_0 C h tx0 fl_X10_10 dX10_values_21 ?_
    obtain ⟨b_8, hb_8, hM⟩ := nb_some hM
    have tb_8 : Ty E G b_8 6 := (fun b hb => tyf h tx0 hb) _ hb_8
    refine st_ref hb_8 ?_
    obtain ⟨r_9, m_10, hc_9, hM⟩ := bd_some hM
    refine h_callVv C h (As := [.ref b_8]) (rest := []) m_10 (c_X7_begin hc_9 tb_7 tb_8) 7 rfl (by decide) tb_7 im_yX7_begin se_yX7_begin cy_X7_begin rfl ml_X10_138 ⟨by decide, by decide⟩ ⟨Nat.zero_le _, Nat.zero_le _⟩ hl.1 rfl (Nat.le_of_ble_eq_true rfl) dX10_values_24 (fun H locs h => ?_)
    refine lv_aload_n C.1 C.2.1 dX10_values_27 rfl (lv_at hl 1 rfl) ?_
    refine gt_10_6 C h tx0 fl_X10_50 dX10_values_28 ?_
    obtain ⟨b_11, hb_11, hM⟩ := nb_some hM
    have tb_11 : Ty E G b_11 7 := (fun b hb => tyf h tx0 hb) _ hb_11
    refine st_ref hb_11 ?_
    refine lv_iload_n C.1 C.2.1 dX10_values_31 rfl (lv_at hl 2 rfl) ?_
    refine lv_iconst (v := 0) C.1 C.2.1 dX10_values_32 (by decide) ?_
    obtain ⟨r_12, m_13, hc_12, hM⟩ := bd_some hM
    refine h_callVi C h (As := [.int x1, .int 0]) (rest := []) (bz r_12) m_13 (c_X7_wantR 10 hc_12 tb_11) 7 rfl (by decide) tb_11 im_yX7_want se_yX7_want cy_X7_want rfl ml_X10_141 ⟨by decide, by decide⟩ ⟨Nat.zero_le _, Nat.zero_le _⟩ hl.1 rfl (Nat.le_of_ble_eq_true rfl) dX10_values_33 (fun H locs h => ?_)
    refine h_ifz (tgt := 48) C.1 C.2.1 dX10_values_36 (by decide) (fun q => ?_) (fun q => ?_)
    · have hM := ite_f q hM
      refine lv_aload_n C.1 C.2.1 dX10_values_48 rfl (lv_at hl 1 rfl) ?_
      refine h_aload_n C.1 C.2.1 dX10_values_49 rfl (lv_at hl 0 rfl) ?_
      refine st_ref hb_6 ?_
      refine gt_1_12 C h tb_6 fl_X10_113 dX10_values_50 ?_
      obtain ⟨r_14, m_15, hc_14, hM⟩ := bd_some hM
      refine h_callVi C h (As := [.int (gI m_13 b_6 12)]) (rest := []) r_14 m_15 (c_X10_finish hc_14 tx0) 10 rfl (by decide) tx0 im_yX10_finish se_yX10_finish cy_X10_finish rfl ml_X10_148 ⟨by decide, by decide⟩ ⟨Nat.zero_le _, Nat.zero_le _⟩ hl.1 rfl (Nat.le_of_ble_eq_true rfl) dX10_values_53 (fun H locs h => ?_)
      obtain ⟨rfl, rfl⟩ := so_inj hM
      exact h_iret C h dX10_values_56
    · have hM := ite_t q hM
      refine lv_aload_n C.1 C.2.1 dX10_values_39 rfl (lv_at hl 1 rfl) ?_
      refine lv_iload_n C.1 C.2.1 dX10_values_40 rfl (lv_at hl 2 rfl) ?_
      refine h_aload_n C.1 C.2.1 dX10_values_41 rfl (lv_at hl 0 rfl) ?_
      refine st_ref hb_6 ?_
      refine gt_1_12 C h tb_6 fl_X10_113 dX10_values_42 ?_
      obtain ⟨r_16, m_17, hc_16, hM⟩ := bd_some hM
      refine h_callVv C h (As := [.int x1, .int (gI m_13 b_6 12)]) (rest := []) m_17 (c_X10_takeInHand hc_16 tx0) 10 rfl (by decide) tx0 im_yX10_takeInHand se_yX10_takeInHand cy_X10_takeInHand rfl ml_X10_175 ⟨by decide, by decide⟩ ⟨Nat.zero_le _, Nat.zero_le _⟩ hl.1 rfl (Nat.le_of_ble_eq_true rfl) dX10_values_45 (fun H locs h => ?_)
      refine lv_aload_n C.1 C.2.1 dX10_values_48 rfl (lv_at hl 1 rfl) ?_
      refine h_aload_n C.1 C.2.1 dX10_values_49 rfl (lv_at hl 0 rfl) ?_
      refine st_ref hb_6 ?_
      refine gt_1_12 C h tb_6 fl_X10_113 dX10_values_50 ?_
      obtain ⟨r_18, m_19, hc_18, hM⟩ := bd_some hM
      refine h_callVi C h (As := [.int (gI m_17 b_6 12)]) (rest := []) r_18 m_19 (c_X10_finish hc_18 tx0) 10 rfl (by decide) tx0 im_yX10_finish se_yX10_finish cy_X10_finish rfl ml_X10_148 ⟨by decide, by decide⟩ ⟨Nat.zero_le _, Nat.zero_le _⟩ hl.1 rfl (Nat.le_of_ble_eq_true rfl) dX10_values_53 (fun H locs h => ?_)
      obtain ⟨rfl, rfl⟩ := so_inj hM
      exact h_iret C h dX10_values_56
theorem cy_X10_values : Cy yX10_values cX10_values 3 (some .int) 1 := ⟨cd_yX10_values, ii_X10, by decide, by decide, by decide +kernel⟩
set_option maxRecDepth 100000 in
theorem c_X10_values {l : Launch} {E : EE} {G : GG} {x0 : Nat} {x1 : Int32} {m m9 : MM} {r9 : Int32} (hM : M_X10_values G x0 x1 m = some (r9, m9)) (tx0 : Ty E G x0 10) : Mc l E yX10_values cX10_values 3 (some .int) rmX10_values [.ref x0, .int x1] G m (cQi E r9 G m9) := M_of (by decide) (Nat.le_of_ble_eq_true rfl) (fun p e s mth below meth c C h ls hl => cM_X10_values C hM tx0 _ _ h ls hl)
abbrev rmX10_isInHand : Room := { frames := 0, cells := 0, slots := 0, locals := 0 }
def M_X10_isInHand (G : GG) (x0 : Nat) (x1 : Int32) (m : MM) : Option (Bool × MM) :=
  if x1 < 0 then
    some (false, m)
  else
    if (gI m x0 9) ≤ x1 then
      some (false, m)
    else
      nb (gR m x0 7) fun b_1 =>
        if (nI (G.2.2 b_1)) ≤ x1 then
          some (false, m)
        else
          some (true, m)
set_option maxRecDepth 100000 in
set_option maxHeartbeats 4000000 in
theorem cM_X10_isInHand {p : Program} {l : Launch} {e : Env} {s : State} {mth : MethodId} {args : Array Value} {below : List Frame} {meth : Method} {c : Code} {E : EE} {G : GG} {r9 : Bool} {m9 : MM} (C : Cx E G p s mth args meth c cX10_isInHand RX10 "isInHand" 2 (some .boolean)) {x0 : Nat} {x1 : Int32} {m : MM} (hM : M_X10_isInHand G x0 x1 m = some (r9, m9)) (tx0 : Ty E G x0 10) : ∀ (H : Heap) (locs : List Loc), Hp E G m s H locs → ∀ ls : Array Slot, lv_has ls 2 [(0, .ref x0), (1, .int x1)] → W p l e rmX10_isInHand s mth args below meth c H locs 0 0 (MQ below (cQi E (bz r9) G m9) args s 0 0 (fun q => E.2.2.1 ≤ q)) (F0 mth 0 ls []) := by
  intro H locs h ls hl
  unfold M_X10_isInHand at hM
  refine lv_iload_n C.1 C.2.1 dX10_isInHand_0 rfl (lv_at hl 1 rfl) ?_
  refine lv_if_lt (tgt := 25) C.1 C.2.1 dX10_isInHand_1 (by decide) (fun q => ?_) (fun q => ?_)
  · have hM := ite_t q hM
    refine lv_iconst (v := 0) C.1 C.2.1 dX10_isInHand_25 (by decide) ?_
    obtain ⟨rfl, rfl⟩ := so_inj hM
    exact h_zret C h (bz_ok _).1 dX10_isInHand_26
  · have hM := ite_f q hM
    refine lv_iload_n C.1 C.2.1 dX10_isInHand_4 rfl (lv_at hl 1 rfl) ?_
    refine lv_aload_n C.1 C.2.1 dX10_isInHand_5 rfl (lv_at hl 0 rfl) ?_
    refine gt_10_9 C h tx0 fl_X10_98 dX10_isInHand_6 ?_
    refine lv_icmp_ge (tgt := 25) C.1 C.2.1 dX10_isInHand_9 (by decide) (fun q => ?_) (fun q => ?_)
    · have hM := ite_t q hM
      refine lv_iconst (v := 0) C.1 C.2.1 dX10_isInHand_25 (by decide) ?_
      obtain ⟨rfl, rfl⟩ := so_inj hM
      exact h_zret C h (bz_ok _).1 dX10_isInHand_26
    · have hM := ite_f q hM
      refine lv_iload_n C.1 C.2.1 dX10_isInHand_12 rfl (lv_at hl 1 rfl) ?_
      refine lv_aload_n C.1 C.2.1 dX10_isInHand_13 rfl (lv_at hl 0 rfl) ?_
      refine gt_10_7 C h tx0 fl_X10_54 dX10_isInHand_14 ?_
      obtain ⟨b_1, hb_1, hM⟩ := nb_some hM
      have tb_1 : Ty E G b_1 12 := (fun b hb => tyf h tx0 hb) _ hb_1
      refine st_ref hb_1 ?_
      refine h_alen C h 12 (by decide) (by decide) tb_1 dX10_isInHand_17 ?_
      refine lv_icmp_ge (tgt := 25) C.1 C.2.1 dX10_isInHand_18 (by decide) (fun q => ?_) (fun q => ?_)
      · have hM := ite_t q hM
        refine lv_iconst (v := 0) C.1 C.2.1 dX10_isInHand_25 (by decide) ?_
        obtain ⟨rfl, rfl⟩ := so_inj hM
        exact h_zret C h (bz_ok _).1 dX10_isInHand_26
      · have hM := ite_f q hM
        refine lv_iconst (v := 1) C.1 C.2.1 dX10_isInHand_21 (by decide) ?_
        refine lv_goto (tgt := 26) C.1 C.2.1 dX10_isInHand_22 (by decide) ?_
        obtain ⟨rfl, rfl⟩ := so_inj hM
        exact h_zret C h (bz_ok _).1 dX10_isInHand_26
theorem cy_X10_isInHand : Cy yX10_isInHand cX10_isInHand 2 (some .boolean) 1 := ⟨cd_yX10_isInHand, ii_X10, by decide, by decide, by decide +kernel⟩
set_option maxRecDepth 100000 in
theorem c_X10_isInHand {l : Launch} {E : EE} {G : GG} {x0 : Nat} {x1 : Int32} {m m9 : MM} {r9 : Bool} (hM : M_X10_isInHand G x0 x1 m = some (r9, m9)) (tx0 : Ty E G x0 10) : Mc l E yX10_isInHand cX10_isInHand 2 (some .boolean) rmX10_isInHand [.ref x0, .int x1] G m (cQi E (bz r9) G m9) := M_of (by decide) (Nat.le_of_ble_eq_true rfl) (fun p e s mth below meth c C h ls hl => cM_X10_isInHand C hM tx0 _ _ h ls hl)
abbrev rmX10_swap : Room := { frames := 1, cells := 0, slots := 0, locals := 21 }
def M_X10_swap (G : GG) (x0 : Nat) (x1 : Int32) (x2 : Int32) (m : MM) : Option (Int32 × MM) :=
  bd (M_X10_isInHand G x0 x1 m) fun r_1 m_2 =>
    if r_1 = true then
      bd (M_X10_isInHand G x0 x2 m_2) fun r_3 m_4 =>
        if r_3 = true then
          nb (gR m_4 x0 7) fun b_5 =>
            ib x1 (G.2.2 b_5) <|
              ib x2 (G.2.2 b_5) <|
                ib x1 (G.2.2 b_5) <|
                  nb (gR (sI m_4 b_5 x1.toNatClampNeg (gI m_4 b_5 x2.toNatClampNeg)) x0 7) fun b_6 =>
                    ib x2 (G.2.2 b_6) <|
                      some (1, sI (sI m_4 b_5 x1.toNatClampNeg (gI m_4 b_5 x2.toNatClampNeg)) b_6 x2.toNatClampNeg (gI m_4 b_5 x1.toNatClampNeg))
        else
          some ((-1000002), m_4)
    else
      some ((-1000002), m_2)
set_option maxRecDepth 100000 in
set_option maxHeartbeats 4000000 in
theorem cM_X10_swap {p : Program} {l : Launch} {e : Env} {s : State} {mth : MethodId} {args : Array Value} {below : List Frame} {meth : Method} {c : Code} {E : EE} {G : GG} {r9 : Int32} {m9 : MM} (C : Cx E G p s mth args meth c cX10_swap RX10 "swap" 4 (some .int)) {x0 : Nat} {x1 : Int32} {x2 : Int32} {m : MM} (hM : M_X10_swap G x0 x1 x2 m = some (r9, m9)) (tx0 : Ty E G x0 10) : ∀ (H : Heap) (locs : List Loc), Hp E G m s H locs → ∀ ls : Array Slot, lv_has ls 4 [(0, .ref x0), (1, .int x1), (2, .int x2)] → W p l e rmX10_swap s mth args below meth c H locs 0 0 (MQ below (cQi E r9 G m9) args s 0 0 (fun q => E.2.2.1 ≤ q)) (F0 mth 0 ls []) := by
  intro H locs h ls hl
  unfold M_X10_swap at hM
  refine lv_aload_n C.1 C.2.1 dX10_swap_0 rfl (lv_at hl 0 rfl) ?_
  refine lv_iload_n C.1 C.2.1 dX10_swap_1 rfl (lv_at hl 1 rfl) ?_
  obtain ⟨r_1, m_2, hc_1, hM⟩ := bd_some hM
  refine h_callVi C h (As := [.int x1]) (rest := []) (bz r_1) m_2 (c_X10_isInHand hc_1 tx0) 10 rfl (by decide) tx0 im_yX10_isInHand se_yX10_isInHand cy_X10_isInHand rfl ml_X10_187 ⟨by decide, by decide⟩ ⟨Nat.zero_le _, Nat.zero_le _⟩ hl.1 rfl (Nat.le_of_ble_eq_true rfl) dX10_swap_2 (fun H locs h => ?_)
  refine h_ifz (tgt := 16) C.1 C.2.1 dX10_swap_5 (by decide) (fun q => ?_) (fun q => ?_)
  · have hM := ite_f q hM
    refine lv_ldc C.1 C.2.1 C.2.2.2.1 (C.2.2.2.2.1 _ co_X10_71) dX10_swap_16 ?_
    obtain ⟨rfl, rfl⟩ := so_inj hM
    exact h_iret C h dX10_swap_18
  · have hM := ite_t q hM
    refine lv_aload_n C.1 C.2.1 dX10_swap_8 rfl (lv_at hl 0 rfl) ?_
    refine lv_iload_n C.1 C.2.1 dX10_swap_9 rfl (lv_at hl 2 rfl) ?_
    obtain ⟨r_3, m_4, hc_3, hM⟩ := bd_some hM
    refine h_callVi C h (As := [.int x2]) (rest := []) (bz r_3) m_4 (c_X10_isInHand hc_3 tx0) 10 rfl (by decide) tx0 im_yX10_isInHand se_yX10_isInHand cy_X10_isInHand rfl ml_X10_187 ⟨by decide, by decide⟩ ⟨Nat.zero_le _, Nat.zero_le _⟩ hl.1 rfl (Nat.le_of_ble_eq_true rfl) dX10_swap_10 (fun H locs h => ?_)
    refine h_ifnz (tgt := 19) C.1 C.2.1 dX10_swap_13 (by decide) (fun q => ?_) (fun q => ?_)
    · have hM := ite_t q hM
      refine lv_aload_n C.1 C.2.1 dX10_swap_19 rfl (lv_at hl 0 rfl) ?_
      refine gt_10_7 C h tx0 fl_X10_54 dX10_swap_20 ?_
      obtain ⟨b_5, hb_5, hM⟩ := nb_some hM
      have tb_5 : Ty E G b_5 12 := (fun b hb => tyf h tx0 hb) _ hb_5
      refine st_ref hb_5 ?_
      refine lv_iload_n C.1 C.2.1 dX10_swap_23 rfl (lv_at hl 1 rfl) ?_
      obtain ⟨hi, hM⟩ := ib_some hM
      refine h_iald C h tb_5 hi dX10_swap_24 ?_
      refine lv_istore_n (lv' := [(3, .int (gI m_4 b_5 x1.toNatClampNeg)), (0, .ref x0), (1, .int x1), (2, .int x2)]) C.1 C.2.1 dX10_swap_25 rfl hl (by decide) rfl (fun ls hl => ?_)
      refine lv_aload_n C.1 C.2.1 dX10_swap_26 rfl (lv_at hl 1 rfl) ?_
      refine gt_10_7 C h tx0 fl_X10_54 dX10_swap_27 ?_
      refine st_ref hb_5 ?_
      refine lv_iload_n C.1 C.2.1 dX10_swap_30 rfl (lv_at hl 2 rfl) ?_
      refine lv_aload_n C.1 C.2.1 dX10_swap_31 rfl (lv_at hl 1 rfl) ?_
      refine gt_10_7 C h tx0 fl_X10_54 dX10_swap_32 ?_
      refine st_ref hb_5 ?_
      refine lv_iload_n C.1 C.2.1 dX10_swap_35 rfl (lv_at hl 3 rfl) ?_
      obtain ⟨hi, hM⟩ := ib_some hM
      refine h_iald C h tb_5 hi dX10_swap_36 ?_
      obtain ⟨hi, hM⟩ := ib_some hM
      refine h_iast C h tb_5 hi dX10_swap_37 (fun H locs h => ?_)
      refine lv_aload_n C.1 C.2.1 dX10_swap_38 rfl (lv_at hl 1 rfl) ?_
      refine gt_10_7 C h tx0 fl_X10_54 dX10_swap_39 ?_
      obtain ⟨b_6, hb_6, hM⟩ := nb_some hM
      have tb_6 : Ty E G b_6 12 := (fun b hb => tyf h tx0 hb) _ hb_6
      refine st_ref hb_6 ?_
      refine lv_iload_n C.1 C.2.1 dX10_swap_42 rfl (lv_at hl 3 rfl) ?_
      refine lv_iload_n C.1 C.2.1 dX10_swap_43 rfl (lv_at hl 0 rfl) ?_
      obtain ⟨hi, hM⟩ := ib_some hM
      refine h_iast C h tb_6 hi dX10_swap_44 (fun H locs h => ?_)
      refine lv_iconst (v := 1) C.1 C.2.1 dX10_swap_45 (by decide) ?_
      obtain ⟨rfl, rfl⟩ := so_inj hM
      exact h_iret C h dX10_swap_46
    · have hM := ite_f q hM
      refine lv_ldc C.1 C.2.1 C.2.2.2.1 (C.2.2.2.2.1 _ co_X10_71) dX10_swap_16 ?_
      obtain ⟨rfl, rfl⟩ := so_inj hM
      exact h_iret C h dX10_swap_18
theorem cy_X10_swap : Cy yX10_swap cX10_swap 4 (some .int) 2 := ⟨cd_yX10_swap, ii_X10, by decide, by decide, by decide +kernel⟩
set_option maxRecDepth 100000 in
theorem c_X10_swap {l : Launch} {E : EE} {G : GG} {x0 : Nat} {x1 : Int32} {x2 : Int32} {m m9 : MM} {r9 : Int32} (hM : M_X10_swap G x0 x1 x2 m = some (r9, m9)) (tx0 : Ty E G x0 10) : Mc l E yX10_swap cX10_swap 4 (some .int) rmX10_swap [.ref x0, .int x1, .int x2] G m (cQi E r9 G m9) := M_of (by decide) (Nat.le_of_ble_eq_true rfl) (fun p e s mth below meth c C h ls hl => cM_X10_swap C hM tx0 _ _ h ls hl)
abbrev rmX10_hand : Room := { frames := 1, cells := 0, slots := 0, locals := 21 }
def M_X10_hand (G : GG) (x0 : Nat) (x1 : Int32) (m : MM) : Option (Int32 × MM) :=
  nb (gR m x0 6) fun b_1 =>
    nb (gR m x0 0) fun b_2 =>
      bd (M_X7_begin G b_1 b_2 m) fun _ m_4 =>
        nb (gR m_4 x0 0) fun b_5 =>
          bd (M_X6_enumAt G b_5 (gI m_4 x0 8) m_4) fun r_6 m_7 =>
            el r_6 (
              nb (gR m_7 x0 6) fun b_11 =>
                bd (M_X7_failBy G b_11 4 m_7) fun r_12 m_13 =>
                  bd (M_X10_finish G x0 0 m_13) fun r_14 m_15 =>
                    some (r_14, m_15)
            ) fun b_10 =>
              bd (M_X10_isInHand G x0 x1 m_7) fun r_16 m_17 =>
                if r_16 = true then
                  nb (gR m_17 x0 7) fun b_23 =>
                    ib x1 (G.2.2 b_23) <|
                      bd (M_X1_hasConstant G b_10 (gI m_17 b_23 x1.toNatClampNeg) m_17) fun r_24 m_25 =>
                        if r_24 = true then
                          nb (gR m_25 b_10 9) fun b_26 =>
                            nb (gR m_25 x0 7) fun b_27 =>
                              ib x1 (G.2.2 b_27) <|
                                ib (gI m_25 b_27 x1.toNatClampNeg) (G.2.2 b_26) <|
                                  bd (M_X10_finish G x0 (gI m_25 b_26 ((gI m_25 b_27 x1.toNatClampNeg).toNatClampNeg)) m_25) fun r_28 m_29 =>
                                    some (r_28, m_29)
                        else
                          nb (gR m_25 x0 6) fun b_30 =>
                            bd (M_X7_failBy G b_30 4 m_25) fun r_31 m_32 =>
                              bd (M_X10_finish G x0 0 m_32) fun r_33 m_34 =>
                                some (r_33, m_34)
                else
                  nb (gR m_17 x0 6) fun b_18 =>
                    bd (M_X7_failBy G b_18 4 m_17) fun r_19 m_20 =>
                      bd (M_X10_finish G x0 0 m_20) fun r_21 m_22 =>
                        some (r_21, m_22)
set_option maxRecDepth 100000 in
set_option maxHeartbeats 4000000 in
theorem cM_X10_hand {p : Program} {l : Launch} {e : Env} {s : State} {mth : MethodId} {args : Array Value} {below : List Frame} {meth : Method} {c : Code} {E : EE} {G : GG} {r9 : Int32} {m9 : MM} (C : Cx E G p s mth args meth c cX10_hand RX10 "hand" 3 (some .int)) {x0 : Nat} {x1 : Int32} {m : MM} (hM : M_X10_hand G x0 x1 m = some (r9, m9)) (tx0 : Ty E G x0 10) : ∀ (H : Heap) (locs : List Loc), Hp E G m s H locs → ∀ ls : Array Slot, lv_has ls 3 [(0, .ref x0), (1, .int x1)] → W p l e rmX10_hand s mth args below meth c H locs 0 0 (MQ below (cQi E r9 G m9) args s 0 0 (fun q => E.2.2.1 ≤ q)) (F0 mth 0 ls []) := by
  intro H locs h ls hl
  unfold M_X10_hand at hM
  refine lv_aload_n C.1 C.2.1 dX10_hand_0 rfl (lv_at hl 0 rfl) ?_
  refine gt_10_6 C h tx0 fl_X10_50 dX10_hand_1 ?_
  obtain ⟨b_1, hb_1, hM⟩ := nb_some hM
  have tb_1 : Ty E G b_1 7 := (fun b hb => tyf h tx0 hb) _ hb_1
  refine st_ref hb_1 ?_
  refine lv_aload_n C.1 C.2.1 dX10_hand_4 rfl (lv_at hl 0 rfl) ?_
  refine gt_10_0 C h tx0 fl_X10_10 dX10_hand_5 ?_
  obtain ⟨b_2, hb_2, hM⟩ := nb_some hM
  have tb_2 : Ty E G b_2 6 := (fun b hb => tyf h tx0 hb) _ hb_2
  refine st_ref hb_2 ?_
  obtain ⟨r_3, m_4, hc_3, hM⟩ := bd_some hM
  refine h_callVv C h (As := [.ref b_2]) (rest := []) m_4 (c_X7_begin hc_3 tb_1 tb_2) 7 rfl (by decide) tb_1 im_yX7_begin se_yX7_begin cy_X7_begin rfl ml_X10_138 ⟨by decide, by decide⟩ ⟨Nat.zero_le _, Nat.zero_le _⟩ hl.1 rfl (Nat.le_of_ble_eq_true rfl) dX10_hand_8 (fun H locs h => ?_)
  refine lv_aload_n C.1 C.2.1 dX10_hand_11 rfl (lv_at hl 0 rfl) ?_
  refine gt_10_0 C h tx0 fl_X10_10 dX10_hand_12 ?_
  obtain ⟨b_5, hb_5, hM⟩ := nb_some hM
  have tb_5 : Ty E G b_5 6 := (fun b hb => tyf h tx0 hb) _ hb_5
  refine st_ref hb_5 ?_
  refine lv_aload_n C.1 C.2.1 dX10_hand_15 rfl (lv_at hl 0 rfl) ?_
  refine gt_10_8 C h tx0 fl_X10_179 dX10_hand_16 ?_
  obtain ⟨r_6, m_7, hc_6, hM⟩ := bd_some hM
  refine h_callVq C h (As := [.int (gI m_4 x0 8)]) (rest := []) r_6 1 m_7 (c_X6_enumAt hc_6 tb_5) 6 rfl (by decide) tb_5 im_yX6_enumAt se_yX6_enumAt cy_X6_enumAt rfl ml_X10_108 ⟨by decide, by decide⟩ ⟨Nat.zero_le _, Nat.zero_le _⟩ hl.1 rfl (Nat.le_of_ble_eq_true rfl) dX10_hand_19 (fun tq_6 H locs h => ?_)
  have tq_8 : ∀ b, r_6 = some b → Ty E G b 1 := tq_6
  refine h_astore_n (lv' := [(2, va_rf r_6), (0, .ref x0), (1, .int x1)]) C.1 C.2.1 dX10_hand_22 rfl hl (by decide) rfl (fun ls hl => ?_)
  refine h_aload_n C.1 C.2.1 dX10_hand_23 rfl (lv_at hl 0 rfl) ?_
  have tq_9 : ∀ b, r_6 = some b → Ty E G b 1 := tq_8
  refine h_ifnull (tgt := 48) (x := r_6) C.1 C.2.1 dX10_hand_24 (by decide) (fun q => ?_) (fun b_10 hb_10 => ?_)
  · have hM := el_none q hM
    refine lv_aload_n C.1 C.2.1 dX10_hand_48 rfl (lv_at hl 1 rfl) ?_
    refine gt_10_6 C h tx0 fl_X10_50 dX10_hand_49 ?_
    obtain ⟨b_11, hb_11, hM⟩ := nb_some hM
    have tb_11 : Ty E G b_11 7 := (fun b hb => tyf h tx0 hb) _ hb_11
    refine st_ref hb_11 ?_
    refine lv_iconst (v := 4) C.1 C.2.1 dX10_hand_52 (by decide) ?_
    obtain ⟨r_12, m_13, hc_12, hM⟩ := bd_some hM
    refine h_callVi C h (As := [.int 4]) (rest := []) (bz r_12) m_13 (c_X7_failBy hc_12 tb_11) 7 rfl (by decide) tb_11 im_yX7_failBy se_yX7_failBy cy_X7_failBy rfl ml_X10_172 ⟨by decide, by decide⟩ ⟨Nat.zero_le _, Nat.zero_le _⟩ hl.1 rfl (Nat.le_of_ble_eq_true rfl) dX10_hand_53 (fun H locs h => ?_)
    refine lv_pop C.1 C.2.1 dX10_hand_56 rfl ?_
    refine lv_aload_n C.1 C.2.1 dX10_hand_57 rfl (lv_at hl 1 rfl) ?_
    refine lv_iconst (v := 0) C.1 C.2.1 dX10_hand_58 (by decide) ?_
    obtain ⟨r_14, m_15, hc_14, hM⟩ := bd_some hM
    refine h_callVi C h (As := [.int 0]) (rest := []) r_14 m_15 (c_X10_finish hc_14 tx0) 10 rfl (by decide) tx0 im_yX10_finish se_yX10_finish cy_X10_finish rfl ml_X10_148 ⟨by decide, by decide⟩ ⟨Nat.zero_le _, Nat.zero_le _⟩ hl.1 rfl (Nat.le_of_ble_eq_true rfl) dX10_hand_59 (fun H locs h => ?_)
    obtain ⟨rfl, rfl⟩ := so_inj hM
    exact h_iret C h dX10_hand_62
  · have hM := el_some hb_10 hM
    have tb_10 := tq_9 _ hb_10
    refine lv_aload_n C.1 C.2.1 dX10_hand_27 rfl (lv_at hl 1 rfl) ?_
    refine lv_iload_n C.1 C.2.1 dX10_hand_28 rfl (lv_at hl 2 rfl) ?_
    obtain ⟨r_16, m_17, hc_16, hM⟩ := bd_some hM
    refine h_callVi C h (As := [.int x1]) (rest := []) (bz r_16) m_17 (c_X10_isInHand hc_16 tx0) 10 rfl (by decide) tx0 im_yX10_isInHand se_yX10_isInHand cy_X10_isInHand rfl ml_X10_187 ⟨by decide, by decide⟩ ⟨Nat.zero_le _, Nat.zero_le _⟩ hl.1 rfl (Nat.le_of_ble_eq_true rfl) dX10_hand_29 (fun H locs h => ?_)
    refine h_ifz (tgt := 48) C.1 C.2.1 dX10_hand_32 (by decide) (fun q => ?_) (fun q => ?_)
    · have hM := ite_f q hM
      refine lv_aload_n C.1 C.2.1 dX10_hand_48 rfl (lv_at hl 1 rfl) ?_
      refine gt_10_6 C h tx0 fl_X10_50 dX10_hand_49 ?_
      obtain ⟨b_18, hb_18, hM⟩ := nb_some hM
      have tb_18 : Ty E G b_18 7 := (fun b hb => tyf h tx0 hb) _ hb_18
      refine st_ref hb_18 ?_
      refine lv_iconst (v := 4) C.1 C.2.1 dX10_hand_52 (by decide) ?_
      obtain ⟨r_19, m_20, hc_19, hM⟩ := bd_some hM
      refine h_callVi C h (As := [.int 4]) (rest := []) (bz r_19) m_20 (c_X7_failBy hc_19 tb_18) 7 rfl (by decide) tb_18 im_yX7_failBy se_yX7_failBy cy_X7_failBy rfl ml_X10_172 ⟨by decide, by decide⟩ ⟨Nat.zero_le _, Nat.zero_le _⟩ hl.1 rfl (Nat.le_of_ble_eq_true rfl) dX10_hand_53 (fun H locs h => ?_)
      refine lv_pop C.1 C.2.1 dX10_hand_56 rfl ?_
      refine lv_aload_n C.1 C.2.1 dX10_hand_57 rfl (lv_at hl 1 rfl) ?_
      refine lv_iconst (v := 0) C.1 C.2.1 dX10_hand_58 (by decide) ?_
      obtain ⟨r_21, m_22, hc_21, hM⟩ := bd_some hM
      refine h_callVi C h (As := [.int 0]) (rest := []) r_21 m_22 (c_X10_finish hc_21 tx0) 10 rfl (by decide) tx0 im_yX10_finish se_yX10_finish cy_X10_finish rfl ml_X10_148 ⟨by decide, by decide⟩ ⟨Nat.zero_le _, Nat.zero_le _⟩ hl.1 rfl (Nat.le_of_ble_eq_true rfl) dX10_hand_59 (fun H locs h => ?_)
      obtain ⟨rfl, rfl⟩ := so_inj hM
      exact h_iret C h dX10_hand_62
    · have hM := ite_t q hM
      refine h_aload_n C.1 C.2.1 dX10_hand_35 rfl (lv_at hl 0 rfl) ?_
      refine st_ref hb_10 ?_
      refine lv_aload_n C.1 C.2.1 dX10_hand_36 rfl (lv_at hl 1 rfl) ?_
      refine gt_10_7 C h tx0 fl_X10_54 dX10_hand_37 ?_
      obtain ⟨b_23, hb_23, hM⟩ := nb_some hM
      have tb_23 : Ty E G b_23 12 := (fun b hb => tyf h tx0 hb) _ hb_23
      refine st_ref hb_23 ?_
      refine lv_iload_n C.1 C.2.1 dX10_hand_40 rfl (lv_at hl 2 rfl) ?_
      obtain ⟨hi, hM⟩ := ib_some hM
      refine h_iald C h tb_23 hi dX10_hand_41 ?_
      obtain ⟨r_24, m_25, hc_24, hM⟩ := bd_some hM
      refine h_callVi C h (As := [.int (gI m_17 b_23 x1.toNatClampNeg)]) (rest := []) (bz r_24) m_25 (c_X1_hasConstant hc_24 tb_10) 1 rfl (by decide) tb_10 im_yX1_hasConstant se_yX1_hasConstant cy_X1_hasConstant rfl ml_X10_130 ⟨by decide, by decide⟩ ⟨Nat.zero_le _, Nat.zero_le _⟩ hl.1 rfl (Nat.le_of_ble_eq_true rfl) dX10_hand_42 (fun H locs h => ?_)
      refine h_ifnz (tgt := 63) C.1 C.2.1 dX10_hand_45 (by decide) (fun q => ?_) (fun q => ?_)
      · have hM := ite_t q hM
        refine lv_aload_n C.1 C.2.1 dX10_hand_63 rfl (lv_at hl 1 rfl) ?_
        refine h_aload_n C.1 C.2.1 dX10_hand_64 rfl (lv_at hl 0 rfl) ?_
        refine st_ref hb_10 ?_
        refine gt_1_9 C h tb_10 fl_X10_145 dX10_hand_65 ?_
        obtain ⟨b_26, hb_26, hM⟩ := nb_some hM
        have tb_26 : Ty E G b_26 12 := (fun b hb => tyf h tb_10 hb) _ hb_26
        refine st_ref hb_26 ?_
        refine lv_aload_n C.1 C.2.1 dX10_hand_68 rfl (lv_at hl 1 rfl) ?_
        refine gt_10_7 C h tx0 fl_X10_54 dX10_hand_69 ?_
        obtain ⟨b_27, hb_27, hM⟩ := nb_some hM
        have tb_27 : Ty E G b_27 12 := (fun b hb => tyf h tx0 hb) _ hb_27
        refine st_ref hb_27 ?_
        refine lv_iload_n C.1 C.2.1 dX10_hand_72 rfl (lv_at hl 2 rfl) ?_
        obtain ⟨hi, hM⟩ := ib_some hM
        refine h_iald C h tb_27 hi dX10_hand_73 ?_
        obtain ⟨hi, hM⟩ := ib_some hM
        refine h_iald C h tb_26 hi dX10_hand_74 ?_
        obtain ⟨r_28, m_29, hc_28, hM⟩ := bd_some hM
        refine h_callVi C h (As := [.int (gI m_25 b_26 ((gI m_25 b_27 x1.toNatClampNeg).toNatClampNeg))]) (rest := []) r_28 m_29 (c_X10_finish hc_28 tx0) 10 rfl (by decide) tx0 im_yX10_finish se_yX10_finish cy_X10_finish rfl ml_X10_148 ⟨by decide, by decide⟩ ⟨Nat.zero_le _, Nat.zero_le _⟩ hl.1 rfl (Nat.le_of_ble_eq_true rfl) dX10_hand_75 (fun H locs h => ?_)
        obtain ⟨rfl, rfl⟩ := so_inj hM
        exact h_iret C h dX10_hand_78
      · have hM := ite_f q hM
        refine lv_aload_n C.1 C.2.1 dX10_hand_48 rfl (lv_at hl 1 rfl) ?_
        refine gt_10_6 C h tx0 fl_X10_50 dX10_hand_49 ?_
        obtain ⟨b_30, hb_30, hM⟩ := nb_some hM
        have tb_30 : Ty E G b_30 7 := (fun b hb => tyf h tx0 hb) _ hb_30
        refine st_ref hb_30 ?_
        refine lv_iconst (v := 4) C.1 C.2.1 dX10_hand_52 (by decide) ?_
        obtain ⟨r_31, m_32, hc_31, hM⟩ := bd_some hM
        refine h_callVi C h (As := [.int 4]) (rest := []) (bz r_31) m_32 (c_X7_failBy hc_31 tb_30) 7 rfl (by decide) tb_30 im_yX7_failBy se_yX7_failBy cy_X7_failBy rfl ml_X10_172 ⟨by decide, by decide⟩ ⟨Nat.zero_le _, Nat.zero_le _⟩ hl.1 rfl (Nat.le_of_ble_eq_true rfl) dX10_hand_53 (fun H locs h => ?_)
        refine lv_pop C.1 C.2.1 dX10_hand_56 rfl ?_
        refine lv_aload_n C.1 C.2.1 dX10_hand_57 rfl (lv_at hl 1 rfl) ?_
        refine lv_iconst (v := 0) C.1 C.2.1 dX10_hand_58 (by decide) ?_
        obtain ⟨r_33, m_34, hc_33, hM⟩ := bd_some hM
        refine h_callVi C h (As := [.int 0]) (rest := []) r_33 m_34 (c_X10_finish hc_33 tx0) 10 rfl (by decide) tx0 im_yX10_finish se_yX10_finish cy_X10_finish rfl ml_X10_148 ⟨by decide, by decide⟩ ⟨Nat.zero_le _, Nat.zero_le _⟩ hl.1 rfl (Nat.le_of_ble_eq_true rfl) dX10_hand_59 (fun H locs h => ?_)
        obtain ⟨rfl, rfl⟩ := so_inj hM
        exact h_iret C h dX10_hand_62
theorem cy_X10_hand : Cy yX10_hand cX10_hand 3 (some .int) 1 := ⟨cd_yX10_hand, ii_X10, by decide, by decide, by decide +kernel⟩
set_option maxRecDepth 100000 in
theorem c_X10_hand {l : Launch} {E : EE} {G : GG} {x0 : Nat} {x1 : Int32} {m m9 : MM} {r9 : Int32} (hM : M_X10_hand G x0 x1 m = some (r9, m9)) (tx0 : Ty E G x0 10) : Mc l E yX10_hand cX10_hand 3 (some .int) rmX10_hand [.ref x0, .int x1] G m (cQi E r9 G m9) := M_of (by decide) (Nat.le_of_ble_eq_true rfl) (fun p e s mth below meth c C h ls hl => cM_X10_hand C hM tx0 _ _ h ls hl)
abbrev rmX10_lookFor : Room := { frames := 3, cells := 0, slots := 0, locals := 65 }
def B_X10_lookFor_23 (G : GG) : Nat → Nat → Nat → Int32 → MM → Option (Int32 × MM)
  | 0, _, _, _, _ => none
  | fu + 1, x0, x1, x2, m =>
    if (gI m x1 12) ≤ x2 then
      nb (gR m x0 6) fun b_1 =>
        bd (M_X7_failBy G b_1 3 m) fun r_2 m_3 =>
          some (0, m_3)
    else
      nb (gR m x1 0) fun b_4 =>
        ib x2 (G.2.2 b_4) <|
          nb (gR m x0 0) fun b_5 =>
            nb (gR m b_5 5) fun b_6 =>
              bd (M_X8_nameLength G b_6 (gI m b_4 x2.toNatClampNeg) m) fun r_7 m_8 =>
                nb (gR m_8 x0 2) fun b_9 =>
                  if r_7 = (gI m_8 b_9 1) then
                    nb (gR m_8 x0 0) fun b_10 =>
                      nb (gR m_8 b_10 5) fun b_11 =>
                        bd (M_X8_same G b_9 0 b_11 (gI m b_4 x2.toNatClampNeg) (gI m_8 b_9 1) m_8) fun r_12 m_13 =>
                          if r_12 = true then
                            some (x2, m_13)
                          else
                            B_X10_lookFor_23 G fu x0 x1 (x2 + 1) m_13
                  else
                    B_X10_lookFor_23 G fu x0 x1 (x2 + 1) m_8
set_option maxRecDepth 100000 in
set_option maxHeartbeats 4000000 in
theorem cB_X10_lookFor_23 {p : Program} {l : Launch} {e : Env} {s : State} {mth : MethodId} {args : Array Value} {below : List Frame} {meth : Method} {c : Code} {E : EE} {G : GG} {r9 : Int32} {m9 : MM} (C : Cx E G p s mth args meth c cX10_lookFor RX10 "lookFor" 4 (some .int)) : ∀ (fu : Nat) (x0 : Nat) (x1 : Nat) (x2 : Int32) (m : MM), B_X10_lookFor_23 G fu x0 x1 x2 m = some (r9, m9) → (Ty E G x0 10) → (Ty E G x1 1) → ∀ (H : Heap) (locs : List Loc), Hp E G m s H locs → ∀ ls : Array Slot, lv_has ls 4 [(0, .ref x0), (1, .ref x1), (2, .int x2)] → W p l e rmX10_lookFor s mth args below meth c H locs 0 0 (MQ below (cQi E r9 G m9) args s 0 0 (fun q => E.2.2.1 ≤ q)) (F0 mth 23 ls []) := by
  intro fu
  induction fu with
  | zero =>
    intro x0 x1 x2 m hM
    rw [B_X10_lookFor_23] at hM
    cases hM
  | succ fu ih =>
    intro x0 x1 x2 m hM tx0 tx1 H locs h ls hl
    rw [B_X10_lookFor_23] at hM
    refine lv_iload_n C.1 C.2.1 dX10_lookFor_23 rfl (lv_at hl 2 rfl) ?_
    refine lv_aload_n C.1 C.2.1 dX10_lookFor_24 rfl (lv_at hl 1 rfl) ?_
    refine gt_1_12 C h tx1 fl_X10_113 dX10_lookFor_25 ?_
    refine lv_icmp_ge (tgt := 93) C.1 C.2.1 dX10_lookFor_28 (by decide) (fun q => ?_) (fun q => ?_)
    · have hM := ite_t q hM
      refine lv_aload_n C.1 C.2.1 dX10_lookFor_93 rfl (lv_at hl 0 rfl) ?_
      refine gt_10_6 C h tx0 fl_X10_50 dX10_lookFor_94 ?_
      obtain ⟨b_1, hb_1, hM⟩ := nb_some hM
      have tb_1 : Ty E G b_1 7 := (fun b hb => tyf h tx0 hb) _ hb_1
      refine st_ref hb_1 ?_
      refine lv_iconst (v := 3) C.1 C.2.1 dX10_lookFor_97 (by decide) ?_
      obtain ⟨r_2, m_3, hc_2, hM⟩ := bd_some hM
      refine h_callVi C h (As := [.int 3]) (rest := []) (bz r_2) m_3 (c_X7_failBy hc_2 tb_1) 7 rfl (by decide) tb_1 im_yX7_failBy se_yX7_failBy cy_X7_failBy rfl ml_X10_172 ⟨by decide, by decide⟩ ⟨Nat.zero_le _, Nat.zero_le _⟩ hl.1 rfl (Nat.le_of_ble_eq_true rfl) dX10_lookFor_98 (fun H locs h => ?_)
      refine lv_pop C.1 C.2.1 dX10_lookFor_101 rfl ?_
      refine lv_iconst (v := 0) C.1 C.2.1 dX10_lookFor_102 (by decide) ?_
      obtain ⟨rfl, rfl⟩ := so_inj hM
      exact h_iret C h dX10_lookFor_103
    · have hM := ite_f q hM
      refine lv_aload_n C.1 C.2.1 dX10_lookFor_31 rfl (lv_at hl 1 rfl) ?_
      refine gt_1_0 C h tx1 fl_X10_194 dX10_lookFor_32 ?_
      obtain ⟨b_4, hb_4, hM⟩ := nb_some hM
      have tb_4 : Ty E G b_4 12 := (fun b hb => tyf h tx1 hb) _ hb_4
      refine st_ref hb_4 ?_
      refine lv_iload_n C.1 C.2.1 dX10_lookFor_35 rfl (lv_at hl 2 rfl) ?_
      obtain ⟨hi, hM⟩ := ib_some hM
      refine h_iald C h tb_4 hi dX10_lookFor_36 ?_
      refine lv_istore_n (lv' := [(3, .int (gI m b_4 x2.toNatClampNeg)), (0, .ref x0), (1, .ref x1), (2, .int x2)]) C.1 C.2.1 dX10_lookFor_37 rfl hl (by decide) rfl (fun ls hl => ?_)
      refine lv_aload_n C.1 C.2.1 dX10_lookFor_38 rfl (lv_at hl 1 rfl) ?_
      refine gt_10_0 C h tx0 fl_X10_10 dX10_lookFor_39 ?_
      obtain ⟨b_5, hb_5, hM⟩ := nb_some hM
      have tb_5 : Ty E G b_5 6 := (fun b hb => tyf h tx0 hb) _ hb_5
      refine st_ref hb_5 ?_
      refine gt_6_5 C h tb_5 fl_X10_92 dX10_lookFor_42 ?_
      obtain ⟨b_6, hb_6, hM⟩ := nb_some hM
      have tb_6 : Ty E G b_6 8 := (fun b hb => tyf h tb_5 hb) _ hb_6
      refine st_ref hb_6 ?_
      refine lv_iload_n C.1 C.2.1 dX10_lookFor_45 rfl (lv_at hl 0 rfl) ?_
      obtain ⟨r_7, m_8, hc_7, hM⟩ := bd_some hM
      refine h_callVi C h (As := [.int (gI m b_4 x2.toNatClampNeg)]) (rest := []) r_7 m_8 (c_X8_nameLength hc_7 tb_6) 8 rfl (by decide) tb_6 im_yX8_nameLength se_yX8_nameLength cy_X8_nameLength rfl ml_X10_197 ⟨by decide, by decide⟩ ⟨Nat.zero_le _, Nat.zero_le _⟩ hl.1 rfl (Nat.le_of_ble_eq_true rfl) dX10_lookFor_46 (fun H locs h => ?_)
      refine lv_aload_n C.1 C.2.1 dX10_lookFor_49 rfl (lv_at hl 1 rfl) ?_
      refine gt_10_2 C h tx0 fl_X10_22 dX10_lookFor_50 ?_
      obtain ⟨b_9, hb_9, hM⟩ := nb_some hM
      have tb_9 : Ty E G b_9 8 := (fun b hb => tyf h tx0 hb) _ hb_9
      refine st_ref hb_9 ?_
      refine gt_8_1 C h tb_9 fl_X10_62 dX10_lookFor_53 ?_
      refine lv_icmp_ne (tgt := 87) C.1 C.2.1 dX10_lookFor_56 (by decide) (fun q => ?_) (fun q => ?_)
      · have hM := ite_f q hM
        refine lv_iinc (v := x2 + 1) (lv' := [(2, .int (x2 + 1)), (3, .int (gI m b_4 x2.toNatClampNeg)), (0, .ref x0), (1, .ref x1)]) C.1 C.2.1 dX10_lookFor_87 hl (k := 3) rfl rfl (by decide) rfl (fun ls hl => ?_)
        refine lv_goto (tgt := 23) C.1 C.2.1 dX10_lookFor_90 (by decide) ?_
        exact ih _ _ _ _ hM tx0 tx1 _ _ h ls (lv_sub hl [2, 3, 0] rfl)
      · have hM := ite_t q hM
        refine lv_aload_n C.1 C.2.1 dX10_lookFor_59 rfl (lv_at hl 1 rfl) ?_
        refine gt_10_2 C h tx0 fl_X10_22 dX10_lookFor_60 ?_
        refine st_ref hb_9 ?_
        refine lv_iconst (v := 0) C.1 C.2.1 dX10_lookFor_63 (by decide) ?_
        refine lv_aload_n C.1 C.2.1 dX10_lookFor_64 rfl (lv_at hl 1 rfl) ?_
        refine gt_10_0 C h tx0 fl_X10_10 dX10_lookFor_65 ?_
        obtain ⟨b_10, hb_10, hM⟩ := nb_some hM
        have tb_10 : Ty E G b_10 6 := (fun b hb => tyf h tx0 hb) _ hb_10
        refine st_ref hb_10 ?_
        refine gt_6_5 C h tb_10 fl_X10_92 dX10_lookFor_68 ?_
        obtain ⟨b_11, hb_11, hM⟩ := nb_some hM
        have tb_11 : Ty E G b_11 8 := (fun b hb => tyf h tb_10 hb) _ hb_11
        refine st_ref hb_11 ?_
        refine lv_iload_n C.1 C.2.1 dX10_lookFor_71 rfl (lv_at hl 0 rfl) ?_
        refine lv_aload_n C.1 C.2.1 dX10_lookFor_72 rfl (lv_at hl 1 rfl) ?_
        refine gt_10_2 C h tx0 fl_X10_22 dX10_lookFor_73 ?_
        refine st_ref hb_9 ?_
        refine gt_8_1 C h tb_9 fl_X10_62 dX10_lookFor_76 ?_
        obtain ⟨r_12, m_13, hc_12, hM⟩ := bd_some hM
        refine h_callVi C h (As := [.int 0, .ref b_11, .int (gI m b_4 x2.toNatClampNeg), .int (gI m_8 b_9 1)]) (rest := []) (bz r_12) m_13 (c_X8_same hc_12 tb_9 tb_11) 8 rfl (by decide) tb_9 im_yX8_same se_yX8_same cy_X8_same rfl ml_X10_200 ⟨by decide, by decide⟩ ⟨Nat.zero_le _, Nat.zero_le _⟩ hl.1 rfl (Nat.le_of_ble_eq_true rfl) dX10_lookFor_79 (fun H locs h => ?_)
        refine h_ifz (tgt := 87) C.1 C.2.1 dX10_lookFor_82 (by decide) (fun q => ?_) (fun q => ?_)
        · have hM := ite_f q hM
          refine lv_iinc (v := x2 + 1) (lv' := [(2, .int (x2 + 1)), (3, .int (gI m b_4 x2.toNatClampNeg)), (0, .ref x0), (1, .ref x1)]) C.1 C.2.1 dX10_lookFor_87 hl (k := 3) rfl rfl (by decide) rfl (fun ls hl => ?_)
          refine lv_goto (tgt := 23) C.1 C.2.1 dX10_lookFor_90 (by decide) ?_
          exact ih _ _ _ _ hM tx0 tx1 _ _ h ls (lv_sub hl [2, 3, 0] rfl)
        · have hM := ite_t q hM
          refine lv_iload_n C.1 C.2.1 dX10_lookFor_85 rfl (lv_at hl 3 rfl) ?_
          obtain ⟨rfl, rfl⟩ := so_inj hM
          exact h_iret C h dX10_lookFor_86
def M_X10_lookFor (G : GG) (x0 : Nat) (x1 : Nat) (m : MM) : Option (Int32 × MM) :=
  nb (gR m x0 2) fun b_14 =>
    if (gI m b_14 1) = 0 then
      nb (gR m x0 6) fun b_15 =>
        bd (M_X7_failBy G b_15 1 m) fun r_16 m_17 =>
          some (0, m_17)
    else
      B_X10_lookFor_23 G FU x0 x1 0 m
set_option maxRecDepth 100000 in
set_option maxHeartbeats 4000000 in
theorem cM_X10_lookFor {p : Program} {l : Launch} {e : Env} {s : State} {mth : MethodId} {args : Array Value} {below : List Frame} {meth : Method} {c : Code} {E : EE} {G : GG} {r9 : Int32} {m9 : MM} (C : Cx E G p s mth args meth c cX10_lookFor RX10 "lookFor" 4 (some .int)) {x0 : Nat} {x1 : Nat} {m : MM} (hM : M_X10_lookFor G x0 x1 m = some (r9, m9)) (tx0 : Ty E G x0 10) (tx1 : Ty E G x1 1) : ∀ (H : Heap) (locs : List Loc), Hp E G m s H locs → ∀ ls : Array Slot, lv_has ls 4 [(0, .ref x0), (1, .ref x1)] → W p l e rmX10_lookFor s mth args below meth c H locs 0 0 (MQ below (cQi E r9 G m9) args s 0 0 (fun q => E.2.2.1 ≤ q)) (F0 mth 0 ls []) := by
  intro H locs h ls hl
  unfold M_X10_lookFor at hM
  refine lv_aload_n C.1 C.2.1 dX10_lookFor_0 rfl (lv_at hl 0 rfl) ?_
  refine gt_10_2 C h tx0 fl_X10_22 dX10_lookFor_1 ?_
  obtain ⟨b_14, hb_14, hM⟩ := nb_some hM
  have tb_14 : Ty E G b_14 8 := (fun b hb => tyf h tx0 hb) _ hb_14
  refine st_ref hb_14 ?_
  refine gt_8_1 C h tb_14 fl_X10_62 dX10_lookFor_4 ?_
  refine lv_if_ne (tgt := 21) C.1 C.2.1 dX10_lookFor_7 (by decide) (fun q => ?_) (fun q => ?_)
  · have hM := ite_f q hM
    refine lv_iconst (v := 0) C.1 C.2.1 dX10_lookFor_21 (by decide) ?_
    refine lv_istore_n (lv' := [(2, .int 0), (0, .ref x0), (1, .ref x1)]) C.1 C.2.1 dX10_lookFor_22 rfl hl (by decide) rfl (fun ls hl => ?_)
    exact cB_X10_lookFor_23 C _ _ _ _ _ hM tx0 tx1 _ _ h ls (lv_sub hl [1, 2, 0] rfl)
  · have hM := ite_t q hM
    refine lv_aload_n C.1 C.2.1 dX10_lookFor_10 rfl (lv_at hl 0 rfl) ?_
    refine gt_10_6 C h tx0 fl_X10_50 dX10_lookFor_11 ?_
    obtain ⟨b_15, hb_15, hM⟩ := nb_some hM
    have tb_15 : Ty E G b_15 7 := (fun b hb => tyf h tx0 hb) _ hb_15
    refine st_ref hb_15 ?_
    refine lv_iconst (v := 1) C.1 C.2.1 dX10_lookFor_14 (by decide) ?_
    obtain ⟨r_16, m_17, hc_16, hM⟩ := bd_some hM
    refine h_callVi C h (As := [.int 1]) (rest := []) (bz r_16) m_17 (c_X7_failBy hc_16 tb_15) 7 rfl (by decide) tb_15 im_yX7_failBy se_yX7_failBy cy_X7_failBy rfl ml_X10_172 ⟨by decide, by decide⟩ ⟨Nat.zero_le _, Nat.zero_le _⟩ hl.1 rfl (Nat.le_of_ble_eq_true rfl) dX10_lookFor_15 (fun H locs h => ?_)
    refine lv_pop C.1 C.2.1 dX10_lookFor_18 rfl ?_
    refine lv_iconst (v := 0) C.1 C.2.1 dX10_lookFor_19 (by decide) ?_
    obtain ⟨rfl, rfl⟩ := so_inj hM
    exact h_iret C h dX10_lookFor_20
theorem cy_X10_lookFor : Cy yX10_lookFor cX10_lookFor 4 (some .int) 1 := ⟨cd_yX10_lookFor, ii_X10, by decide, by decide, by decide +kernel⟩
set_option maxRecDepth 100000 in
theorem c_X10_lookFor {l : Launch} {E : EE} {G : GG} {x0 : Nat} {x1 : Nat} {m m9 : MM} {r9 : Int32} (hM : M_X10_lookFor G x0 x1 m = some (r9, m9)) (tx0 : Ty E G x0 10) (tx1 : Ty E G x1 1) : Mc l E yX10_lookFor cX10_lookFor 4 (some .int) rmX10_lookFor [.ref x0, .ref x1] G m (cQi E r9 G m9) := M_of (by decide) (Nat.le_of_ble_eq_true rfl) (fun p e s mth below meth c C h ls hl => cM_X10_lookFor C hM tx0 tx1 _ _ h ls hl)
abbrev rmX10_named : Room := { frames := 81, cells := 0, slots := 0, locals := 2423 }
def M_X10_named (G : GG) (x0 : Nat) (x1 : Int32) (m : MM) : Option (Int32 × MM) :=
  nb (gR m x0 0) fun b_1 =>
    bd (M_X6_enumAt G b_1 x1 m) fun r_2 m_3 =>
      el r_2 (
        some ((-1000001), m_3)
      ) fun b_6 =>
        nb (gR m_3 x0 6) fun b_7 =>
          nb (gR m_3 x0 0) fun b_8 =>
            bd (M_X7_begin G b_7 b_8 m_3) fun _ m_10 =>
              nb (gR m_10 x0 6) fun b_11 =>
                bd (M_X7_wantR G 10 b_11 x1 0 m_10) fun r_12 m_13 =>
                  if r_12 = true then
                    bd (M_X10_lookFor G x0 b_6 m_13) fun r_17 m_18 =>
                      nb (gR m_18 x0 2) fun b_19 =>
                        bd (M_X10_finish G x0 r_17 (sI m_18 b_19 1 0)) fun r_20 m_21 =>
                          some (r_20, m_21)
                  else
                    nb (gR m_13 x0 2) fun b_14 =>
                      bd (M_X10_finish G x0 0 (sI m_13 b_14 1 0)) fun r_15 m_16 =>
                        some (r_15, m_16)
set_option maxRecDepth 100000 in
set_option maxHeartbeats 4000000 in
theorem cM_X10_named {p : Program} {l : Launch} {e : Env} {s : State} {mth : MethodId} {args : Array Value} {below : List Frame} {meth : Method} {c : Code} {E : EE} {G : GG} {r9 : Int32} {m9 : MM} (C : Cx E G p s mth args meth c cX10_named RX10 "named" 4 (some .int)) {x0 : Nat} {x1 : Int32} {m : MM} (hM : M_X10_named G x0 x1 m = some (r9, m9)) (tx0 : Ty E G x0 10) : ∀ (H : Heap) (locs : List Loc), Hp E G m s H locs → ∀ ls : Array Slot, lv_has ls 4 [(0, .ref x0), (1, .int x1)] → W p l e rmX10_named s mth args below meth c H locs 0 0 (MQ below (cQi E r9 G m9) args s 0 0 (fun q => E.2.2.1 ≤ q)) (F0 mth 0 ls []) := by
  intro H locs h ls hl
  unfold M_X10_named at hM
  refine lv_aload_n C.1 C.2.1 dX10_named_0 rfl (lv_at hl 0 rfl) ?_
  refine gt_10_0 C h tx0 fl_X10_10 dX10_named_1 ?_
  obtain ⟨b_1, hb_1, hM⟩ := nb_some hM
  have tb_1 : Ty E G b_1 6 := (fun b hb => tyf h tx0 hb) _ hb_1
  refine st_ref hb_1 ?_
  refine lv_iload_n C.1 C.2.1 dX10_named_4 rfl (lv_at hl 1 rfl) ?_
  obtain ⟨r_2, m_3, hc_2, hM⟩ := bd_some hM
  refine h_callVq C h (As := [.int x1]) (rest := []) r_2 1 m_3 (c_X6_enumAt hc_2 tb_1) 6 rfl (by decide) tb_1 im_yX6_enumAt se_yX6_enumAt cy_X6_enumAt rfl ml_X10_108 ⟨by decide, by decide⟩ ⟨Nat.zero_le _, Nat.zero_le _⟩ hl.1 rfl (Nat.le_of_ble_eq_true rfl) dX10_named_5 (fun tq_2 H locs h => ?_)
  have tq_4 : ∀ b, r_2 = some b → Ty E G b 1 := tq_2
  refine h_astore_n (lv' := [(2, va_rf r_2), (0, .ref x0), (1, .int x1)]) C.1 C.2.1 dX10_named_8 rfl hl (by decide) rfl (fun ls hl => ?_)
  refine h_aload_n C.1 C.2.1 dX10_named_9 rfl (lv_at hl 0 rfl) ?_
  have tq_5 : ∀ b, r_2 = some b → Ty E G b 1 := tq_4
  refine h_ifnonnull (tgt := 16) (x := r_2) C.1 C.2.1 dX10_named_10 (by decide) (fun q => ?_) (fun b_6 hb_6 => ?_)
  · have hM := el_none q hM
    refine lv_ldc C.1 C.2.1 C.2.2.2.1 (C.2.2.2.2.1 _ co_X10_112) dX10_named_13 ?_
    obtain ⟨rfl, rfl⟩ := so_inj hM
    exact h_iret C h dX10_named_15
  · have hM := el_some hb_6 hM
    have tb_6 := tq_5 _ hb_6
    refine lv_aload_n C.1 C.2.1 dX10_named_16 rfl (lv_at hl 1 rfl) ?_
    refine gt_10_6 C h tx0 fl_X10_50 dX10_named_17 ?_
    obtain ⟨b_7, hb_7, hM⟩ := nb_some hM
    have tb_7 : Ty E G b_7 7 := (fun b hb => tyf h tx0 hb) _ hb_7
    refine st_ref hb_7 ?_
    refine lv_aload_n C.1 C.2.1 dX10_named_20 rfl (lv_at hl 1 rfl) ?_
    refine gt_10_0 C h tx0 fl_X10_10 dX10_named_21 ?_
    obtain ⟨b_8, hb_8, hM⟩ := nb_some hM
    have tb_8 : Ty E G b_8 6 := (fun b hb => tyf h tx0 hb) _ hb_8
    refine st_ref hb_8 ?_
    obtain ⟨r_9, m_10, hc_9, hM⟩ := bd_some hM
    refine h_callVv C h (As := [.ref b_8]) (rest := []) m_10 (c_X7_begin hc_9 tb_7 tb_8) 7 rfl (by decide) tb_7 im_yX7_begin se_yX7_begin cy_X7_begin rfl ml_X10_138 ⟨by decide, by decide⟩ ⟨Nat.zero_le _, Nat.zero_le _⟩ hl.1 rfl (Nat.le_of_ble_eq_true rfl) dX10_named_24 (fun H locs h => ?_)
    refine lv_iconst (v := 0) C.1 C.2.1 dX10_named_27 (by decide) ?_
    refine lv_istore_n (lv' := [(3, .int 0), (2, va_rf r_2), (0, .ref x0), (1, .int x1)]) C.1 C.2.1 dX10_named_28 rfl hl (by decide) (by generalize r_2 = z; cases z <;> rfl) (fun ls hl => ?_)
    refine lv_aload_n C.1 C.2.1 dX10_named_29 rfl (lv_at hl 2 rfl) ?_
    refine gt_10_6 C h tx0 fl_X10_50 dX10_named_30 ?_
    obtain ⟨b_11, hb_11, hM⟩ := nb_some hM
    have tb_11 : Ty E G b_11 7 := (fun b hb => tyf h tx0 hb) _ hb_11
    refine st_ref hb_11 ?_
    refine lv_iload_n C.1 C.2.1 dX10_named_33 rfl (lv_at hl 3 rfl) ?_
    refine lv_iconst (v := 0) C.1 C.2.1 dX10_named_34 (by decide) ?_
    obtain ⟨r_12, m_13, hc_12, hM⟩ := bd_some hM
    refine h_callVi C h (As := [.int x1, .int 0]) (rest := []) (bz r_12) m_13 (c_X7_wantR 10 hc_12 tb_11) 7 rfl (by decide) tb_11 im_yX7_want se_yX7_want cy_X7_want rfl ml_X10_141 ⟨by decide, by decide⟩ ⟨Nat.zero_le _, Nat.zero_le _⟩ hl.1 rfl (Nat.le_of_ble_eq_true rfl) dX10_named_35 (fun H locs h => ?_)
    refine h_ifz (tgt := 47) C.1 C.2.1 dX10_named_38 (by decide) (fun q => ?_) (fun q => ?_)
    · have hM := ite_f q hM
      refine lv_aload_n C.1 C.2.1 dX10_named_47 rfl (lv_at hl 2 rfl) ?_
      refine gt_10_2 C h tx0 fl_X10_22 dX10_named_48 ?_
      obtain ⟨b_14, hb_14, hM⟩ := nb_some hM
      have tb_14 : Ty E G b_14 8 := (fun b hb => tyf h tx0 hb) _ hb_14
      refine st_ref hb_14 ?_
      refine lv_iconst (v := 0) C.1 C.2.1 dX10_named_51 (by decide) ?_
      refine pt_8_1 C h tb_14 fl_X10_62 dX10_named_52 (fun H locs h => ?_)
      refine lv_aload_n C.1 C.2.1 dX10_named_55 rfl (lv_at hl 2 rfl) ?_
      refine lv_iload_n C.1 C.2.1 dX10_named_56 rfl (lv_at hl 0 rfl) ?_
      obtain ⟨r_15, m_16, hc_15, hM⟩ := bd_some hM
      refine h_callVi C h (As := [.int 0]) (rest := []) r_15 m_16 (c_X10_finish hc_15 tx0) 10 rfl (by decide) tx0 im_yX10_finish se_yX10_finish cy_X10_finish rfl ml_X10_148 ⟨by decide, by decide⟩ ⟨Nat.zero_le _, Nat.zero_le _⟩ hl.1 rfl (Nat.le_of_ble_eq_true rfl) dX10_named_57 (fun H locs h => ?_)
      obtain ⟨rfl, rfl⟩ := so_inj hM
      exact h_iret C h dX10_named_60
    · have hM := ite_t q hM
      refine lv_aload_n C.1 C.2.1 dX10_named_41 rfl (lv_at hl 2 rfl) ?_
      refine h_aload_n C.1 C.2.1 dX10_named_42 rfl (lv_at hl 1 rfl) ?_
      refine st_ref hb_6 ?_
      obtain ⟨r_17, m_18, hc_17, hM⟩ := bd_some hM
      refine h_callVi C h (As := [.ref b_6]) (rest := []) r_17 m_18 (c_X10_lookFor hc_17 tx0 tb_6) 10 rfl (by decide) tx0 im_yX10_lookFor se_yX10_lookFor cy_X10_lookFor rfl ml_X10_190 ⟨by decide, by decide⟩ ⟨Nat.zero_le _, Nat.zero_le _⟩ hl.1 rfl (Nat.le_of_ble_eq_true rfl) dX10_named_43 (fun H locs h => ?_)
      refine lv_istore_n (lv' := [(3, .int r_17), (2, va_rf r_2), (0, .ref x0), (1, .int x1)]) C.1 C.2.1 dX10_named_46 rfl hl (by decide) (by generalize r_2 = z; cases z <;> rfl) (fun ls hl => ?_)
      refine lv_aload_n C.1 C.2.1 dX10_named_47 rfl (lv_at hl 2 rfl) ?_
      refine gt_10_2 C h tx0 fl_X10_22 dX10_named_48 ?_
      obtain ⟨b_19, hb_19, hM⟩ := nb_some hM
      have tb_19 : Ty E G b_19 8 := (fun b hb => tyf h tx0 hb) _ hb_19
      refine st_ref hb_19 ?_
      refine lv_iconst (v := 0) C.1 C.2.1 dX10_named_51 (by decide) ?_
      refine pt_8_1 C h tb_19 fl_X10_62 dX10_named_52 (fun H locs h => ?_)
      refine lv_aload_n C.1 C.2.1 dX10_named_55 rfl (lv_at hl 2 rfl) ?_
      refine lv_iload_n C.1 C.2.1 dX10_named_56 rfl (lv_at hl 0 rfl) ?_
      obtain ⟨r_20, m_21, hc_20, hM⟩ := bd_some hM
      refine h_callVi C h (As := [.int r_17]) (rest := []) r_20 m_21 (c_X10_finish hc_20 tx0) 10 rfl (by decide) tx0 im_yX10_finish se_yX10_finish cy_X10_finish rfl ml_X10_148 ⟨by decide, by decide⟩ ⟨Nat.zero_le _, Nat.zero_le _⟩ hl.1 rfl (Nat.le_of_ble_eq_true rfl) dX10_named_57 (fun H locs h => ?_)
      obtain ⟨rfl, rfl⟩ := so_inj hM
      exact h_iret C h dX10_named_60
theorem cy_X10_named : Cy yX10_named cX10_named 4 (some .int) 1 := ⟨cd_yX10_named, ii_X10, by decide, by decide, by decide +kernel⟩
set_option maxRecDepth 100000 in
theorem c_X10_named {l : Launch} {E : EE} {G : GG} {x0 : Nat} {x1 : Int32} {m m9 : MM} {r9 : Int32} (hM : M_X10_named G x0 x1 m = some (r9, m9)) (tx0 : Ty E G x0 10) : Mc l E yX10_named cX10_named 4 (some .int) rmX10_named [.ref x0, .int x1] G m (cQi E r9 G m9) := M_of (by decide) (Nat.le_of_ble_eq_true rfl) (fun p e s mth below meth c C h ls hl => cM_X10_named C hM tx0 _ _ h ls hl)
abbrev rmX10_trace : Room := { frames := 0, cells := 0, slots := 0, locals := 0 }
def M_X10_trace (G : GG) (x0 : Nat) (x1 : Int32) (m : MM) : Option (Int32 × MM) :=
  if x1 < 0 then
    some ((-1000009), m)
  else
    nb (gR m x0 6) fun b_1 =>
      if (gI m b_1 2) ≤ x1 then
        some ((-1000009), m)
      else
        if x1 < 200 then
          nb (gR m b_1 0) fun b_2 =>
            ib x1 (G.2.2 b_2) <|
              some (gI m b_2 x1.toNatClampNeg, m)
        else
          some ((-1000009), m)
set_option maxRecDepth 100000 in
set_option maxHeartbeats 4000000 in
theorem cM_X10_trace {p : Program} {l : Launch} {e : Env} {s : State} {mth : MethodId} {args : Array Value} {below : List Frame} {meth : Method} {c : Code} {E : EE} {G : GG} {r9 : Int32} {m9 : MM} (C : Cx E G p s mth args meth c cX10_trace RX10 "trace" 2 (some .int)) {x0 : Nat} {x1 : Int32} {m : MM} (hM : M_X10_trace G x0 x1 m = some (r9, m9)) (tx0 : Ty E G x0 10) : ∀ (H : Heap) (locs : List Loc), Hp E G m s H locs → ∀ ls : Array Slot, lv_has ls 2 [(0, .ref x0), (1, .int x1)] → W p l e rmX10_trace s mth args below meth c H locs 0 0 (MQ below (cQi E r9 G m9) args s 0 0 (fun q => E.2.2.1 ≤ q)) (F0 mth 0 ls []) := by
  intro H locs h ls hl
  unfold M_X10_trace at hM
  refine lv_iload_n C.1 C.2.1 dX10_trace_0 rfl (lv_at hl 1 rfl) ?_
  refine lv_if_lt (tgt := 22) C.1 C.2.1 dX10_trace_1 (by decide) (fun q => ?_) (fun q => ?_)
  · have hM := ite_t q hM
    refine lv_ldc C.1 C.2.1 C.2.2.2.1 (C.2.2.2.2.1 _ co_X10_101) dX10_trace_22 ?_
    refine lv_goto (tgt := 36) C.1 C.2.1 dX10_trace_24 (by decide) ?_
    obtain ⟨rfl, rfl⟩ := so_inj hM
    exact h_iret C h dX10_trace_36
  · have hM := ite_f q hM
    refine lv_iload_n C.1 C.2.1 dX10_trace_4 rfl (lv_at hl 1 rfl) ?_
    refine lv_aload_n C.1 C.2.1 dX10_trace_5 rfl (lv_at hl 0 rfl) ?_
    refine gt_10_6 C h tx0 fl_X10_50 dX10_trace_6 ?_
    obtain ⟨b_1, hb_1, hM⟩ := nb_some hM
    have tb_1 : Ty E G b_1 7 := (fun b hb => tyf h tx0 hb) _ hb_1
    refine st_ref hb_1 ?_
    refine gt_7_2 C h tb_1 fl_X10_95 dX10_trace_9 ?_
    refine lv_icmp_ge (tgt := 22) C.1 C.2.1 dX10_trace_12 (by decide) (fun q => ?_) (fun q => ?_)
    · have hM := ite_t q hM
      refine lv_ldc C.1 C.2.1 C.2.2.2.1 (C.2.2.2.2.1 _ co_X10_101) dX10_trace_22 ?_
      refine lv_goto (tgt := 36) C.1 C.2.1 dX10_trace_24 (by decide) ?_
      obtain ⟨rfl, rfl⟩ := so_inj hM
      exact h_iret C h dX10_trace_36
    · have hM := ite_f q hM
      refine lv_iload_n C.1 C.2.1 dX10_trace_15 rfl (lv_at hl 1 rfl) ?_
      refine lv_sipush (v := 200) C.1 C.2.1 dX10_trace_16 (by decide) ?_
      refine lv_icmp_lt (tgt := 27) C.1 C.2.1 dX10_trace_19 (by decide) (fun q => ?_) (fun q => ?_)
      · have hM := ite_t q hM
        refine lv_aload_n C.1 C.2.1 dX10_trace_27 rfl (lv_at hl 0 rfl) ?_
        refine gt_10_6 C h tx0 fl_X10_50 dX10_trace_28 ?_
        refine st_ref hb_1 ?_
        refine gt_7_0 C h tb_1 fl_X10_204 dX10_trace_31 ?_
        obtain ⟨b_2, hb_2, hM⟩ := nb_some hM
        have tb_2 : Ty E G b_2 12 := (fun b hb => tyf h tb_1 hb) _ hb_2
        refine st_ref hb_2 ?_
        refine lv_iload_n C.1 C.2.1 dX10_trace_34 rfl (lv_at hl 1 rfl) ?_
        obtain ⟨hi, hM⟩ := ib_some hM
        refine h_iald C h tb_2 hi dX10_trace_35 ?_
        obtain ⟨rfl, rfl⟩ := so_inj hM
        exact h_iret C h dX10_trace_36
      · have hM := ite_f q hM
        refine lv_ldc C.1 C.2.1 C.2.2.2.1 (C.2.2.2.2.1 _ co_X10_101) dX10_trace_22 ?_
        refine lv_goto (tgt := 36) C.1 C.2.1 dX10_trace_24 (by decide) ?_
        obtain ⟨rfl, rfl⟩ := so_inj hM
        exact h_iret C h dX10_trace_36
theorem cy_X10_trace : Cy yX10_trace cX10_trace 2 (some .int) 1 := ⟨cd_yX10_trace, ii_X10, by decide, by decide, by decide +kernel⟩
set_option maxRecDepth 100000 in
theorem c_X10_trace {l : Launch} {E : EE} {G : GG} {x0 : Nat} {x1 : Int32} {m m9 : MM} {r9 : Int32} (hM : M_X10_trace G x0 x1 m = some (r9, m9)) (tx0 : Ty E G x0 10) : Mc l E yX10_trace cX10_trace 2 (some .int) rmX10_trace [.ref x0, .int x1] G m (cQi E r9 G m9) := M_of (by decide) (Nat.le_of_ble_eq_true rfl) (fun p e s mth below meth c C h ls hl => cM_X10_trace C hM tx0 _ _ h ls hl)
abbrev rmX10_count : Room := { frames := 0, cells := 0, slots := 0, locals := 0 }
def M_X10_count (G : GG) (x0 : Nat) (x1 : Int32) (m : MM) : Option (Int32 × MM) :=
  if x1 = 0 then
    nb (gR m x0 0) fun b_1 =>
      some (gI m b_1 3, m)
  else
    if x1 = 1 then
      nb (gR m x0 6) fun b_2 =>
        some (gI m b_2 2, m)
    else
      if x1 = 2 then
        some (gI m x0 9, m)
      else
        if x1 = 3 then
          nb (gR m x0 2) fun b_3 =>
            some (gI m b_3 1, m)
        else
          if x1 = 4 then
            some (gI m x0 11, m)
          else
            some ((-1000002), m)
set_option maxRecDepth 100000 in
set_option maxHeartbeats 4000000 in
theorem cM_X10_count {p : Program} {l : Launch} {e : Env} {s : State} {mth : MethodId} {args : Array Value} {below : List Frame} {meth : Method} {c : Code} {E : EE} {G : GG} {r9 : Int32} {m9 : MM} (C : Cx E G p s mth args meth c cX10_count RX10 "count" 2 (some .int)) {x0 : Nat} {x1 : Int32} {m : MM} (hM : M_X10_count G x0 x1 m = some (r9, m9)) (tx0 : Ty E G x0 10) : ∀ (H : Heap) (locs : List Loc), Hp E G m s H locs → ∀ ls : Array Slot, lv_has ls 2 [(0, .ref x0), (1, .int x1)] → W p l e rmX10_count s mth args below meth c H locs 0 0 (MQ below (cQi E r9 G m9) args s 0 0 (fun q => E.2.2.1 ≤ q)) (F0 mth 0 ls []) := by
  intro H locs h ls hl
  unfold M_X10_count at hM
  refine lv_iload_n C.1 C.2.1 dX10_count_0 rfl (lv_at hl 1 rfl) ?_
  by_cases q0 : x1 = 0
  · have hM := ite_t q0 hM
    refine h_tabIn q0 (tgt := 36) C.1 C.2.1 dX10_count_1 (by decide) (by decide) rfl (by decide) ?_
    refine lv_aload_n C.1 C.2.1 dX10_count_36 rfl (lv_at hl 0 rfl) ?_
    refine gt_10_0 C h tx0 fl_X10_10 dX10_count_37 ?_
    obtain ⟨b_1, hb_1, hM⟩ := nb_some hM
    have tb_1 : Ty E G b_1 6 := (fun b hb => tyf h tx0 hb) _ hb_1
    refine st_ref hb_1 ?_
    refine gt_6_3 C h tb_1 fl_X10_89 dX10_count_40 ?_
    obtain ⟨rfl, rfl⟩ := so_inj hM
    exact h_iret C h dX10_count_43
  · have hM := ite_f q0 hM
    by_cases q1 : x1 = 1
    · have hM := ite_t q1 hM
      refine h_tabIn q1 (tgt := 44) C.1 C.2.1 dX10_count_1 (by decide) (by decide) rfl (by decide) ?_
      refine lv_aload_n C.1 C.2.1 dX10_count_44 rfl (lv_at hl 0 rfl) ?_
      refine gt_10_6 C h tx0 fl_X10_50 dX10_count_45 ?_
      obtain ⟨b_2, hb_2, hM⟩ := nb_some hM
      have tb_2 : Ty E G b_2 7 := (fun b hb => tyf h tx0 hb) _ hb_2
      refine st_ref hb_2 ?_
      refine gt_7_2 C h tb_2 fl_X10_95 dX10_count_48 ?_
      obtain ⟨rfl, rfl⟩ := so_inj hM
      exact h_iret C h dX10_count_51
    · have hM := ite_f q1 hM
      by_cases q2 : x1 = 2
      · have hM := ite_t q2 hM
        refine h_tabIn q2 (tgt := 52) C.1 C.2.1 dX10_count_1 (by decide) (by decide) rfl (by decide) ?_
        refine lv_aload_n C.1 C.2.1 dX10_count_52 rfl (lv_at hl 0 rfl) ?_
        refine gt_10_9 C h tx0 fl_X10_98 dX10_count_53 ?_
        obtain ⟨rfl, rfl⟩ := so_inj hM
        exact h_iret C h dX10_count_56
      · have hM := ite_f q2 hM
        by_cases q3 : x1 = 3
        · have hM := ite_t q3 hM
          refine h_tabIn q3 (tgt := 57) C.1 C.2.1 dX10_count_1 (by decide) (by decide) rfl (by decide) ?_
          refine lv_aload_n C.1 C.2.1 dX10_count_57 rfl (lv_at hl 0 rfl) ?_
          refine gt_10_2 C h tx0 fl_X10_22 dX10_count_58 ?_
          obtain ⟨b_3, hb_3, hM⟩ := nb_some hM
          have tb_3 : Ty E G b_3 8 := (fun b hb => tyf h tx0 hb) _ hb_3
          refine st_ref hb_3 ?_
          refine gt_8_1 C h tb_3 fl_X10_62 dX10_count_61 ?_
          obtain ⟨rfl, rfl⟩ := so_inj hM
          exact h_iret C h dX10_count_64
        · have hM := ite_f q3 hM
          by_cases q4 : x1 = 4
          · have hM := ite_t q4 hM
            refine h_tabIn q4 (tgt := 65) C.1 C.2.1 dX10_count_1 (by decide) (by decide) rfl (by decide) ?_
            refine lv_aload_n C.1 C.2.1 dX10_count_65 rfl (lv_at hl 0 rfl) ?_
            refine gt_10_11 C h tx0 fl_X10_207 dX10_count_66 ?_
            obtain ⟨rfl, rfl⟩ := so_inj hM
            exact h_iret C h dX10_count_69
          · have hM := ite_f q4 hM
            refine h_tabOut (tgt := 70) (lo := 0) (n := 5) C.1 C.2.1 dX10_count_1 (by decide) (by decide) (by decide) (fun k hk => ?_) ?_
            · match k, hk with
              | 0, _ => exact q0
              | 1, _ => exact q1
              | 2, _ => exact q2
              | 3, _ => exact q3
              | 4, _ => exact q4
              | k + 5, hk => exact absurd hk (by omega)
            · refine lv_ldc C.1 C.2.1 C.2.2.2.1 (C.2.2.2.2.1 _ co_X10_71) dX10_count_70 ?_
              obtain ⟨rfl, rfl⟩ := so_inj hM
              exact h_iret C h dX10_count_72
theorem cy_X10_count : Cy yX10_count cX10_count 2 (some .int) 1 := ⟨cd_yX10_count, ii_X10, by decide, by decide, by decide +kernel⟩
set_option maxRecDepth 100000 in
theorem c_X10_count {l : Launch} {E : EE} {G : GG} {x0 : Nat} {x1 : Int32} {m m9 : MM} {r9 : Int32} (hM : M_X10_count G x0 x1 m = some (r9, m9)) (tx0 : Ty E G x0 10) : Mc l E yX10_count cX10_count 2 (some .int) rmX10_count [.ref x0, .int x1] G m (cQi E r9 G m9) := M_of (by decide) (Nat.le_of_ble_eq_true rfl) (fun p e s mth below meth c C h ls hl => cM_X10_count C hM tx0 _ _ h ls hl)
abbrev rmX10_clear : Room := { frames := 1, cells := 0, slots := 0, locals := 21 }
def M_X10_clear (G : GG) (x0 : Nat) (m : MM) : Option (Int32 × MM) :=
  nb (gR m x0 0) fun b_1 =>
    nb (gR m b_1 5) fun b_2 =>
      bd (M_X6_begin G b_1 b_2 m) fun _ m_4 =>
        nb (gR m_4 x0 2) fun b_5 =>
          nb (gR (sI m_4 b_5 1 0) x0 3) fun b_6 =>
            bd (M_X3_forget G b_6 (sI m_4 b_5 1 0)) fun _ m_8 =>
              nb (gR m_8 x0 6) fun b_9 =>
                some (gI m b_1 3, sI (sI (sI (sI m_8 b_9 2 0) x0 9 0) x0 10 0) x0 11 0)
set_option maxRecDepth 100000 in
set_option maxHeartbeats 4000000 in
theorem cM_X10_clear {p : Program} {l : Launch} {e : Env} {s : State} {mth : MethodId} {args : Array Value} {below : List Frame} {meth : Method} {c : Code} {E : EE} {G : GG} {r9 : Int32} {m9 : MM} (C : Cx E G p s mth args meth c cX10_clear RX10 "clear" 2 (some .int)) {x0 : Nat} {m : MM} (hM : M_X10_clear G x0 m = some (r9, m9)) (tx0 : Ty E G x0 10) : ∀ (H : Heap) (locs : List Loc), Hp E G m s H locs → ∀ ls : Array Slot, lv_has ls 2 [(0, .ref x0)] → W p l e rmX10_clear s mth args below meth c H locs 0 0 (MQ below (cQi E r9 G m9) args s 0 0 (fun q => E.2.2.1 ≤ q)) (F0 mth 0 ls []) := by
  intro H locs h ls hl
  unfold M_X10_clear at hM
  refine lv_aload_n C.1 C.2.1 dX10_clear_0 rfl (lv_at hl 0 rfl) ?_
  refine gt_10_0 C h tx0 fl_X10_10 dX10_clear_1 ?_
  obtain ⟨b_1, hb_1, hM⟩ := nb_some hM
  have tb_1 : Ty E G b_1 6 := (fun b hb => tyf h tx0 hb) _ hb_1
  refine st_ref hb_1 ?_
  refine gt_6_3 C h tb_1 fl_X10_89 dX10_clear_4 ?_
  refine lv_istore_n (lv' := [(1, .int (gI m b_1 3)), (0, .ref x0)]) C.1 C.2.1 dX10_clear_7 rfl hl (by decide) rfl (fun ls hl => ?_)
  refine lv_aload_n C.1 C.2.1 dX10_clear_8 rfl (lv_at hl 1 rfl) ?_
  refine gt_10_0 C h tx0 fl_X10_10 dX10_clear_9 ?_
  refine st_ref hb_1 ?_
  refine lv_aload_n C.1 C.2.1 dX10_clear_12 rfl (lv_at hl 1 rfl) ?_
  refine gt_10_0 C h tx0 fl_X10_10 dX10_clear_13 ?_
  refine st_ref hb_1 ?_
  refine gt_6_5 C h tb_1 fl_X10_92 dX10_clear_16 ?_
  obtain ⟨b_2, hb_2, hM⟩ := nb_some hM
  have tb_2 : Ty E G b_2 8 := (fun b hb => tyf h tb_1 hb) _ hb_2
  refine st_ref hb_2 ?_
  obtain ⟨r_3, m_4, hc_3, hM⟩ := bd_some hM
  refine h_callVv C h (As := [.ref b_2]) (rest := []) m_4 (c_X6_begin hc_3 tb_1 tb_2) 6 rfl (by decide) tb_1 im_yX6_begin se_yX6_begin cy_X6_begin rfl ml_X10_58 ⟨by decide, by decide⟩ ⟨Nat.zero_le _, Nat.zero_le _⟩ hl.1 rfl (Nat.le_of_ble_eq_true rfl) dX10_clear_19 (fun H locs h => ?_)
  refine lv_aload_n C.1 C.2.1 dX10_clear_22 rfl (lv_at hl 1 rfl) ?_
  refine gt_10_2 C h tx0 fl_X10_22 dX10_clear_23 ?_
  obtain ⟨b_5, hb_5, hM⟩ := nb_some hM
  have tb_5 : Ty E G b_5 8 := (fun b hb => tyf h tx0 hb) _ hb_5
  refine st_ref hb_5 ?_
  refine lv_iconst (v := 0) C.1 C.2.1 dX10_clear_26 (by decide) ?_
  refine pt_8_1 C h tb_5 fl_X10_62 dX10_clear_27 (fun H locs h => ?_)
  refine lv_aload_n C.1 C.2.1 dX10_clear_30 rfl (lv_at hl 1 rfl) ?_
  refine gt_10_3 C h tx0 fl_X10_29 dX10_clear_31 ?_
  obtain ⟨b_6, hb_6, hM⟩ := nb_some hM
  have tb_6 : Ty E G b_6 3 := (fun b hb => tyf h tx0 hb) _ hb_6
  refine st_ref hb_6 ?_
  obtain ⟨r_7, m_8, hc_7, hM⟩ := bd_some hM
  refine h_callVv C h (As := []) (rest := []) m_8 (c_X3_forget hc_7 tb_6) 3 rfl (by decide) tb_6 im_yX3_forget se_yX3_forget cy_X3_forget rfl ml_X10_72 ⟨by decide, by decide⟩ ⟨Nat.zero_le _, Nat.zero_le _⟩ hl.1 rfl (Nat.le_of_ble_eq_true rfl) dX10_clear_34 (fun H locs h => ?_)
  refine lv_aload_n C.1 C.2.1 dX10_clear_37 rfl (lv_at hl 1 rfl) ?_
  refine gt_10_6 C h tx0 fl_X10_50 dX10_clear_38 ?_
  obtain ⟨b_9, hb_9, hM⟩ := nb_some hM
  have tb_9 : Ty E G b_9 7 := (fun b hb => tyf h tx0 hb) _ hb_9
  refine st_ref hb_9 ?_
  refine lv_iconst (v := 0) C.1 C.2.1 dX10_clear_41 (by decide) ?_
  refine pt_7_2 C h tb_9 fl_X10_95 dX10_clear_42 (fun H locs h => ?_)
  refine lv_aload_n C.1 C.2.1 dX10_clear_45 rfl (lv_at hl 1 rfl) ?_
  refine lv_iconst (v := 0) C.1 C.2.1 dX10_clear_46 (by decide) ?_
  refine pt_10_9 C h tx0 fl_X10_98 dX10_clear_47 (fun H locs h => ?_)
  refine lv_aload_n C.1 C.2.1 dX10_clear_50 rfl (lv_at hl 1 rfl) ?_
  refine lv_iconst (v := 0) C.1 C.2.1 dX10_clear_51 (by decide) ?_
  refine pt_10_10 C h tx0 fl_X10_105 dX10_clear_52 (fun H locs h => ?_)
  refine lv_aload_n C.1 C.2.1 dX10_clear_55 rfl (lv_at hl 1 rfl) ?_
  refine lv_iconst (v := 0) C.1 C.2.1 dX10_clear_56 (by decide) ?_
  refine pt_10_11 C h tx0 fl_X10_207 dX10_clear_57 (fun H locs h => ?_)
  refine lv_iload_n C.1 C.2.1 dX10_clear_60 rfl (lv_at hl 0 rfl) ?_
  obtain ⟨rfl, rfl⟩ := so_inj hM
  exact h_iret C h dX10_clear_61
theorem cy_X10_clear : Cy yX10_clear cX10_clear 2 (some .int) 0 := ⟨cd_yX10_clear, ii_X10, by decide, by decide, by decide +kernel⟩
set_option maxRecDepth 100000 in
theorem c_X10_clear {l : Launch} {E : EE} {G : GG} {x0 : Nat} {m m9 : MM} {r9 : Int32} (hM : M_X10_clear G x0 m = some (r9, m9)) (tx0 : Ty E G x0 10) : Mc l E yX10_clear cX10_clear 2 (some .int) rmX10_clear [.ref x0] G m (cQi E r9 G m9) := M_of (by decide) (Nat.le_of_ble_eq_true rfl) (fun p e s mth below meth c C h ls hl => cM_X10_clear C hM tx0 _ _ h ls hl)
