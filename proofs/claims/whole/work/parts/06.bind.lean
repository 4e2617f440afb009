abbrev rmX0_bindGive : Room := { frames := 4, cells := 0, slots := 0, locals := 90 }
def M_X0_bindGive (G : GG) (x0 : Nat) (x1 : Int32) (x2 : Int32) (m : MM) : Option (Unit × MM) :=
  el (gR m x0 2) (
    some ((), m)
  ) fun b_2 =>
    nb (gR m x0 0) fun b_3 =>
      nb (gR m b_3 5) fun b_4 =>
        nb (gR m b_2 4) fun b_5 =>
          bd (M_X8_firstNamed G b_4 x2 b_5 (gI m b_2 13) m) fun r_6 m_7 =>
            if r_6 = (-1) then
              nb (gR m_7 x0 1) fun b_19 =>
                bd (M_X3_note G b_19 3 x2 m_7) fun _ m_21 =>
                  some ((), m_21)
            else
              nb (gR m_7 x0 2) fun b_8 =>
                bd (M_X1_giveCode G b_8 (gI m_7 x0 3) r_6 m_7) fun r_9 m_10 =>
                  if r_9 = (-1) then
                    nb (gR m_10 x0 2) fun b_11 =>
                      bd (M_X1_hasConstant G b_11 (gI m_10 x0 3) m_10) fun r_12 m_13 =>
                        if r_12 = true then
                          nb (gR m_13 x0 2) fun b_14 =>
                            nb (gR m_13 b_14 3) fun b_15 =>
                              ib (((gI m_13 x0 3) * 8) + r_6) (G.2.2 b_15) <|
                                some ((), sI m_13 b_15 ((((gI m_13 x0 3) * 8) + r_6).toNatClampNeg) (x1 + 1))
                        else
                          some ((), m_13)
                  else
                    nb (gR m_10 x0 1) fun b_16 =>
                      bd (M_X3_note G b_16 2 x2 m_10) fun _ m_18 =>
                        some ((), m_18)
set_option maxRecDepth 100000 in
set_option maxHeartbeats 4000000 in
theorem cM_X0_bindGive {p : Program} {l : Launch} {e : Env} {s : State} {mth : MethodId} {args : Array Value} {below : List Frame} {meth : Method} {c : Code} {E : EE} {G : GG} {r9 : Unit} {m9 : MM} (C : Cx E G p s mth args meth c cX0_bindGive RX0 "bindGive" 4 none) {x0 : Nat} {x1 : Int32} {x2 : Int32} {m : MM} (hM : M_X0_bindGive G x0 x1 x2 m = some (r9, m9)) (tx0 : Ty E G x0 0) : ∀ (H : Heap) (locs : List Loc), Hp E G m s H locs → ∀ ls : Array Slot, lv_has ls 4 [(0, .ref x0), (1, .int x1), (2, .int x2)] → W p l e rmX0_bindGive s mth args below meth c H locs 0 0 (MQ below (cQv E G m9) args s 0 0 (fun q => E.2.2.1 ≤ q)) (F0 mth 0 ls []) := by
  intro H locs h ls hl
  unfold M_X0_bindGive at hM
  refine lv_aload_n C.1 C.2.1 dX0_bindGive_0 rfl (lv_at hl 0 rfl) ?_
  refine gt_0_2 C h tx0 fl_X0_19 dX0_bindGive_1 ?_
  have tq_1 : ∀ b, gR m x0 2 = some b → Ty E G b 1 := (fun b hb => tyf h tx0 hb)
  refine h_ifnonnull (tgt := 8) (x := gR m x0 2) C.1 C.2.1 dX0_bindGive_4 (by decide) (fun q => ?_) (fun b_2 hb_2 => ?_)
  · have hM := el_none q hM
    obtain ⟨rfl, rfl⟩ := so_inj hM
    exact h_vret C h dX0_bindGive_7
  · have hM := el_some hb_2 hM
    have tb_2 := tq_1 _ hb_2
    refine lv_aload_n C.1 C.2.1 dX0_bindGive_8 rfl (lv_at hl 0 rfl) ?_
    refine gt_0_0 C h tx0 fl_X0_9 dX0_bindGive_9 ?_
    obtain ⟨b_3, hb_3, hM⟩ := nb_some hM
    have tb_3 : Ty E G b_3 6 := (fun b hb => tyf h tx0 hb) _ hb_3
    refine st_ref hb_3 ?_
    refine gt_6_5 C h tb_3 fl_X0_67 dX0_bindGive_12 ?_
    obtain ⟨b_4, hb_4, hM⟩ := nb_some hM
    have tb_4 : Ty E G b_4 8 := (fun b hb => tyf h tb_3 hb) _ hb_4
    refine st_ref hb_4 ?_
    refine lv_iload_n C.1 C.2.1 dX0_bindGive_15 rfl (lv_at hl 2 rfl) ?_
    refine lv_aload_n C.1 C.2.1 dX0_bindGive_16 rfl (lv_at hl 0 rfl) ?_
    refine gt_0_2 C h tx0 fl_X0_19 dX0_bindGive_17 ?_
    refine st_ref hb_2 ?_
    refine gt_1_4 C h tb_2 fl_X0_102 dX0_bindGive_20 ?_
    obtain ⟨b_5, hb_5, hM⟩ := nb_some hM
    have tb_5 : Ty E G b_5 12 := (fun b hb => tyf h tb_2 hb) _ hb_5
    refine st_ref hb_5 ?_
    refine lv_aload_n C.1 C.2.1 dX0_bindGive_23 rfl (lv_at hl 0 rfl) ?_
    refine gt_0_2 C h tx0 fl_X0_19 dX0_bindGive_24 ?_
    refine st_ref hb_2 ?_
    refine gt_1_13 C h tb_2 fl_X0_105 dX0_bindGive_27 ?_
    obtain ⟨r_6, m_7, hc_6, hM⟩ := bd_some hM
    refine h_callVi C h (As := [.int x2, .ref b_5, .int (gI m b_2 13)]) (rest := []) r_6 m_7 (c_X8_firstNamed hc_6 tb_4 tb_5) 8 rfl (by decide) tb_4 im_yX8_firstNamed se_yX8_firstNamed cy_X8_firstNamed rfl ml_X0_71 ⟨by decide, by decide⟩ ⟨Nat.zero_le _, Nat.zero_le _⟩ hl.1 rfl (Nat.le_of_ble_eq_true rfl) dX0_bindGive_30 (fun H locs h => ?_)
    refine lv_istore_n (lv' := [(3, .int r_6), (0, .ref x0), (1, .int x1), (2, .int x2)]) C.1 C.2.1 dX0_bindGive_33 rfl hl (by decide) rfl (fun ls hl => ?_)
    refine lv_iload_n C.1 C.2.1 dX0_bindGive_34 rfl (lv_at hl 0 rfl) ?_
    refine lv_iconst (v := (-1)) C.1 C.2.1 dX0_bindGive_35 (by decide) ?_
    refine lv_icmp_ne (tgt := 51) C.1 C.2.1 dX0_bindGive_36 (by decide) (fun q => ?_) (fun q => ?_)
    · have hM := ite_f q hM
      refine lv_aload_n C.1 C.2.1 dX0_bindGive_51 rfl (lv_at hl 1 rfl) ?_
      refine gt_0_2 C h tx0 fl_X0_19 dX0_bindGive_52 ?_
      obtain ⟨b_8, hb_8, hM⟩ := nb_some hM
      have tb_8 : Ty E G b_8 1 := (fun b hb => tyf h tx0 hb) _ hb_8
      refine st_ref hb_8 ?_
      refine lv_aload_n C.1 C.2.1 dX0_bindGive_55 rfl (lv_at hl 1 rfl) ?_
      refine gt_0_3 C h tx0 fl_X0_23 dX0_bindGive_56 ?_
      refine lv_iload_n C.1 C.2.1 dX0_bindGive_59 rfl (lv_at hl 0 rfl) ?_
      obtain ⟨r_9, m_10, hc_9, hM⟩ := bd_some hM
      refine h_callVi C h (As := [.int (gI m_7 x0 3), .int r_6]) (rest := []) r_9 m_10 (c_X1_giveCode hc_9 tb_8) 1 rfl (by decide) tb_8 im_yX1_giveCode se_yX1_giveCode cy_X1_giveCode rfl ml_X0_108 ⟨by decide, by decide⟩ ⟨Nat.zero_le _, Nat.zero_le _⟩ hl.1 rfl (Nat.le_of_ble_eq_true rfl) dX0_bindGive_60 (fun H locs h => ?_)
      refine lv_iconst (v := (-1)) C.1 C.2.1 dX0_bindGive_63 (by decide) ?_
      refine lv_icmp_eq (tgt := 79) C.1 C.2.1 dX0_bindGive_64 (by decide) (fun q => ?_) (fun q => ?_)
      · have hM := ite_t q hM
        refine lv_aload_n C.1 C.2.1 dX0_bindGive_79 rfl (lv_at hl 1 rfl) ?_
        refine gt_0_2 C h tx0 fl_X0_19 dX0_bindGive_80 ?_
        obtain ⟨b_11, hb_11, hM⟩ := nb_some hM
        have tb_11 : Ty E G b_11 1 := (fun b hb => tyf h tx0 hb) _ hb_11
        refine st_ref hb_11 ?_
        refine lv_aload_n C.1 C.2.1 dX0_bindGive_83 rfl (lv_at hl 1 rfl) ?_
        refine gt_0_3 C h tx0 fl_X0_23 dX0_bindGive_84 ?_
        obtain ⟨r_12, m_13, hc_12, hM⟩ := bd_some hM
        refine h_callVi C h (As := [.int (gI m_10 x0 3)]) (rest := []) (bz r_12) m_13 (c_X1_hasConstant hc_12 tb_11) 1 rfl (by decide) tb_11 im_yX1_hasConstant se_yX1_hasConstant cy_X1_hasConstant rfl ml_X0_112 ⟨by decide, by decide⟩ ⟨Nat.zero_le _, Nat.zero_le _⟩ hl.1 rfl (Nat.le_of_ble_eq_true rfl) dX0_bindGive_87 (fun H locs h => ?_)
        refine h_ifz (tgt := 113) C.1 C.2.1 dX0_bindGive_90 (by decide) (fun q => ?_) (fun q => ?_)
        · have hM := ite_f q hM
          obtain ⟨rfl, rfl⟩ := so_inj hM
          exact h_vret C h dX0_bindGive_113
        · have hM := ite_t q hM
          refine lv_aload_n C.1 C.2.1 dX0_bindGive_93 rfl (lv_at hl 1 rfl) ?_
          refine gt_0_2 C h tx0 fl_X0_19 dX0_bindGive_94 ?_
          obtain ⟨b_14, hb_14, hM⟩ := nb_some hM
          have tb_14 : Ty E G b_14 1 := (fun b hb => tyf h tx0 hb) _ hb_14
          refine st_ref hb_14 ?_
          refine gt_1_3 C h tb_14 fl_X0_116 dX0_bindGive_97 ?_
          obtain ⟨b_15, hb_15, hM⟩ := nb_some hM
          have tb_15 : Ty E G b_15 12 := (fun b hb => tyf h tb_14 hb) _ hb_15
          refine st_ref hb_15 ?_
          refine lv_aload_n C.1 C.2.1 dX0_bindGive_100 rfl (lv_at hl 1 rfl) ?_
          refine gt_0_3 C h tx0 fl_X0_23 dX0_bindGive_101 ?_
          refine lv_bipush (v := 8) C.1 C.2.1 dX0_bindGive_104 (by decide) ?_
          refine lv_imul C.1 C.2.1 dX0_bindGive_106 ?_
          refine lv_iload_n C.1 C.2.1 dX0_bindGive_107 rfl (lv_at hl 0 rfl) ?_
          refine lv_iadd C.1 C.2.1 dX0_bindGive_108 ?_
          refine lv_iload_n C.1 C.2.1 dX0_bindGive_109 rfl (lv_at hl 2 rfl) ?_
          refine lv_iconst (v := 1) C.1 C.2.1 dX0_bindGive_110 (by decide) ?_
          refine lv_iadd C.1 C.2.1 dX0_bindGive_111 ?_
          obtain ⟨hi, hM⟩ := ib_some hM
          refine h_iast C h tb_15 hi dX0_bindGive_112 (fun H locs h => ?_)
          obtain ⟨rfl, rfl⟩ := so_inj hM
          exact h_vret C h dX0_bindGive_113
      · have hM := ite_f q hM
        refine lv_aload_n C.1 C.2.1 dX0_bindGive_67 rfl (lv_at hl 1 rfl) ?_
        refine gt_0_1 C h tx0 fl_X0_15 dX0_bindGive_68 ?_
        obtain ⟨b_16, hb_16, hM⟩ := nb_some hM
        have tb_16 : Ty E G b_16 3 := (fun b hb => tyf h tx0 hb) _ hb_16
        refine st_ref hb_16 ?_
        refine lv_iconst (v := 2) C.1 C.2.1 dX0_bindGive_71 (by decide) ?_
        refine lv_iload_n C.1 C.2.1 dX0_bindGive_72 rfl (lv_at hl 3 rfl) ?_
        obtain ⟨r_17, m_18, hc_17, hM⟩ := bd_some hM
        refine h_callVv C h (As := [.int 2, .int x2]) (rest := []) m_18 (c_X3_note hc_17 tb_16) 3 rfl (by decide) tb_16 im_yX3_note se_yX3_note cy_X3_note rfl ml_X0_77 ⟨by decide, by decide⟩ ⟨Nat.zero_le _, Nat.zero_le _⟩ hl.1 rfl (Nat.le_of_ble_eq_true rfl) dX0_bindGive_73 (fun H locs h => ?_)
        refine lv_goto (tgt := 113) C.1 C.2.1 dX0_bindGive_76 (by decide) ?_
        obtain ⟨rfl, rfl⟩ := so_inj hM
        exact h_vret C h dX0_bindGive_113
    · have hM := ite_t q hM
      refine lv_aload_n C.1 C.2.1 dX0_bindGive_39 rfl (lv_at hl 1 rfl) ?_
      refine gt_0_1 C h tx0 fl_X0_15 dX0_bindGive_40 ?_
      obtain ⟨b_19, hb_19, hM⟩ := nb_some hM
      have tb_19 : Ty E G b_19 3 := (fun b hb => tyf h tx0 hb) _ hb_19
      refine st_ref hb_19 ?_
      refine lv_iconst (v := 3) C.1 C.2.1 dX0_bindGive_43 (by decide) ?_
      refine lv_iload_n C.1 C.2.1 dX0_bindGive_44 rfl (lv_at hl 3 rfl) ?_
      obtain ⟨r_20, m_21, hc_20, hM⟩ := bd_some hM
      refine h_callVv C h (As := [.int 3, .int x2]) (rest := []) m_21 (c_X3_note hc_20 tb_19) 3 rfl (by decide) tb_19 im_yX3_note se_yX3_note cy_X3_note rfl ml_X0_77 ⟨by decide, by decide⟩ ⟨Nat.zero_le _, Nat.zero_le _⟩ hl.1 rfl (Nat.le_of_ble_eq_true rfl) dX0_bindGive_45 (fun H locs h => ?_)
      refine lv_goto (tgt := 113) C.1 C.2.1 dX0_bindGive_48 (by decide) ?_
      obtain ⟨rfl, rfl⟩ := so_inj hM
      exact h_vret C h dX0_bindGive_113
theorem cy_X0_bindGive : Cy yX0_bindGive cX0_bindGive 4 none 2 := ⟨cd_yX0_bindGive, ii_X0, by decide, by decide, by decide +kernel⟩
set_option maxRecDepth 100000 in
theorem c_X0_bindGive {l : Launch} {E : EE} {G : GG} {x0 : Nat} {x1 : Int32} {x2 : Int32} {m m9 : MM} {r9 : Unit} (hM : M_X0_bindGive G x0 x1 x2 m = some (r9, m9)) (tx0 : Ty E G x0 0) : Mc l E yX0_bindGive cX0_bindGive 4 none rmX0_bindGive [.ref x0, .int x1, .int x2] G m (cQv E G m9) := M_of (by decide) (Nat.le_of_ble_eq_true rfl) (fun p e s mth below meth c C h ls hl => cM_X0_bindGive C hM tx0 _ _ h ls hl)
abbrev rmX0_bindField : Room := { frames := 4, cells := 0, slots := 0, locals := 90 }
def M_X0_bindField (G : GG) (x0 : Nat) (x1 : Int32) (x2 : Int32) (m : MM) : Option (Unit × MM) :=
  el (gR m x0 2) (
    some ((), m)
  ) fun b_2 =>
    nb (gR m x0 0) fun b_3 =>
      nb (gR m b_3 5) fun b_4 =>
        nb (gR m b_2 6) fun b_5 =>
          bd (M_X8_firstNamed G b_4 x2 b_5 (gI m b_2 14) m) fun r_6 m_7 =>
            if r_6 = (-1) then
              nb (gR m_7 x0 1) fun b_20 =>
                bd (M_X3_note G b_20 6 x2 m_7) fun _ m_22 =>
                  some ((), m_22)
            else
              if (gI m_7 x0 4) = 0 then
                nb (gR m_7 x0 0) fun b_8 =>
                  bd (M_X6_bindTo G b_8 x1 r_6 m_7) fun _ m_10 =>
                    some ((), m_10)
              else
                nb (gR m_7 x0 2) fun b_11 =>
                  bd (M_X1_isWorked G b_11 r_6 m_7) fun r_12 m_13 =>
                    if r_12 = true then
                      nb (gR m_13 x0 1) fun b_17 =>
                        bd (M_X3_note G b_17 5 x2 m_13) fun _ m_19 =>
                          some ((), m_19)
                    else
                      nb (gR m_13 x0 0) fun b_14 =>
                        bd (M_X6_bindTo G b_14 x1 r_6 m_13) fun _ m_16 =>
                          some ((), m_16)
set_option maxRecDepth 100000 in
set_option maxHeartbeats 4000000 in
theorem cM_X0_bindField {p : Program} {l : Launch} {e : Env} {s : State} {mth : MethodId} {args : Array Value} {below : List Frame} {meth : Method} {c : Code} {E : EE} {G : GG} {r9 : Unit} {m9 : MM} (C : Cx E G p s mth args meth c cX0_bindField RX0 "bindField" 4 none) {x0 : Nat} {x1 : Int32} {x2 : Int32} {m : MM} (hM : M_X0_bindField G x0 x1 x2 m = some (r9, m9)) (tx0 : Ty E G x0 0) : ∀ (H : Heap) (locs : List Loc), Hp E G m s H locs → ∀ ls : Array Slot, lv_has ls 4 [(0, .ref x0), (1, .int x1), (2, .int x2)] → W p l e rmX0_bindField s mth args below meth c H locs 0 0 (MQ below (cQv E G m9) args s 0 0 (fun q => E.2.2.1 ≤ q)) (F0 mth 0 ls []) := by
  intro H locs h ls hl
  unfold M_X0_bindField at hM
  refine lv_aload_n C.1 C.2.1 dX0_bindField_0 rfl (lv_at hl 0 rfl) ?_
  refine gt_0_2 C h tx0 fl_X0_19 dX0_bindField_1 ?_
  have tq_1 : ∀ b, gR m x0 2 = some b → Ty E G b 1 := (fun b hb => tyf h tx0 hb)
  refine h_ifnonnull (tgt := 8) (x := gR m x0 2) C.1 C.2.1 dX0_bindField_4 (by decide) (fun q => ?_) (fun b_2 hb_2 => ?_)
  · have hM := el_none q hM
    obtain ⟨rfl, rfl⟩ := so_inj hM
    exact h_vret C h dX0_bindField_7
  · have hM := el_some hb_2 hM
    have tb_2 := tq_1 _ hb_2
    refine lv_aload_n C.1 C.2.1 dX0_bindField_8 rfl (lv_at hl 0 rfl) ?_
    refine gt_0_0 C h tx0 fl_X0_9 dX0_bindField_9 ?_
    obtain ⟨b_3, hb_3, hM⟩ := nb_some hM
    have tb_3 : Ty E G b_3 6 := (fun b hb => tyf h tx0 hb) _ hb_3
    refine st_ref hb_3 ?_
    refine gt_6_5 C h tb_3 fl_X0_67 dX0_bindField_12 ?_
    obtain ⟨b_4, hb_4, hM⟩ := nb_some hM
    have tb_4 : Ty E G b_4 8 := (fun b hb => tyf h tb_3 hb) _ hb_4
    refine st_ref hb_4 ?_
    refine lv_iload_n C.1 C.2.1 dX0_bindField_15 rfl (lv_at hl 2 rfl) ?_
    refine lv_aload_n C.1 C.2.1 dX0_bindField_16 rfl (lv_at hl 0 rfl) ?_
    refine gt_0_2 C h tx0 fl_X0_19 dX0_bindField_17 ?_
    refine st_ref hb_2 ?_
    refine gt_1_6 C h tb_2 fl_X0_119 dX0_bindField_20 ?_
    obtain ⟨b_5, hb_5, hM⟩ := nb_some hM
    have tb_5 : Ty E G b_5 12 := (fun b hb => tyf h tb_2 hb) _ hb_5
    refine st_ref hb_5 ?_
    refine lv_aload_n C.1 C.2.1 dX0_bindField_23 rfl (lv_at hl 0 rfl) ?_
    refine gt_0_2 C h tx0 fl_X0_19 dX0_bindField_24 ?_
    refine st_ref hb_2 ?_
    refine gt_1_14 C h tb_2 fl_X0_122 dX0_bindField_27 ?_
    obtain ⟨r_6, m_7, hc_6, hM⟩ := bd_some hM
    refine h_callVi C h (As := [.int x2, .ref b_5, .int (gI m b_2 14)]) (rest := []) r_6 m_7 (c_X8_firstNamed hc_6 tb_4 tb_5) 8 rfl (by decide) tb_4 im_yX8_firstNamed se_yX8_firstNamed cy_X8_firstNamed rfl ml_X0_71 ⟨by decide, by decide⟩ ⟨Nat.zero_le _, Nat.zero_le _⟩ hl.1 rfl (Nat.le_of_ble_eq_true rfl) dX0_bindField_30 (fun H locs h => ?_)
    refine lv_istore_n (lv' := [(3, .int r_6), (0, .ref x0), (1, .int x1), (2, .int x2)]) C.1 C.2.1 dX0_bindField_33 rfl hl (by decide) rfl (fun ls hl => ?_)
    refine lv_iload_n C.1 C.2.1 dX0_bindField_34 rfl (lv_at hl 0 rfl) ?_
    refine lv_iconst (v := (-1)) C.1 C.2.1 dX0_bindField_35 (by decide) ?_
    refine lv_icmp_ne (tgt := 52) C.1 C.2.1 dX0_bindField_36 (by decide) (fun q => ?_) (fun q => ?_)
    · have hM := ite_f q hM
      refine lv_aload_n C.1 C.2.1 dX0_bindField_52 rfl (lv_at hl 1 rfl) ?_
      refine gt_0_4 C h tx0 fl_X0_27 dX0_bindField_53 ?_
      refine lv_if_eq (tgt := 82) C.1 C.2.1 dX0_bindField_56 (by decide) (fun q => ?_) (fun q => ?_)
      · have hM := ite_t q hM
        refine lv_aload_n C.1 C.2.1 dX0_bindField_82 rfl (lv_at hl 1 rfl) ?_
        refine gt_0_0 C h tx0 fl_X0_9 dX0_bindField_83 ?_
        obtain ⟨b_8, hb_8, hM⟩ := nb_some hM
        have tb_8 : Ty E G b_8 6 := (fun b hb => tyf h tx0 hb) _ hb_8
        refine st_ref hb_8 ?_
        refine lv_iload_n C.1 C.2.1 dX0_bindField_86 rfl (lv_at hl 2 rfl) ?_
        refine lv_iload_n C.1 C.2.1 dX0_bindField_87 rfl (lv_at hl 0 rfl) ?_
        obtain ⟨r_9, m_10, hc_9, hM⟩ := bd_some hM
        refine h_callVv C h (As := [.int x1, .int r_6]) (rest := []) m_10 (c_X6_bindTo hc_9 tb_8) 6 rfl (by decide) tb_8 im_yX6_bindTo se_yX6_bindTo cy_X6_bindTo rfl ml_X0_128 ⟨by decide, by decide⟩ ⟨Nat.zero_le _, Nat.zero_le _⟩ hl.1 rfl (Nat.le_of_ble_eq_true rfl) dX0_bindField_88 (fun H locs h => ?_)
        obtain ⟨rfl, rfl⟩ := so_inj hM
        exact h_vret C h dX0_bindField_91
      · have hM := ite_f q hM
        refine lv_aload_n C.1 C.2.1 dX0_bindField_59 rfl (lv_at hl 1 rfl) ?_
        refine gt_0_2 C h tx0 fl_X0_19 dX0_bindField_60 ?_
        obtain ⟨b_11, hb_11, hM⟩ := nb_some hM
        have tb_11 : Ty E G b_11 1 := (fun b hb => tyf h tx0 hb) _ hb_11
        refine st_ref hb_11 ?_
        refine lv_iload_n C.1 C.2.1 dX0_bindField_63 rfl (lv_at hl 0 rfl) ?_
        obtain ⟨r_12, m_13, hc_12, hM⟩ := bd_some hM
        refine h_callVi C h (As := [.int r_6]) (rest := []) (bz r_12) m_13 (c_X1_isWorked hc_12 tb_11) 1 rfl (by decide) tb_11 im_yX1_isWorked se_yX1_isWorked cy_X1_isWorked rfl ml_X0_125 ⟨by decide, by decide⟩ ⟨Nat.zero_le _, Nat.zero_le _⟩ hl.1 rfl (Nat.le_of_ble_eq_true rfl) dX0_bindField_64 (fun H locs h => ?_)
        refine h_ifz (tgt := 82) C.1 C.2.1 dX0_bindField_67 (by decide) (fun q => ?_) (fun q => ?_)
        · have hM := ite_f q hM
          refine lv_aload_n C.1 C.2.1 dX0_bindField_82 rfl (lv_at hl 1 rfl) ?_
          refine gt_0_0 C h tx0 fl_X0_9 dX0_bindField_83 ?_
          obtain ⟨b_14, hb_14, hM⟩ := nb_some hM
          have tb_14 : Ty E G b_14 6 := (fun b hb => tyf h tx0 hb) _ hb_14
          refine st_ref hb_14 ?_
          refine lv_iload_n C.1 C.2.1 dX0_bindField_86 rfl (lv_at hl 2 rfl) ?_
          refine lv_iload_n C.1 C.2.1 dX0_bindField_87 rfl (lv_at hl 0 rfl) ?_
          obtain ⟨r_15, m_16, hc_15, hM⟩ := bd_some hM
          refine h_callVv C h (As := [.int x1, .int r_6]) (rest := []) m_16 (c_X6_bindTo hc_15 tb_14) 6 rfl (by decide) tb_14 im_yX6_bindTo se_yX6_bindTo cy_X6_bindTo rfl ml_X0_128 ⟨by decide, by decide⟩ ⟨Nat.zero_le _, Nat.zero_le _⟩ hl.1 rfl (Nat.le_of_ble_eq_true rfl) dX0_bindField_88 (fun H locs h => ?_)
          obtain ⟨rfl, rfl⟩ := so_inj hM
          exact h_vret C h dX0_bindField_91
        · have hM := ite_t q hM
          refine lv_aload_n C.1 C.2.1 dX0_bindField_70 rfl (lv_at hl 1 rfl) ?_
          refine gt_0_1 C h tx0 fl_X0_15 dX0_bindField_71 ?_
          obtain ⟨b_17, hb_17, hM⟩ := nb_some hM
          have tb_17 : Ty E G b_17 3 := (fun b hb => tyf h tx0 hb) _ hb_17
          refine st_ref hb_17 ?_
          refine lv_iconst (v := 5) C.1 C.2.1 dX0_bindField_74 (by decide) ?_
          refine lv_iload_n C.1 C.2.1 dX0_bindField_75 rfl (lv_at hl 3 rfl) ?_
          obtain ⟨r_18, m_19, hc_18, hM⟩ := bd_some hM
          refine h_callVv C h (As := [.int 5, .int x2]) (rest := []) m_19 (c_X3_note hc_18 tb_17) 3 rfl (by decide) tb_17 im_yX3_note se_yX3_note cy_X3_note rfl ml_X0_77 ⟨by decide, by decide⟩ ⟨Nat.zero_le _, Nat.zero_le _⟩ hl.1 rfl (Nat.le_of_ble_eq_true rfl) dX0_bindField_76 (fun H locs h => ?_)
          refine lv_goto (tgt := 91) C.1 C.2.1 dX0_bindField_79 (by decide) ?_
          obtain ⟨rfl, rfl⟩ := so_inj hM
          exact h_vret C h dX0_bindField_91
    · have hM := ite_t q hM
      refine lv_aload_n C.1 C.2.1 dX0_bindField_39 rfl (lv_at hl 1 rfl) ?_
      refine gt_0_1 C h tx0 fl_X0_15 dX0_bindField_40 ?_
      obtain ⟨b_20, hb_20, hM⟩ := nb_some hM
      have tb_20 : Ty E G b_20 3 := (fun b hb => tyf h tx0 hb) _ hb_20
      refine st_ref hb_20 ?_
      refine lv_bipush (v := 6) C.1 C.2.1 dX0_bindField_43 (by decide) ?_
      refine lv_iload_n C.1 C.2.1 dX0_bindField_45 rfl (lv_at hl 3 rfl) ?_
      obtain ⟨r_21, m_22, hc_21, hM⟩ := bd_some hM
      refine h_callVv C h (As := [.int 6, .int x2]) (rest := []) m_22 (c_X3_note hc_21 tb_20) 3 rfl (by decide) tb_20 im_yX3_note se_yX3_note cy_X3_note rfl ml_X0_77 ⟨by decide, by decide⟩ ⟨Nat.zero_le _, Nat.zero_le _⟩ hl.1 rfl (Nat.le_of_ble_eq_true rfl) dX0_bindField_46 (fun H locs h => ?_)
      refine lv_goto (tgt := 91) C.1 C.2.1 dX0_bindField_49 (by decide) ?_
      obtain ⟨rfl, rfl⟩ := so_inj hM
      exact h_vret C h dX0_bindField_91
theorem cy_X0_bindField : Cy yX0_bindField cX0_bindField 4 none 2 := ⟨cd_yX0_bindField, ii_X0, by decide, by decide, by decide +kernel⟩
set_option maxRecDepth 100000 in
theorem c_X0_bindField {l : Launch} {E : EE} {G : GG} {x0 : Nat} {x1 : Int32} {x2 : Int32} {m m9 : MM} {r9 : Unit} (hM : M_X0_bindField G x0 x1 x2 m = some (r9, m9)) (tx0 : Ty E G x0 0) : Mc l E yX0_bindField cX0_bindField 4 none rmX0_bindField [.ref x0, .int x1, .int x2] G m (cQv E G m9) := M_of (by decide) (Nat.le_of_ble_eq_true rfl) (fun p e s mth below meth c C h ls hl => cM_X0_bindField C hM tx0 _ _ h ls hl)
abbrev rmX0_bindConstant : Room := { frames := 4, cells := 0, slots := 0, locals := 90 }
def B_X0_bindConstant_68 (G : GG) (x0 : Nat) (x1 : Int32) (x2 : Int32) (x4 : Int32) (s0 : Int32) (m : MM) : Option (Unit × MM) :=
  if s0 = (-1) then
    nb (gR m x0 1) fun b_4 =>
      bd (M_X3_note G b_4 6 x2 m) fun _ m_6 =>
        some ((), m_6)
  else
    nb (gR m x0 0) fun b_1 =>
      bd (M_X6_bindTo G b_1 x1 ((x4 * 12) + s0) m) fun _ m_3 =>
        some ((), m_3)
set_option maxRecDepth 100000 in
set_option maxHeartbeats 4000000 in
theorem cB_X0_bindConstant_68 {p : Program} {l : Launch} {e : Env} {s : State} {mth : MethodId} {args : Array Value} {below : List Frame} {meth : Method} {c : Code} {E : EE} {G : GG} {r9 : Unit} {m9 : MM} (C : Cx E G p s mth args meth c cX0_bindConstant RX0 "bindConstant" 7 none) {x0 : Nat} {x1 : Int32} {x2 : Int32} {x4 : Int32} {s0 : Int32} {m : MM} (hM : B_X0_bindConstant_68 G x0 x1 x2 x4 s0 m = some (r9, m9)) (tx0 : Ty E G x0 0) : ∀ (H : Heap) (locs : List Loc), Hp E G m s H locs → ∀ ls : Array Slot, lv_has ls 7 [(0, .ref x0), (1, .int x1), (2, .int x2), (4, .int x4)] → W p l e rmX0_bindConstant s mth args below meth c H locs 0 0 (MQ below (cQv E G m9) args s 0 0 (fun q => E.2.2.1 ≤ q)) (F0 mth 68 ls [.int s0]) := by
  intro H locs h ls hl
  unfold B_X0_bindConstant_68 at hM
  refine lv_istore (lv' := [(6, .int s0), (0, .ref x0), (1, .int x1), (2, .int x2), (4, .int x4)]) C.1 C.2.1 dX0_bindConstant_68 hl (by decide) rfl (fun ls hl => ?_)
  refine lv_iload C.1 C.2.1 dX0_bindConstant_70 (lv_at hl 0 rfl) ?_
  refine lv_iconst (v := (-1)) C.1 C.2.1 dX0_bindConstant_72 (by decide) ?_
  refine lv_icmp_ne (tgt := 89) C.1 C.2.1 dX0_bindConstant_73 (by decide) (fun q => ?_) (fun q => ?_)
  · have hM := ite_f q hM
    refine lv_aload_n C.1 C.2.1 dX0_bindConstant_89 rfl (lv_at hl 1 rfl) ?_
    refine gt_0_0 C h tx0 fl_X0_9 dX0_bindConstant_90 ?_
    obtain ⟨b_1, hb_1, hM⟩ := nb_some hM
    have tb_1 : Ty E G b_1 6 := (fun b hb => tyf h tx0 hb) _ hb_1
    refine st_ref hb_1 ?_
    refine lv_iload_n C.1 C.2.1 dX0_bindConstant_93 rfl (lv_at hl 2 rfl) ?_
    refine lv_iload C.1 C.2.1 dX0_bindConstant_94 (lv_at hl 4 rfl) ?_
    refine lv_bipush (v := 12) C.1 C.2.1 dX0_bindConstant_96 (by decide) ?_
    refine lv_imul C.1 C.2.1 dX0_bindConstant_98 ?_
    refine lv_iload C.1 C.2.1 dX0_bindConstant_99 (lv_at hl 0 rfl) ?_
    refine lv_iadd C.1 C.2.1 dX0_bindConstant_101 ?_
    obtain ⟨r_2, m_3, hc_2, hM⟩ := bd_some hM
    refine h_callVv C h (As := [.int x1, .int ((x4 * 12) + s0)]) (rest := []) m_3 (c_X6_bindTo hc_2 tb_1) 6 rfl (by decide) tb_1 im_yX6_bindTo se_yX6_bindTo cy_X6_bindTo rfl ml_X0_128 ⟨by decide, by decide⟩ ⟨Nat.zero_le _, Nat.zero_le _⟩ hl.1 rfl (Nat.le_of_ble_eq_true rfl) dX0_bindConstant_102 (fun H locs h => ?_)
    obtain ⟨rfl, rfl⟩ := so_inj hM
    exact h_vret C h dX0_bindConstant_105
  · have hM := ite_t q hM
    refine lv_aload_n C.1 C.2.1 dX0_bindConstant_76 rfl (lv_at hl 1 rfl) ?_
    refine gt_0_1 C h tx0 fl_X0_15 dX0_bindConstant_77 ?_
    obtain ⟨b_4, hb_4, hM⟩ := nb_some hM
    have tb_4 : Ty E G b_4 3 := (fun b hb => tyf h tx0 hb) _ hb_4
    refine st_ref hb_4 ?_
    refine lv_bipush (v := 6) C.1 C.2.1 dX0_bindConstant_80 (by decide) ?_
    refine lv_iload_n C.1 C.2.1 dX0_bindConstant_82 rfl (lv_at hl 3 rfl) ?_
    obtain ⟨r_5, m_6, hc_5, hM⟩ := bd_some hM
    refine h_callVv C h (As := [.int 6, .int x2]) (rest := []) m_6 (c_X3_note hc_5 tb_4) 3 rfl (by decide) tb_4 im_yX3_note se_yX3_note cy_X3_note rfl ml_X0_77 ⟨by decide, by decide⟩ ⟨Nat.zero_le _, Nat.zero_le _⟩ hl.1 rfl (Nat.le_of_ble_eq_true rfl) dX0_bindConstant_83 (fun H locs h => ?_)
    refine lv_goto (tgt := 105) C.1 C.2.1 dX0_bindConstant_86 (by decide) ?_
    obtain ⟨rfl, rfl⟩ := so_inj hM
    exact h_vret C h dX0_bindConstant_105
def M_X0_bindConstant (G : GG) (x0 : Nat) (x1 : Int32) (x2 : Int32) (x3 : Int32) (m : MM) : Option (Unit × MM) :=
  nb (gR m x0 0) fun b_7 =>
    nb (gR m b_7 5) fun b_8 =>
      nb (gR m b_7 1) fun b_9 =>
        bd (M_X8_firstNamed G b_8 x2 b_9 (gI m b_7 3) m) fun r_10 m_11 =>
          nb (gR m_11 x0 0) fun b_12 =>
            bd (M_X6_enumAt G b_12 r_10 m_11) fun r_13 m_14 =>
              el r_13 (
                B_X0_bindConstant_68 G x0 x1 x2 r_10 (-1) m_14
              ) fun b_17 =>
                nb (gR m_14 x0 0) fun b_18 =>
                  nb (gR m_14 b_18 5) fun b_19 =>
                    nb (gR m_14 b_17 0) fun b_20 =>
                      bd (M_X8_firstNamed G b_19 x3 b_20 (gI m_14 b_17 12) m_14) fun r_21 m_22 =>
                        B_X0_bindConstant_68 G x0 x1 x2 r_10 r_21 m_22
set_option maxRecDepth 100000 in
set_option maxHeartbeats 4000000 in
theorem cM_X0_bindConstant {p : Program} {l : Launch} {e : Env} {s : State} {mth : MethodId} {args : Array Value} {below : List Frame} {meth : Method} {c : Code} {E : EE} {G : GG} {r9 : Unit} {m9 : MM} (C : Cx E G p s mth args meth c cX0_bindConstant RX0 "bindConstant" 7 none) {x0 : Nat} {x1 : Int32} {x2 : Int32} {x3 : Int32} {m : MM} (hM : M_X0_bindConstant G x0 x1 x2 x3 m = some (r9, m9)) (tx0 : Ty E G x0 0) : ∀ (H : Heap) (locs : List Loc), Hp E G m s H locs → ∀ ls : Array Slot, lv_has ls 7 [(0, .ref x0), (1, .int x1), (2, .int x2), (3, .int x3)] → W p l e rmX0_bindConstant s mth args below meth c H locs 0 0 (MQ below (cQv E G m9) args s 0 0 (fun q => E.2.2.1 ≤ q)) (F0 mth 0 ls []) := by
  intro H locs h ls hl
  unfold M_X0_bindConstant at hM
  refine lv_aload_n C.1 C.2.1 dX0_bindConstant_0 rfl (lv_at hl 0 rfl) ?_
  refine gt_0_0 C h tx0 fl_X0_9 dX0_bindConstant_1 ?_
  obtain ⟨b_7, hb_7, hM⟩ := nb_some hM
  have tb_7 : Ty E G b_7 6 := (fun b hb => tyf h tx0 hb) _ hb_7
  refine st_ref hb_7 ?_
  refine gt_6_5 C h tb_7 fl_X0_67 dX0_bindConstant_4 ?_
  obtain ⟨b_8, hb_8, hM⟩ := nb_some hM
  have tb_8 : Ty E G b_8 8 := (fun b hb => tyf h tb_7 hb) _ hb_8
  refine st_ref hb_8 ?_
  refine lv_iload_n C.1 C.2.1 dX0_bindConstant_7 rfl (lv_at hl 2 rfl) ?_
  refine lv_aload_n C.1 C.2.1 dX0_bindConstant_8 rfl (lv_at hl 0 rfl) ?_
  refine gt_0_0 C h tx0 fl_X0_9 dX0_bindConstant_9 ?_
  refine st_ref hb_7 ?_
  refine gt_6_1 C h tb_7 fl_X0_40 dX0_bindConstant_12 ?_
  obtain ⟨b_9, hb_9, hM⟩ := nb_some hM
  have tb_9 : Ty E G b_9 12 := (fun b hb => tyf h tb_7 hb) _ hb_9
  refine st_ref hb_9 ?_
  refine lv_aload_n C.1 C.2.1 dX0_bindConstant_15 rfl (lv_at hl 0 rfl) ?_
  refine gt_0_0 C h tx0 fl_X0_9 dX0_bindConstant_16 ?_
  refine st_ref hb_7 ?_
  refine gt_6_3 C h tb_7 fl_X0_44 dX0_bindConstant_19 ?_
  obtain ⟨r_10, m_11, hc_10, hM⟩ := bd_some hM
  refine h_callVi C h (As := [.int x2, .ref b_9, .int (gI m b_7 3)]) (rest := []) r_10 m_11 (c_X8_firstNamed hc_10 tb_8 tb_9) 8 rfl (by decide) tb_8 im_yX8_firstNamed se_yX8_firstNamed cy_X8_firstNamed rfl ml_X0_71 ⟨by decide, by decide⟩ ⟨Nat.zero_le _, Nat.zero_le _⟩ hl.1 rfl (Nat.le_of_ble_eq_true rfl) dX0_bindConstant_22 (fun H locs h => ?_)
  refine lv_istore (lv' := [(4, .int r_10), (0, .ref x0), (1, .int x1), (2, .int x2), (3, .int x3)]) C.1 C.2.1 dX0_bindConstant_25 hl (by decide) rfl (fun ls hl => ?_)
  refine lv_aload_n C.1 C.2.1 dX0_bindConstant_27 rfl (lv_at hl 1 rfl) ?_
  refine gt_0_0 C h tx0 fl_X0_9 dX0_bindConstant_28 ?_
  obtain ⟨b_12, hb_12, hM⟩ := nb_some hM
  have tb_12 : Ty E G b_12 6 := (fun b hb => tyf h tx0 hb) _ hb_12
  refine st_ref hb_12 ?_
  refine lv_iload C.1 C.2.1 dX0_bindConstant_31 (lv_at hl 0 rfl) ?_
  obtain ⟨r_13, m_14, hc_13, hM⟩ := bd_some hM
  refine h_callVq C h (As := [.int r_10]) (rest := []) r_13 1 m_14 (c_X6_enumAt hc_13 tb_12) 6 rfl (by decide) tb_12 im_yX6_enumAt se_yX6_enumAt cy_X6_enumAt rfl ml_X0_51 ⟨by decide, by decide⟩ ⟨Nat.zero_le _, Nat.zero_le _⟩ hl.1 rfl (Nat.le_of_ble_eq_true rfl) dX0_bindConstant_33 (fun tq_13 H locs h => ?_)
  have tq_15 : ∀ b, r_13 = some b → Ty E G b 1 := tq_13
  refine h_astore (lv' := [(5, va_rf r_13), (4, .int r_10), (0, .ref x0), (1, .int x1), (2, .int x2), (3, .int x3)]) C.1 C.2.1 dX0_bindConstant_36 hl (by decide) rfl (fun ls hl => ?_)
  refine h_aload C.1 C.2.1 dX0_bindConstant_38 (lv_at hl 0 rfl) ?_
  have tq_16 : ∀ b, r_13 = some b → Ty E G b 1 := tq_15
  refine h_ifnonnull (tgt := 47) (x := r_13) C.1 C.2.1 dX0_bindConstant_40 (by decide) (fun q => ?_) (fun b_17 hb_17 => ?_)
  · have hM := el_none q hM
    refine lv_iconst (v := (-1)) C.1 C.2.1 dX0_bindConstant_43 (by decide) ?_
    refine lv_goto (tgt := 68) C.1 C.2.1 dX0_bindConstant_44 (by decide) ?_
    exact cB_X0_bindConstant_68 C hM tx0 _ _ h ls (lv_sub hl [2, 3, 4, 1] rfl)
  · have hM := el_some hb_17 hM
    have tb_17 := tq_16 _ hb_17
    refine lv_aload_n C.1 C.2.1 dX0_bindConstant_47 rfl (lv_at hl 2 rfl) ?_
    refine gt_0_0 C h tx0 fl_X0_9 dX0_bindConstant_48 ?_
    obtain ⟨b_18, hb_18, hM⟩ := nb_some hM
    have tb_18 : Ty E G b_18 6 := (fun b hb => tyf h tx0 hb) _ hb_18
    refine st_ref hb_18 ?_
    refine gt_6_5 C h tb_18 fl_X0_67 dX0_bindConstant_51 ?_
    obtain ⟨b_19, hb_19, hM⟩ := nb_some hM
    have tb_19 : Ty E G b_19 8 := (fun b hb => tyf h tb_18 hb) _ hb_19
    refine st_ref hb_19 ?_
    refine lv_iload_n C.1 C.2.1 dX0_bindConstant_54 rfl (lv_at hl 5 rfl) ?_
    refine h_aload C.1 C.2.1 dX0_bindConstant_55 (lv_at hl 0 rfl) ?_
    refine st_ref hb_17 ?_
    refine gt_1_0 C h tb_17 fl_X0_131 dX0_bindConstant_57 ?_
    obtain ⟨b_20, hb_20, hM⟩ := nb_some hM
    have tb_20 : Ty E G b_20 12 := (fun b hb => tyf h tb_17 hb) _ hb_20
    refine st_ref hb_20 ?_
    refine h_aload C.1 C.2.1 dX0_bindConstant_60 (lv_at hl 0 rfl) ?_
    refine st_ref hb_17 ?_
    refine gt_1_12 C h tb_17 fl_X0_134 dX0_bindConstant_62 ?_
    obtain ⟨r_21, m_22, hc_21, hM⟩ := bd_some hM
    refine h_callVi C h (As := [.int x3, .ref b_20, .int (gI m_14 b_17 12)]) (rest := []) r_21 m_22 (c_X8_firstNamed hc_21 tb_19 tb_20) 8 rfl (by decide) tb_19 im_yX8_firstNamed se_yX8_firstNamed cy_X8_firstNamed rfl ml_X0_71 ⟨by decide, by decide⟩ ⟨Nat.zero_le _, Nat.zero_le _⟩ hl.1 rfl (Nat.le_of_ble_eq_true rfl) dX0_bindConstant_65 (fun H locs h => ?_)
    exact cB_X0_bindConstant_68 C hM tx0 _ _ h ls (lv_sub hl [2, 3, 4, 1] rfl)
theorem cy_X0_bindConstant : Cy yX0_bindConstant cX0_bindConstant 7 none 3 := ⟨cd_yX0_bindConstant, ii_X0, by decide, by decide, by decide +kernel⟩
set_option maxRecDepth 100000 in
theorem c_X0_bindConstant {l : Launch} {E : EE} {G : GG} {x0 : Nat} {x1 : Int32} {x2 : Int32} {x3 : Int32} {m m9 : MM} {r9 : Unit} (hM : M_X0_bindConstant G x0 x1 x2 x3 m = some (r9, m9)) (tx0 : Ty E G x0 0) : Mc l E yX0_bindConstant cX0_bindConstant 7 none rmX0_bindConstant [.ref x0, .int x1, .int x2, .int x3] G m (cQv E G m9) := M_of (by decide) (Nat.le_of_ble_eq_true rfl) (fun p e s mth below meth c C h ls hl => cM_X0_bindConstant C hM tx0 _ _ h ls hl)
abbrev rmX0_bindOp : Room := { frames := 5, cells := 0, slots := 0, locals := 116 }
def M_X0_bindOp (G : GG) (x0 : Nat) (x1 : Int32) (m : MM) : Option (Unit × MM) :=
  nb (gR m x0 0) fun b_1 =>
    bd (M_X6_operandAt G b_1 x1 m) fun r_2 m_3 =>
      nb (gR m_3 x0 0) fun b_4 =>
        bd (M_X6_opAt G b_4 x1 m_3) fun r_5 m_6 =>
          if r_5 = 0 then
            some ((), sI m_6 x0 4 (bz false))
          else
            if r_5 = 1 then
              some ((), m_6)
            else
              if r_5 = 2 then
                bd (M_X0_bindField G x0 x1 r_2 m_6) fun _ m_8 =>
                  some ((), m_8)
              else
                if r_5 = 3 then
                  bd (M_X0_bindConstant G x0 x1 (r_2 / 4096) (r_2 - r_2 / 4096 * 4096) m_6) fun _ m_10 =>
                    some ((), m_10)
                else
                  if r_5 = 4 then
                    some ((), m_6)
                  else
                    if r_5 = 5 then
                      some ((), m_6)
                    else
                      if r_5 = 6 then
                        some ((), m_6)
                      else
                        if r_5 = 7 then
                          some ((), m_6)
                        else
                          if r_5 = 8 then
                            some ((), m_6)
                          else
                            if r_5 = 9 then
                              some ((), m_6)
                            else
                              if r_5 = 10 then
                                some ((), m_6)
                              else
                                if r_5 = 11 then
                                  some ((), m_6)
                                else
                                  if r_5 = 12 then
                                    nb (gR m_6 x0 0) fun b_11 =>
                                      bd (M_X6_enumAt G b_11 r_2 m_6) fun r_12 m_13 =>
                                        some ((), sR m_13 x0 2 r_12)
                                  else
                                    if r_5 = 13 then
                                      some ((), sI m_6 x0 3 r_2)
                                    else
                                      if r_5 = 14 then
                                        bd (M_X0_bindGive G x0 x1 r_2 m_6) fun _ m_16 =>
                                          some ((), m_16)
                                      else
                                        if r_5 = 15 then
                                          some ((), sI m_6 x0 4 (bz true))
                                        else
                                          some ((), m_6)
set_option maxRecDepth 100000 in
set_option maxHeartbeats 4000000 in
theorem cM_X0_bindOp {p : Program} {l : Launch} {e : Env} {s : State} {mth : MethodId} {args : Array Value} {below : List Frame} {meth : Method} {c : Code} {E : EE} {G : GG} {r9 : Unit} {m9 : MM} (C : Cx E G p s mth args meth c cX0_bindOp RX0 "bindOp" 3 none) {x0 : Nat} {x1 : Int32} {m : MM} (hM : M_X0_bindOp G x0 x1 m = some (r9, m9)) (tx0 : Ty E G x0 0) : ∀ (H : Heap) (locs : List Loc), Hp E G m s H locs → ∀ ls : Array Slot, lv_has ls 3 [(0, .ref x0), (1, .int x1)] → W p l e rmX0_bindOp s mth args below meth c H locs 0 0 (MQ below (cQv E G m9) args s 0 0 (fun q => E.2.2.1 ≤ q)) (F0 mth 0 ls []) := by
  intro H locs h ls hl
  unfold M_X0_bindOp at hM
  refine lv_aload_n C.1 C.2.1 dX0_bindOp_0 rfl (lv_at hl 0 rfl) ?_
  refine gt_0_0 C h tx0 fl_X0_9 dX0_bindOp_1 ?_
  obtain ⟨b_1, hb_1, hM⟩ := nb_some hM
  have tb_1 : Ty E G b_1 6 := (fun b hb => tyf h tx0 hb) _ hb_1
  refine st_ref hb_1 ?_
  refine lv_iload_n C.1 C.2.1 dX0_bindOp_4 rfl (lv_at hl 1 rfl) ?_
  obtain ⟨r_2, m_3, hc_2, hM⟩ := bd_some hM
  refine h_callVi C h (As := [.int x1]) (rest := []) r_2 m_3 (c_X6_operandAt hc_2 tb_1) 6 rfl (by decide) tb_1 im_yX6_operandAt se_yX6_operandAt cy_X6_operandAt rfl ml_X0_83 ⟨by decide, by decide⟩ ⟨Nat.zero_le _, Nat.zero_le _⟩ hl.1 rfl (Nat.le_of_ble_eq_true rfl) dX0_bindOp_5 (fun H locs h => ?_)
  refine lv_istore_n (lv' := [(2, .int r_2), (0, .ref x0), (1, .int x1)]) C.1 C.2.1 dX0_bindOp_8 rfl hl (by decide) rfl (fun ls hl => ?_)
  refine lv_aload_n C.1 C.2.1 dX0_bindOp_9 rfl (lv_at hl 1 rfl) ?_
  refine gt_0_0 C h tx0 fl_X0_9 dX0_bindOp_10 ?_
  obtain ⟨b_4, hb_4, hM⟩ := nb_some hM
  have tb_4 : Ty E G b_4 6 := (fun b hb => tyf h tx0 hb) _ hb_4
  refine st_ref hb_4 ?_
  refine lv_iload_n C.1 C.2.1 dX0_bindOp_13 rfl (lv_at hl 2 rfl) ?_
  obtain ⟨r_5, m_6, hc_5, hM⟩ := bd_some hM
  refine h_callVi C h (As := [.int x1]) (rest := []) r_5 m_6 (c_X6_opAt hc_5 tb_4) 6 rfl (by decide) tb_4 im_yX6_opAt se_yX6_opAt cy_X6_opAt rfl ml_X0_87 ⟨by decide, by decide⟩ ⟨Nat.zero_le _, Nat.zero_le _⟩ hl.1 rfl (Nat.le_of_ble_eq_true rfl) dX0_bindOp_14 (fun H locs h => ?_)
  by_cases q0 : r_5 = 0
  · have hM := ite_t q0 hM
    refine h_tabIn q0 (tgt := 136) C.1 C.2.1 dX0_bindOp_17 (by decide) (by decide) rfl (by decide) ?_
    refine lv_aload_n C.1 C.2.1 dX0_bindOp_136 rfl (lv_at hl 1 rfl) ?_
    refine lv_iconst (v := 0) C.1 C.2.1 dX0_bindOp_137 (by decide) ?_
    refine pt_0_4 C h (v := bz false) (bz_ok _) tx0 fl_X0_27 dX0_bindOp_138 (fun H locs h => ?_)
    refine lv_goto (tgt := 171) C.1 C.2.1 dX0_bindOp_141 (by decide) ?_
    obtain ⟨rfl, rfl⟩ := so_inj hM
    exact h_vret C h dX0_bindOp_171
  · have hM := ite_f q0 hM
    by_cases q1 : r_5 = 1
    · have hM := ite_t q1 hM
      refine h_tabIn q1 (tgt := 171) C.1 C.2.1 dX0_bindOp_17 (by decide) (by decide) rfl (by decide) ?_
      obtain ⟨rfl, rfl⟩ := so_inj hM
      exact h_vret C h dX0_bindOp_171
    · have hM := ite_f q1 hM
      by_cases q2 : r_5 = 2
      · have hM := ite_t q2 hM
        refine h_tabIn q2 (tgt := 144) C.1 C.2.1 dX0_bindOp_17 (by decide) (by decide) rfl (by decide) ?_
        refine lv_aload_n C.1 C.2.1 dX0_bindOp_144 rfl (lv_at hl 1 rfl) ?_
        refine lv_iload_n C.1 C.2.1 dX0_bindOp_145 rfl (lv_at hl 2 rfl) ?_
        refine lv_iload_n C.1 C.2.1 dX0_bindOp_146 rfl (lv_at hl 0 rfl) ?_
        obtain ⟨r_7, m_8, hc_7, hM⟩ := bd_some hM
        refine h_callVv C h (As := [.int x1, .int r_2]) (rest := []) m_8 (c_X0_bindField hc_7 tx0) 0 rfl (by decide) tx0 im_yX0_bindField se_yX0_bindField cy_X0_bindField rfl ml_X0_93 ⟨by decide, by decide⟩ ⟨Nat.zero_le _, Nat.zero_le _⟩ hl.1 rfl (Nat.le_of_ble_eq_true rfl) dX0_bindOp_147 (fun H locs h => ?_)
        refine lv_goto (tgt := 171) C.1 C.2.1 dX0_bindOp_150 (by decide) ?_
        obtain ⟨rfl, rfl⟩ := so_inj hM
        exact h_vret C h dX0_bindOp_171
      · have hM := ite_f q2 hM
        by_cases q3 : r_5 = 3
        · have hM := ite_t q3 hM
          refine h_tabIn q3 (tgt := 153) C.1 C.2.1 dX0_bindOp_17 (by decide) (by decide) rfl (by decide) ?_
          refine lv_aload_n C.1 C.2.1 dX0_bindOp_153 rfl (lv_at hl 1 rfl) ?_
          refine lv_iload_n C.1 C.2.1 dX0_bindOp_154 rfl (lv_at hl 2 rfl) ?_
          refine lv_iload_n C.1 C.2.1 dX0_bindOp_155 rfl (lv_at hl 0 rfl) ?_
          refine lv_sipush (v := 4096) C.1 C.2.1 dX0_bindOp_156 (by decide) ?_
          refine lv_idiv C.1 C.2.1 dX0_bindOp_159 (by decide) ?_
          refine lv_iload_n C.1 C.2.1 dX0_bindOp_160 rfl (lv_at hl 0 rfl) ?_
          refine lv_sipush (v := 4096) C.1 C.2.1 dX0_bindOp_161 (by decide) ?_
          refine lv_irem C.1 C.2.1 dX0_bindOp_164 (by decide) ?_
          obtain ⟨r_9, m_10, hc_9, hM⟩ := bd_some hM
          refine h_callVv C h (As := [.int x1, .int (r_2 / 4096), .int (r_2 - r_2 / 4096 * 4096)]) (rest := []) m_10 (c_X0_bindConstant hc_9 tx0) 0 rfl (by decide) tx0 im_yX0_bindConstant se_yX0_bindConstant cy_X0_bindConstant rfl ml_X0_98 ⟨by decide, by decide⟩ ⟨Nat.zero_le _, Nat.zero_le _⟩ hl.1 rfl (Nat.le_of_ble_eq_true rfl) dX0_bindOp_165 (fun H locs h => ?_)
          refine lv_goto (tgt := 171) C.1 C.2.1 dX0_bindOp_168 (by decide) ?_
          obtain ⟨rfl, rfl⟩ := so_inj hM
          exact h_vret C h dX0_bindOp_171
        · have hM := ite_f q3 hM
          by_cases q4 : r_5 = 4
          · have hM := ite_t q4 hM
            refine h_tabIn q4 (tgt := 171) C.1 C.2.1 dX0_bindOp_17 (by decide) (by decide) rfl (by decide) ?_
            obtain ⟨rfl, rfl⟩ := so_inj hM
            exact h_vret C h dX0_bindOp_171
          · have hM := ite_f q4 hM
            by_cases q5 : r_5 = 5
            · have hM := ite_t q5 hM
              refine h_tabIn q5 (tgt := 171) C.1 C.2.1 dX0_bindOp_17 (by decide) (by decide) rfl (by decide) ?_
              obtain ⟨rfl, rfl⟩ := so_inj hM
              exact h_vret C h dX0_bindOp_171
            · have hM := ite_f q5 hM
              by_cases q6 : r_5 = 6
              · have hM := ite_t q6 hM
                refine h_tabIn q6 (tgt := 171) C.1 C.2.1 dX0_bindOp_17 (by decide) (by decide) rfl (by decide) ?_
                obtain ⟨rfl, rfl⟩ := so_inj hM
                exact h_vret C h dX0_bindOp_171
              · have hM := ite_f q6 hM
                by_cases q7 : r_5 = 7
                · have hM := ite_t q7 hM
                  refine h_tabIn q7 (tgt := 171) C.1 C.2.1 dX0_bindOp_17 (by decide) (by decide) rfl (by decide) ?_
                  obtain ⟨rfl, rfl⟩ := so_inj hM
                  exact h_vret C h dX0_bindOp_171
                · have hM := ite_f q7 hM
                  by_cases q8 : r_5 = 8
                  · have hM := ite_t q8 hM
                    refine h_tabIn q8 (tgt := 171) C.1 C.2.1 dX0_bindOp_17 (by decide) (by decide) rfl (by decide) ?_
                    obtain ⟨rfl, rfl⟩ := so_inj hM
                    exact h_vret C h dX0_bindOp_171
                  · have hM := ite_f q8 hM
                    by_cases q9 : r_5 = 9
                    · have hM := ite_t q9 hM
                      refine h_tabIn q9 (tgt := 171) C.1 C.2.1 dX0_bindOp_17 (by decide) (by decide) rfl (by decide) ?_
                      obtain ⟨rfl, rfl⟩ := so_inj hM
                      exact h_vret C h dX0_bindOp_171
                    · have hM := ite_f q9 hM
                      by_cases q10 : r_5 = 10
                      · have hM := ite_t q10 hM
                        refine h_tabIn q10 (tgt := 171) C.1 C.2.1 dX0_bindOp_17 (by decide) (by decide) rfl (by decide) ?_
                        obtain ⟨rfl, rfl⟩ := so_inj hM
                        exact h_vret C h dX0_bindOp_171
                      · have hM := ite_f q10 hM
                        by_cases q11 : r_5 = 11
                        · have hM := ite_t q11 hM
                          refine h_tabIn q11 (tgt := 171) C.1 C.2.1 dX0_bindOp_17 (by decide) (by decide) rfl (by decide) ?_
                          obtain ⟨rfl, rfl⟩ := so_inj hM
                          exact h_vret C h dX0_bindOp_171
                        · have hM := ite_f q11 hM
                          by_cases q12 : r_5 = 12
                          · have hM := ite_t q12 hM
                            refine h_tabIn q12 (tgt := 96) C.1 C.2.1 dX0_bindOp_17 (by decide) (by decide) rfl (by decide) ?_
                            refine lv_aload_n C.1 C.2.1 dX0_bindOp_96 rfl (lv_at hl 1 rfl) ?_
                            refine lv_aload_n C.1 C.2.1 dX0_bindOp_97 rfl (lv_at hl 1 rfl) ?_
                            refine gt_0_0 C h tx0 fl_X0_9 dX0_bindOp_98 ?_
                            obtain ⟨b_11, hb_11, hM⟩ := nb_some hM
                            have tb_11 : Ty E G b_11 6 := (fun b hb => tyf h tx0 hb) _ hb_11
                            refine st_ref hb_11 ?_
                            refine lv_iload_n C.1 C.2.1 dX0_bindOp_101 rfl (lv_at hl 0 rfl) ?_
                            obtain ⟨r_12, m_13, hc_12, hM⟩ := bd_some hM
                            refine h_callVq C h (As := [.int r_2]) (rest := [.ref x0]) r_12 1 m_13 (c_X6_enumAt hc_12 tb_11) 6 rfl (by decide) tb_11 im_yX6_enumAt se_yX6_enumAt cy_X6_enumAt rfl ml_X0_51 ⟨by decide, by decide⟩ ⟨Nat.zero_le _, Nat.zero_le _⟩ hl.1 rfl (Nat.le_of_ble_eq_true rfl) dX0_bindOp_102 (fun tq_12 H locs h => ?_)
                            have tq_14 : ∀ b, r_12 = some b → Ty E G b 1 := tq_12
                            refine pt_0_2 C h tq_14 tx0 fl_X0_19 dX0_bindOp_105 (fun H locs h => ?_)
                            refine lv_goto (tgt := 171) C.1 C.2.1 dX0_bindOp_108 (by decide) ?_
                            obtain ⟨rfl, rfl⟩ := so_inj hM
                            exact h_vret C h dX0_bindOp_171
                          · have hM := ite_f q12 hM
                            by_cases q13 : r_5 = 13
                            · have hM := ite_t q13 hM
                              refine h_tabIn q13 (tgt := 111) C.1 C.2.1 dX0_bindOp_17 (by decide) (by decide) rfl (by decide) ?_
                              refine lv_aload_n C.1 C.2.1 dX0_bindOp_111 rfl (lv_at hl 1 rfl) ?_
                              refine lv_iload_n C.1 C.2.1 dX0_bindOp_112 rfl (lv_at hl 0 rfl) ?_
                              refine pt_0_3 C h tx0 fl_X0_23 dX0_bindOp_113 (fun H locs h => ?_)
                              refine lv_goto (tgt := 171) C.1 C.2.1 dX0_bindOp_116 (by decide) ?_
                              obtain ⟨rfl, rfl⟩ := so_inj hM
                              exact h_vret C h dX0_bindOp_171
                            · have hM := ite_f q13 hM
                              by_cases q14 : r_5 = 14
                              · have hM := ite_t q14 hM
                                refine h_tabIn q14 (tgt := 119) C.1 C.2.1 dX0_bindOp_17 (by decide) (by decide) rfl (by decide) ?_
                                refine lv_aload_n C.1 C.2.1 dX0_bindOp_119 rfl (lv_at hl 1 rfl) ?_
                                refine lv_iload_n C.1 C.2.1 dX0_bindOp_120 rfl (lv_at hl 2 rfl) ?_
                                refine lv_iload_n C.1 C.2.1 dX0_bindOp_121 rfl (lv_at hl 0 rfl) ?_
                                obtain ⟨r_15, m_16, hc_15, hM⟩ := bd_some hM
                                refine h_callVv C h (As := [.int x1, .int r_2]) (rest := []) m_16 (c_X0_bindGive hc_15 tx0) 0 rfl (by decide) tx0 im_yX0_bindGive se_yX0_bindGive cy_X0_bindGive rfl ml_X0_90 ⟨by decide, by decide⟩ ⟨Nat.zero_le _, Nat.zero_le _⟩ hl.1 rfl (Nat.le_of_ble_eq_true rfl) dX0_bindOp_122 (fun H locs h => ?_)
                                refine lv_goto (tgt := 171) C.1 C.2.1 dX0_bindOp_125 (by decide) ?_
                                obtain ⟨rfl, rfl⟩ := so_inj hM
                                exact h_vret C h dX0_bindOp_171
                              · have hM := ite_f q14 hM
                                by_cases q15 : r_5 = 15
                                · have hM := ite_t q15 hM
                                  refine h_tabIn q15 (tgt := 128) C.1 C.2.1 dX0_bindOp_17 (by decide) (by decide) rfl (by decide) ?_
                                  refine lv_aload_n C.1 C.2.1 dX0_bindOp_128 rfl (lv_at hl 1 rfl) ?_
                                  refine lv_iconst (v := 1) C.1 C.2.1 dX0_bindOp_129 (by decide) ?_
                                  refine pt_0_4 C h (v := bz true) (bz_ok _) tx0 fl_X0_27 dX0_bindOp_130 (fun H locs h => ?_)
                                  refine lv_goto (tgt := 171) C.1 C.2.1 dX0_bindOp_133 (by decide) ?_
                                  obtain ⟨rfl, rfl⟩ := so_inj hM
                                  exact h_vret C h dX0_bindOp_171
                                · have hM := ite_f q15 hM
                                  refine h_tabOut (tgt := 171) (lo := 0) (n := 16) C.1 C.2.1 dX0_bindOp_17 (by decide) (by decide) (by decide) (fun k hk => ?_) ?_
                                  · match k, hk with
                                    | 0, _ => exact q0
                                    | 1, _ => exact q1
                                    | 2, _ => exact q2
                                    | 3, _ => exact q3
                                    | 4, _ => exact q4
                                    | 5, _ => exact q5
                                    | 6, _ => exact q6
                                    | 7, _ => exact q7
                                    | 8, _ => exact q8
                                    | 9, _ => exact q9
                                    | 10, _ => exact q10
                                    | 11, _ => exact q11
                                    | 12, _ => exact q12
                                    | 13, _ => exact q13
                                    | 14, _ => exact q14
                                    | 15, _ => exact q15
                                    | k + 16, hk => exact absurd hk (by omega)
                                  · obtain ⟨rfl, rfl⟩ := so_inj hM
                                    exact h_vret C h dX0_bindOp_171
theorem cy_X0_bindOp : Cy yX0_bindOp cX0_bindOp 3 none 1 := ⟨cd_yX0_bindOp, ii_X0, by decide, by decide, by decide +kernel⟩
set_option maxRecDepth 100000 in
theorem c_X0_bindOp {l : Launch} {E : EE} {G : GG} {x0 : Nat} {x1 : Int32} {m m9 : MM} {r9 : Unit} (hM : M_X0_bindOp G x0 x1 m = some (r9, m9)) (tx0 : Ty E G x0 0) : Mc l E yX0_bindOp cX0_bindOp 3 none rmX0_bindOp [.ref x0, .int x1] G m (cQv E G m9) := M_of (by decide) (Nat.le_of_ble_eq_true rfl) (fun p e s mth below meth c C h ls hl => cM_X0_bindOp C hM tx0 _ _ h ls hl)
abbrev rmX0_noteTwice : Room := { frames := 4, cells := 0, slots := 0, locals := 90 }
def B_X0_noteTwice_2 (G : GG) : Nat → Nat → Nat → Int32 → Int32 → MM → Option (Unit × MM)
  | 0, _, _, _, _, _ => none
  | fu + 1, x0, x1, x2, x3, m =>
    if x2 ≤ x3 then
      some ((), m)
    else
      if (nI (G.2.2 x1)) ≤ x3 then
        some ((), m)
      else
        nb (gR m x0 0) fun b_1 =>
          nb (gR m b_1 5) fun b_2 =>
            ib x3 (G.2.2 x1) <|
              bd (M_X8_firstNamed G b_2 (gI m x1 x3.toNatClampNeg) x1 x3 m) fun r_3 m_4 =>
                if r_3 = (-1) then
                  B_X0_noteTwice_2 G fu x0 x1 x2 (x3 + 1) m_4
                else
                  nb (gR m_4 x0 1) fun b_5 =>
                    ib x3 (G.2.2 x1) <|
                      bd (M_X3_note G b_5 2 (gI m_4 x1 x3.toNatClampNeg) m_4) fun _ m_7 =>
                        B_X0_noteTwice_2 G fu x0 x1 x2 (x3 + 1) m_7
set_option maxRecDepth 100000 in
set_option maxHeartbeats 4000000 in
theorem cB_X0_noteTwice_2 {p : Program} {l : Launch} {e : Env} {s : State} {mth : MethodId} {args : Array Value} {below : List Frame} {meth : Method} {c : Code} {E : EE} {G : GG} {r9 : Unit} {m9 : MM} (C : Cx E G p s mth args meth c cX0_noteTwice RX0 "noteTwice" 4 none) : ∀ (fu : Nat) (x0 : Nat) (x1 : Nat) (x2 : Int32) (x3 : Int32) (m : MM), B_X0_noteTwice_2 G fu x0 x1 x2 x3 m = some (r9, m9) → (Ty E G x0 0) → (Ty E G x1 12) → ∀ (H : Heap) (locs : List Loc), Hp E G m s H locs → ∀ ls : Array Slot, lv_has ls 4 [(0, .ref x0), (1, .ref x1), (2, .int x2), (3, .int x3)] → W p l e rmX0_noteTwice s mth args below meth c H locs 0 0 (MQ below (cQv E G m9) args s 0 0 (fun q => E.2.2.1 ≤ q)) (F0 mth 2 ls []) := by
  intro fu
  induction fu with
  | zero =>
    intro x0 x1 x2 x3 m hM
    rw [B_X0_noteTwice_2] at hM
    cases hM
  | succ fu ih =>
    intro x0 x1 x2 x3 m hM tx0 tx1 H locs h ls hl
    rw [B_X0_noteTwice_2] at hM
    refine lv_iload_n C.1 C.2.1 dX0_noteTwice_2 rfl (lv_at hl 3 rfl) ?_
    refine lv_iload_n C.1 C.2.1 dX0_noteTwice_3 rfl (lv_at hl 2 rfl) ?_
    refine lv_icmp_ge (tgt := 49) C.1 C.2.1 dX0_noteTwice_4 (by decide) (fun q => ?_) (fun q => ?_)
    · have hM := ite_t q hM
      obtain ⟨rfl, rfl⟩ := so_inj hM
      exact h_vret C h dX0_noteTwice_49
    · have hM := ite_f q hM
      refine lv_iload_n C.1 C.2.1 dX0_noteTwice_7 rfl (lv_at hl 3 rfl) ?_
      refine lv_aload_n C.1 C.2.1 dX0_noteTwice_8 rfl (lv_at hl 1 rfl) ?_
      refine h_alen C h 12 (by decide) (by decide) tx1 dX0_noteTwice_9 ?_
      refine lv_icmp_ge (tgt := 49) C.1 C.2.1 dX0_noteTwice_10 (by decide) (fun q => ?_) (fun q => ?_)
      · have hM := ite_t q hM
        obtain ⟨rfl, rfl⟩ := so_inj hM
        exact h_vret C h dX0_noteTwice_49
      · have hM := ite_f q hM
        refine lv_aload_n C.1 C.2.1 dX0_noteTwice_13 rfl (lv_at hl 0 rfl) ?_
        refine gt_0_0 C h tx0 fl_X0_9 dX0_noteTwice_14 ?_
        obtain ⟨b_1, hb_1, hM⟩ := nb_some hM
        have tb_1 : Ty E G b_1 6 := (fun b hb => tyf h tx0 hb) _ hb_1
        refine st_ref hb_1 ?_
        refine gt_6_5 C h tb_1 fl_X0_67 dX0_noteTwice_17 ?_
        obtain ⟨b_2, hb_2, hM⟩ := nb_some hM
        have tb_2 : Ty E G b_2 8 := (fun b hb => tyf h tb_1 hb) _ hb_2
        refine st_ref hb_2 ?_
        refine lv_aload_n C.1 C.2.1 dX0_noteTwice_20 rfl (lv_at hl 1 rfl) ?_
        refine lv_iload_n C.1 C.2.1 dX0_noteTwice_21 rfl (lv_at hl 3 rfl) ?_
        obtain ⟨hi, hM⟩ := ib_some hM
        refine h_iald C h tx1 hi dX0_noteTwice_22 ?_
        refine lv_aload_n C.1 C.2.1 dX0_noteTwice_23 rfl (lv_at hl 1 rfl) ?_
        refine lv_iload_n C.1 C.2.1 dX0_noteTwice_24 rfl (lv_at hl 3 rfl) ?_
        obtain ⟨r_3, m_4, hc_3, hM⟩ := bd_some hM
        refine h_callVi C h (As := [.int (gI m x1 x3.toNatClampNeg), .ref x1, .int x3]) (rest := []) r_3 m_4 (c_X8_firstNamed hc_3 tb_2 tx1) 8 rfl (by decide) tb_2 im_yX8_firstNamed se_yX8_firstNamed cy_X8_firstNamed rfl ml_X0_71 ⟨by decide, by decide⟩ ⟨Nat.zero_le _, Nat.zero_le _⟩ hl.1 rfl (Nat.le_of_ble_eq_true rfl) dX0_noteTwice_25 (fun H locs h => ?_)
        refine lv_iconst (v := (-1)) C.1 C.2.1 dX0_noteTwice_28 (by decide) ?_
        refine lv_icmp_eq (tgt := 43) C.1 C.2.1 dX0_noteTwice_29 (by decide) (fun q => ?_) (fun q => ?_)
        · have hM := ite_t q hM
          refine lv_iinc (v := x3 + 1) (lv' := [(3, .int (x3 + 1)), (0, .ref x0), (1, .ref x1), (2, .int x2)]) C.1 C.2.1 dX0_noteTwice_43 hl (k := 3) rfl rfl (by decide) rfl (fun ls hl => ?_)
          refine lv_goto (tgt := 2) C.1 C.2.1 dX0_noteTwice_46 (by decide) ?_
          exact ih _ _ _ _ _ hM tx0 tx1 _ _ h ls (lv_sub hl [1, 2, 3, 0] rfl)
        · have hM := ite_f q hM
          refine lv_aload_n C.1 C.2.1 dX0_noteTwice_32 rfl (lv_at hl 0 rfl) ?_
          refine gt_0_1 C h tx0 fl_X0_15 dX0_noteTwice_33 ?_
          obtain ⟨b_5, hb_5, hM⟩ := nb_some hM
          have tb_5 : Ty E G b_5 3 := (fun b hb => tyf h tx0 hb) _ hb_5
          refine st_ref hb_5 ?_
          refine lv_iconst (v := 2) C.1 C.2.1 dX0_noteTwice_36 (by decide) ?_
          refine lv_aload_n C.1 C.2.1 dX0_noteTwice_37 rfl (lv_at hl 1 rfl) ?_
          refine lv_iload_n C.1 C.2.1 dX0_noteTwice_38 rfl (lv_at hl 3 rfl) ?_
          obtain ⟨hi, hM⟩ := ib_some hM
          refine h_iald C h tx1 hi dX0_noteTwice_39 ?_
          obtain ⟨r_6, m_7, hc_6, hM⟩ := bd_some hM
          refine h_callVv C h (As := [.int 2, .int (gI m_4 x1 x3.toNatClampNeg)]) (rest := []) m_7 (c_X3_note hc_6 tb_5) 3 rfl (by decide) tb_5 im_yX3_note se_yX3_note cy_X3_note rfl ml_X0_77 ⟨by decide, by decide⟩ ⟨Nat.zero_le _, Nat.zero_le _⟩ hl.1 rfl (Nat.le_of_ble_eq_true rfl) dX0_noteTwice_40 (fun H locs h => ?_)
          refine lv_iinc (v := x3 + 1) (lv' := [(3, .int (x3 + 1)), (0, .ref x0), (1, .ref x1), (2, .int x2)]) C.1 C.2.1 dX0_noteTwice_43 hl (k := 3) rfl rfl (by decide) rfl (fun ls hl => ?_)
          refine lv_goto (tgt := 2) C.1 C.2.1 dX0_noteTwice_46 (by decide) ?_
          exact ih _ _ _ _ _ hM tx0 tx1 _ _ h ls (lv_sub hl [1, 2, 3, 0] rfl)
def M_X0_noteTwice (G : GG) (x0 : Nat) (x1 : Nat) (x2 : Int32) (m : MM) : Option (Unit × MM) :=
  B_X0_noteTwice_2 G FU x0 x1 x2 0 m
set_option maxRecDepth 100000 in
set_option maxHeartbeats 4000000 in
theorem cM_X0_noteTwice {p : Program} {l : Launch} {e : Env} {s : State} {mth : MethodId} {args : Array Value} {below : List Frame} {meth : Method} {c : Code} {E : EE} {G : GG} {r9 : Unit} {m9 : MM} (C : Cx E G p s mth args meth c cX0_noteTwice RX0 "noteTwice" 4 none) {x0 : Nat} {x1 : Nat} {x2 : Int32} {m : MM} (hM : M_X0_noteTwice G x0 x1 x2 m = some (r9, m9)) (tx0 : Ty E G x0 0) (tx1 : Ty E G x1 12) : ∀ (H : Heap) (locs : List Loc), Hp E G m s H locs → ∀ ls : Array Slot, lv_has ls 4 [(0, .ref x0), (1, .ref x1), (2, .int x2)] → W p l e rmX0_noteTwice s mth args below meth c H locs 0 0 (MQ below (cQv E G m9) args s 0 0 (fun q => E.2.2.1 ≤ q)) (F0 mth 0 ls []) := by
  intro H locs h ls hl
  unfold M_X0_noteTwice at hM
  refine lv_iconst (v := 0) C.1 C.2.1 dX0_noteTwice_0 (by decide) ?_
  refine lv_istore_n (lv' := [(3, .int 0), (0, .ref x0), (1, .ref x1), (2, .int x2)]) C.1 C.2.1 dX0_noteTwice_1 rfl hl (by decide) rfl (fun ls hl => ?_)
  exact cB_X0_noteTwice_2 C _ _ _ _ _ _ hM tx0 tx1 _ _ h ls (lv_sub hl [1, 2, 3, 0] rfl)
theorem cy_X0_noteTwice : Cy yX0_noteTwice cX0_noteTwice 4 none 2 := ⟨cd_yX0_noteTwice, ii_X0, by decide, by decide, by decide +kernel⟩
set_option maxRecDepth 100000 in
theorem c_X0_noteTwice {l : Launch} {E : EE} {G : GG} {x0 : Nat} {x1 : Nat} {x2 : Int32} {m m9 : MM} {r9 : Unit} (hM : M_X0_noteTwice G x0 x1 x2 m = some (r9, m9)) (tx0 : Ty E G x0 0) (tx1 : Ty E G x1 12) : Mc l E yX0_noteTwice cX0_noteTwice 4 none rmX0_noteTwice [.ref x0, .ref x1, .int x2] G m (cQv E G m9) := M_of (by decide) (Nat.le_of_ble_eq_true rfl) (fun p e s mth below meth c C h ls hl => cM_X0_noteTwice C hM tx0 tx1 _ _ h ls hl)
abbrev rmX0_isGiven : Room := { frames := 4, cells := 0, slots := 0, locals := 90 }
def M_X0_isGiven (G : GG) (x0 : Nat) (x1 : Nat) (x2 : Int32) (x3 : Int32) (m : MM) : Option (Bool × MM) :=
  nb (gR m x0 0) fun b_1 =>
    nb (gR m b_1 5) fun b_2 =>
      nb (gR m x1 4) fun b_3 =>
        ib x3 (G.2.2 b_3) <|
          bd (M_X8_firstNamed G b_2 (gI m b_3 x3.toNatClampNeg) b_3 (gI m x1 13) m) fun r_4 m_5 =>
            bd (M_X1_giveCode G x1 x2 r_4 m_5) fun r_6 m_7 =>
              if r_6 = (-1) then
                some (false, m_7)
              else
                some (true, m_7)
set_option maxRecDepth 100000 in
set_option maxHeartbeats 4000000 in
theorem cM_X0_isGiven {p : Program} {l : Launch} {e : Env} {s : State} {mth : MethodId} {args : Array Value} {below : List Frame} {meth : Method} {c : Code} {E : EE} {G : GG} {r9 : Bool} {m9 : MM} (C : Cx E G p s mth args meth c cX0_isGiven RX0 "isGiven" 5 (some .boolean)) {x0 : Nat} {x1 : Nat} {x2 : Int32} {x3 : Int32} {m : MM} (hM : M_X0_isGiven G x0 x1 x2 x3 m = some (r9, m9)) (tx0 : Ty E G x0 0) (tx1 : Ty E G x1 1) : ∀ (H : Heap) (locs : List Loc), Hp E G m s H locs → ∀ ls : Array Slot, lv_has ls 5 [(0, .ref x0), (1, .ref x1), (2, .int x2), (3, .int x3)] → W p l e rmX0_isGiven s mth args below meth c H locs 0 0 (MQ below (cQi E (bz r9) G m9) args s 0 0 (fun q => E.2.2.1 ≤ q)) (F0 mth 0 ls []) := by
  intro H locs h ls hl
  unfold M_X0_isGiven at hM
  refine lv_aload_n C.1 C.2.1 dX0_isGiven_0 rfl (lv_at hl 0 rfl) ?_
  refine gt_0_0 C h tx0 fl_X0_9 dX0_isGiven_1 ?_
  obtain ⟨b_1, hb_1, hM⟩ := nb_some hM
  have tb_1 : Ty E G b_1 6 := (fun b hb => tyf h tx0 hb) _ hb_1
  refine st_ref hb_1 ?_
  refine gt_6_5 C h tb_1 fl_X0_67 dX0_isGiven_4 ?_
  obtain ⟨b_2, hb_2, hM⟩ := nb_some hM
  have tb_2 : Ty E G b_2 8 := (fun b hb => tyf h tb_1 hb) _ hb_2
  refine st_ref hb_2 ?_
  refine lv_aload_n C.1 C.2.1 dX0_isGiven_7 rfl (lv_at hl 1 rfl) ?_
  refine gt_1_4 C h tx1 fl_X0_102 dX0_isGiven_8 ?_
  obtain ⟨b_3, hb_3, hM⟩ := nb_some hM
  have tb_3 : Ty E G b_3 12 := (fun b hb => tyf h tx1 hb) _ hb_3
  refine st_ref hb_3 ?_
  refine lv_iload_n C.1 C.2.1 dX0_isGiven_11 rfl (lv_at hl 3 rfl) ?_
  obtain ⟨hi, hM⟩ := ib_some hM
  refine h_iald C h tb_3 hi dX0_isGiven_12 ?_
  refine lv_aload_n C.1 C.2.1 dX0_isGiven_13 rfl (lv_at hl 1 rfl) ?_
  refine gt_1_4 C h tx1 fl_X0_102 dX0_isGiven_14 ?_
  refine st_ref hb_3 ?_
  refine lv_aload_n C.1 C.2.1 dX0_isGiven_17 rfl (lv_at hl 1 rfl) ?_
  refine gt_1_13 C h tx1 fl_X0_105 dX0_isGiven_18 ?_
  obtain ⟨r_4, m_5, hc_4, hM⟩ := bd_some hM
  refine h_callVi C h (As := [.int (gI m b_3 x3.toNatClampNeg), .ref b_3, .int (gI m x1 13)]) (rest := []) r_4 m_5 (c_X8_firstNamed hc_4 tb_2 tb_3) 8 rfl (by decide) tb_2 im_yX8_firstNamed se_yX8_firstNamed cy_X8_firstNamed rfl ml_X0_71 ⟨by decide, by decide⟩ ⟨Nat.zero_le _, Nat.zero_le _⟩ hl.1 rfl (Nat.le_of_ble_eq_true rfl) dX0_isGiven_21 (fun H locs h => ?_)
  refine lv_istore (lv' := [(4, .int r_4), (0, .ref x0), (1, .ref x1), (2, .int x2), (3, .int x3)]) C.1 C.2.1 dX0_isGiven_24 hl (by decide) rfl (fun ls hl => ?_)
  refine lv_aload_n C.1 C.2.1 dX0_isGiven_26 rfl (lv_at hl 2 rfl) ?_
  refine lv_iload_n C.1 C.2.1 dX0_isGiven_27 rfl (lv_at hl 3 rfl) ?_
  refine lv_iload C.1 C.2.1 dX0_isGiven_28 (lv_at hl 0 rfl) ?_
  obtain ⟨r_6, m_7, hc_6, hM⟩ := bd_some hM
  refine h_callVi C h (As := [.int x2, .int r_4]) (rest := []) r_6 m_7 (c_X1_giveCode hc_6 tx1) 1 rfl (by decide) tx1 im_yX1_giveCode se_yX1_giveCode cy_X1_giveCode rfl ml_X0_108 ⟨by decide, by decide⟩ ⟨Nat.zero_le _, Nat.zero_le _⟩ hl.1 rfl (Nat.le_of_ble_eq_true rfl) dX0_isGiven_30 (fun H locs h => ?_)
  refine lv_iconst (v := (-1)) C.1 C.2.1 dX0_isGiven_33 (by decide) ?_
  refine lv_icmp_eq (tgt := 41) C.1 C.2.1 dX0_isGiven_34 (by decide) (fun q => ?_) (fun q => ?_)
  · have hM := ite_t q hM
    refine lv_iconst (v := 0) C.1 C.2.1 dX0_isGiven_41 (by decide) ?_
    obtain ⟨rfl, rfl⟩ := so_inj hM
    exact h_zret C h (bz_ok _).1 dX0_isGiven_42
  · have hM := ite_f q hM
    refine lv_iconst (v := 1) C.1 C.2.1 dX0_isGiven_37 (by decide) ?_
    refine lv_goto (tgt := 42) C.1 C.2.1 dX0_isGiven_38 (by decide) ?_
    obtain ⟨rfl, rfl⟩ := so_inj hM
    exact h_zret C h (bz_ok _).1 dX0_isGiven_42
theorem cy_X0_isGiven : Cy yX0_isGiven cX0_isGiven 5 (some .boolean) 3 := ⟨cd_yX0_isGiven, ii_X0, by decide, by decide, by decide +kernel⟩
set_option maxRecDepth 100000 in
theorem c_X0_isGiven {l : Launch} {E : EE} {G : GG} {x0 : Nat} {x1 : Nat} {x2 : Int32} {x3 : Int32} {m m9 : MM} {r9 : Bool} (hM : M_X0_isGiven G x0 x1 x2 x3 m = some (r9, m9)) (tx0 : Ty E G x0 0) (tx1 : Ty E G x1 1) : Mc l E yX0_isGiven cX0_isGiven 5 (some .boolean) rmX0_isGiven [.ref x0, .ref x1, .int x2, .int x3] G m (cQi E (bz r9) G m9) := M_of (by decide) (Nat.le_of_ble_eq_true rfl) (fun p e s mth below meth c C h ls hl => cM_X0_isGiven C hM tx0 tx1 _ _ h ls hl)
abbrev rmX0_noteNotGiven : Room := { frames := 5, cells := 0, slots := 0, locals := 114 }
def B_X0_noteNotGiven_12 (G : GG) (k2 : Nat → Nat → Int32 → MM → Option (Unit × MM)) : Nat → Nat → Nat → Int32 → Int32 → MM → Option (Unit × MM)
  | 0, _, _, _, _, _ => none
  | fu + 1, x0, x1, x2, x3, m =>
    if (gI m x1 12) ≤ x3 then
      k2 x0 x1 (x2 + 1) m
    else
      bd (M_X1_isAbstract G x1 x2 m) fun r_1 m_2 =>
        if r_1 = true then
          bd (M_X0_isGiven G x0 x1 x3 x2 m_2) fun r_3 m_4 =>
            if r_3 = true then
              B_X0_noteNotGiven_12 G k2 fu x0 x1 x2 (x3 + 1) m_4
            else
              nb (gR m_4 x0 1) fun b_5 =>
                nb (gR m_4 x1 0) fun b_6 =>
                  ib x3 (G.2.2 b_6) <|
                    bd (M_X3_note G b_5 4 (gI m_4 b_6 x3.toNatClampNeg) m_4) fun _ m_8 =>
                      B_X0_noteNotGiven_12 G k2 fu x0 x1 x2 (x3 + 1) m_8
        else
          B_X0_noteNotGiven_12 G k2 fu x0 x1 x2 (x3 + 1) m_2
set_option maxRecDepth 100000 in
set_option maxHeartbeats 4000000 in
theorem cB_X0_noteNotGiven_12 {p : Program} {l : Launch} {e : Env} {s : State} {mth : MethodId} {args : Array Value} {below : List Frame} {meth : Method} {c : Code} {E : EE} {G : GG} {r9 : Unit} {m9 : MM} {k2 : Nat → Nat → Int32 → MM → Option (Unit × MM)} (C : Cx E G p s mth args meth c cX0_noteNotGiven RX0 "noteNotGiven" 4 none) (hk2 : ∀ (x0 : Nat) (x1 : Nat) (x2 : Int32) (m : MM), k2 x0 x1 x2 m = some (r9, m9) → (Ty E G x0 0) → (Ty E G x1 1) → ∀ (H : Heap) (locs : List Loc), Hp E G m s H locs → ∀ ls : Array Slot, lv_has ls 4 [(0, .ref x0), (1, .ref x1), (2, .int x2)] → W p l e rmX0_noteNotGiven s mth args below meth c H locs 0 0 (MQ below (cQv E G m9) args s 0 0 (fun q => E.2.2.1 ≤ q)) (F0 mth 2 ls [])) : ∀ (fu : Nat) (x0 : Nat) (x1 : Nat) (x2 : Int32) (x3 : Int32) (m : MM), B_X0_noteNotGiven_12 G k2 fu x0 x1 x2 x3 m = some (r9, m9) → (Ty E G x0 0) → (Ty E G x1 1) → ∀ (H : Heap) (locs : List Loc), Hp E G m s H locs → ∀ ls : Array Slot, lv_has ls 4 [(0, .ref x0), (1, .ref x1), (2, .int x2), (3, .int x3)] → W p l e rmX0_noteNotGiven s mth args below meth c H locs 0 0 (MQ below (cQv E G m9) args s 0 0 (fun q => E.2.2.1 ≤ q)) (F0 mth 12 ls []) := by
  intro fu
  induction fu with
  | zero =>
    intro x0 x1 x2 x3 m hM
    rw [B_X0_noteNotGiven_12] at hM
    cases hM
  | succ fu ih =>
    intro x0 x1 x2 x3 m hM tx0 tx1 H locs h ls hl
    rw [B_X0_noteNotGiven_12] at hM
    refine lv_iload_n C.1 C.2.1 dX0_noteNotGiven_12 rfl (lv_at hl 3 rfl) ?_
    refine lv_aload_n C.1 C.2.1 dX0_noteNotGiven_13 rfl (lv_at hl 1 rfl) ?_
    refine gt_1_12 C h tx1 fl_X0_134 dX0_noteNotGiven_14 ?_
    refine lv_icmp_ge (tgt := 58) C.1 C.2.1 dX0_noteNotGiven_17 (by decide) (fun q => ?_) (fun q => ?_)
    · have hM := ite_t q hM
      refine lv_iinc (v := x2 + 1) (lv' := [(2, .int (x2 + 1)), (0, .ref x0), (1, .ref x1), (3, .int x3)]) C.1 C.2.1 dX0_noteNotGiven_58 hl (k := 2) rfl rfl (by decide) rfl (fun ls hl => ?_)
      refine lv_goto (tgt := 2) C.1 C.2.1 dX0_noteNotGiven_61 (by decide) ?_
      exact hk2 _ _ _ _ hM tx0 tx1 _ _ h ls (lv_sub hl [1, 2, 0] rfl)
    · have hM := ite_f q hM
      refine lv_aload_n C.1 C.2.1 dX0_noteNotGiven_20 rfl (lv_at hl 1 rfl) ?_
      refine lv_iload_n C.1 C.2.1 dX0_noteNotGiven_21 rfl (lv_at hl 2 rfl) ?_
      obtain ⟨r_1, m_2, hc_1, hM⟩ := bd_some hM
      refine h_callVi C h (As := [.int x2]) (rest := []) (bz r_1) m_2 (c_X1_isAbstract hc_1 tx1) 1 rfl (by decide) tx1 im_yX1_isAbstract se_yX1_isAbstract cy_X1_isAbstract rfl ml_X0_137 ⟨by decide, by decide⟩ ⟨Nat.zero_le _, Nat.zero_le _⟩ hl.1 rfl (Nat.le_of_ble_eq_true rfl) dX0_noteNotGiven_22 (fun H locs h => ?_)
      refine h_ifz (tgt := 52) C.1 C.2.1 dX0_noteNotGiven_25 (by decide) (fun q => ?_) (fun q => ?_)
      · have hM := ite_f q hM
        refine lv_iinc (v := x3 + 1) (lv' := [(3, .int (x3 + 1)), (0, .ref x0), (1, .ref x1), (2, .int x2)]) C.1 C.2.1 dX0_noteNotGiven_52 hl (k := 3) rfl rfl (by decide) rfl (fun ls hl => ?_)
        refine lv_goto (tgt := 12) C.1 C.2.1 dX0_noteNotGiven_55 (by decide) ?_
        exact ih _ _ _ _ _ hM tx0 tx1 _ _ h ls (lv_sub hl [1, 2, 3, 0] rfl)
      · have hM := ite_t q hM
        refine lv_aload_n C.1 C.2.1 dX0_noteNotGiven_28 rfl (lv_at hl 0 rfl) ?_
        refine lv_aload_n C.1 C.2.1 dX0_noteNotGiven_29 rfl (lv_at hl 1 rfl) ?_
        refine lv_iload_n C.1 C.2.1 dX0_noteNotGiven_30 rfl (lv_at hl 3 rfl) ?_
        refine lv_iload_n C.1 C.2.1 dX0_noteNotGiven_31 rfl (lv_at hl 2 rfl) ?_
        obtain ⟨r_3, m_4, hc_3, hM⟩ := bd_some hM
        refine h_callVi C h (As := [.ref x1, .int x3, .int x2]) (rest := []) (bz r_3) m_4 (c_X0_isGiven hc_3 tx0 tx1) 0 rfl (by decide) tx0 im_yX0_isGiven se_yX0_isGiven cy_X0_isGiven rfl ml_X0_140 ⟨by decide, by decide⟩ ⟨Nat.zero_le _, Nat.zero_le _⟩ hl.1 rfl (Nat.le_of_ble_eq_true rfl) dX0_noteNotGiven_32 (fun H locs h => ?_)
        refine h_ifnz (tgt := 52) C.1 C.2.1 dX0_noteNotGiven_35 (by decide) (fun q => ?_) (fun q => ?_)
        · have hM := ite_t q hM
          refine lv_iinc (v := x3 + 1) (lv' := [(3, .int (x3 + 1)), (0, .ref x0), (1, .ref x1), (2, .int x2)]) C.1 C.2.1 dX0_noteNotGiven_52 hl (k := 3) rfl rfl (by decide) rfl (fun ls hl => ?_)
          refine lv_goto (tgt := 12) C.1 C.2.1 dX0_noteNotGiven_55 (by decide) ?_
          exact ih _ _ _ _ _ hM tx0 tx1 _ _ h ls (lv_sub hl [1, 2, 3, 0] rfl)
        · have hM := ite_f q hM
          refine lv_aload_n C.1 C.2.1 dX0_noteNotGiven_38 rfl (lv_at hl 0 rfl) ?_
          refine gt_0_1 C h tx0 fl_X0_15 dX0_noteNotGiven_39 ?_
          obtain ⟨b_5, hb_5, hM⟩ := nb_some hM
          have tb_5 : Ty E G b_5 3 := (fun b hb => tyf h tx0 hb) _ hb_5
          refine st_ref hb_5 ?_
          refine lv_iconst (v := 4) C.1 C.2.1 dX0_noteNotGiven_42 (by decide) ?_
          refine lv_aload_n C.1 C.2.1 dX0_noteNotGiven_43 rfl (lv_at hl 1 rfl) ?_
          refine gt_1_0 C h tx1 fl_X0_131 dX0_noteNotGiven_44 ?_
          obtain ⟨b_6, hb_6, hM⟩ := nb_some hM
          have tb_6 : Ty E G b_6 12 := (fun b hb => tyf h tx1 hb) _ hb_6
          refine st_ref hb_6 ?_
          refine lv_iload_n C.1 C.2.1 dX0_noteNotGiven_47 rfl (lv_at hl 3 rfl) ?_
          obtain ⟨hi, hM⟩ := ib_some hM
          refine h_iald C h tb_6 hi dX0_noteNotGiven_48 ?_
          obtain ⟨r_7, m_8, hc_7, hM⟩ := bd_some hM
          refine h_callVv C h (As := [.int 4, .int (gI m_4 b_6 x3.toNatClampNeg)]) (rest := []) m_8 (c_X3_note hc_7 tb_5) 3 rfl (by decide) tb_5 im_yX3_note se_yX3_note cy_X3_note rfl ml_X0_77 ⟨by decide, by decide⟩ ⟨Nat.zero_le _, Nat.zero_le _⟩ hl.1 rfl (Nat.le_of_ble_eq_true rfl) dX0_noteNotGiven_49 (fun H locs h => ?_)
          refine lv_iinc (v := x3 + 1) (lv' := [(3, .int (x3 + 1)), (0, .ref x0), (1, .ref x1), (2, .int x2)]) C.1 C.2.1 dX0_noteNotGiven_52 hl (k := 3) rfl rfl (by decide) rfl (fun ls hl => ?_)
          refine lv_goto (tgt := 12) C.1 C.2.1 dX0_noteNotGiven_55 (by decide) ?_
          exact ih _ _ _ _ _ hM tx0 tx1 _ _ h ls (lv_sub hl [1, 2, 3, 0] rfl)
def B_X0_noteNotGiven_2 (G : GG) : Nat → Nat → Nat → Int32 → MM → Option (Unit × MM)
  | 0, _, _, _, _ => none
  | fu + 1, x0, x1, x2, m =>
    if (gI m x1 13) ≤ x2 then
      some ((), m)
    else
      B_X0_noteNotGiven_12 G (B_X0_noteNotGiven_2 G fu) FU x0 x1 x2 0 m
set_option maxRecDepth 100000 in
set_option maxHeartbeats 4000000 in
theorem cB_X0_noteNotGiven_2 {p : Program} {l : Launch} {e : Env} {s : State} {mth : MethodId} {args : Array Value} {below : List Frame} {meth : Method} {c : Code} {E : EE} {G : GG} {r9 : Unit} {m9 : MM} (C : Cx E G p s mth args meth c cX0_noteNotGiven RX0 "noteNotGiven" 4 none) : ∀ (fu : Nat) (x0 : Nat) (x1 : Nat) (x2 : Int32) (m : MM), B_X0_noteNotGiven_2 G fu x0 x1 x2 m = some (r9, m9) → (Ty E G x0 0) → (Ty E G x1 1) → ∀ (H : Heap) (locs : List Loc), Hp E G m s H locs → ∀ ls : Array Slot, lv_has ls 4 [(0, .ref x0), (1, .ref x1), (2, .int x2)] → W p l e rmX0_noteNotGiven s mth args below meth c H locs 0 0 (MQ below (cQv E G m9) args s 0 0 (fun q => E.2.2.1 ≤ q)) (F0 mth 2 ls []) := by
  intro fu
  induction fu with
  | zero =>
    intro x0 x1 x2 m hM
    rw [B_X0_noteNotGiven_2] at hM
    cases hM
  | succ fu ih =>
    intro x0 x1 x2 m hM tx0 tx1 H locs h ls hl
    rw [B_X0_noteNotGiven_2] at hM
    refine lv_iload_n C.1 C.2.1 dX0_noteNotGiven_2 rfl (lv_at hl 2 rfl) ?_
    refine lv_aload_n C.1 C.2.1 dX0_noteNotGiven_3 rfl (lv_at hl 1 rfl) ?_
    refine gt_1_13 C h tx1 fl_X0_105 dX0_noteNotGiven_4 ?_
    refine lv_icmp_ge (tgt := 64) C.1 C.2.1 dX0_noteNotGiven_7 (by decide) (fun q => ?_) (fun q => ?_)
    · have hM := ite_t q hM
      obtain ⟨rfl, rfl⟩ := so_inj hM
      exact h_vret C h dX0_noteNotGiven_64
    · have hM := ite_f q hM
      refine lv_iconst (v := 0) C.1 C.2.1 dX0_noteNotGiven_10 (by decide) ?_
      refine lv_istore_n (lv' := [(3, .int 0), (0, .ref x0), (1, .ref x1), (2, .int x2)]) C.1 C.2.1 dX0_noteNotGiven_11 rfl hl (by decide) rfl (fun ls hl => ?_)
      exact cB_X0_noteNotGiven_12 C ih _ _ _ _ _ _ hM tx0 tx1 _ _ h ls (lv_sub hl [1, 2, 3, 0] rfl)
def M_X0_noteNotGiven (G : GG) (x0 : Nat) (x1 : Nat) (m : MM) : Option (Unit × MM) :=
  B_X0_noteNotGiven_2 G FU x0 x1 0 m
set_option maxRecDepth 100000 in
set_option maxHeartbeats 4000000 in
theorem cM_X0_noteNotGiven {p : Program} {l : Launch} {e : Env} {s : State} {mth : MethodId} {args : Array Value} {below : List Frame} {meth : Method} {c : Code} {E : EE} {G : GG} {r9 : Unit} {m9 : MM} (C : Cx E G p s mth args meth c cX0_noteNotGiven RX0 "noteNotGiven" 4 none) {x0 : Nat} {x1 : Nat} {m : MM} (hM : M_X0_noteNotGiven G x0 x1 m = some (r9, m9)) (tx0 : Ty E G x0 0) (tx1 : Ty E G x1 1) : ∀ (H : Heap) (locs : List Loc), Hp E G m s H locs → ∀ ls : Array Slot, lv_has ls 4 [(0, .ref x0), (1, .ref x1)] → W p l e rmX0_noteNotGiven s mth args below meth c H locs 0 0 (MQ below (cQv E G m9) args s 0 0 (fun q => E.2.2.1 ≤ q)) (F0 mth 0 ls []) := by
  intro H locs h ls hl
  unfold M_X0_noteNotGiven at hM
  refine lv_iconst (v := 0) C.1 C.2.1 dX0_noteNotGiven_0 (by decide) ?_
  refine lv_istore_n (lv' := [(2, .int 0), (0, .ref x0), (1, .ref x1)]) C.1 C.2.1 dX0_noteNotGiven_1 rfl hl (by decide) rfl (fun ls hl => ?_)
  exact cB_X0_noteNotGiven_2 C _ _ _ _ _ hM tx0 tx1 _ _ h ls (lv_sub hl [1, 2, 0] rfl)
theorem cy_X0_noteNotGiven : Cy yX0_noteNotGiven cX0_noteNotGiven 4 none 1 := ⟨cd_yX0_noteNotGiven, ii_X0, by decide, by decide, by decide +kernel⟩
set_option maxRecDepth 100000 in
theorem c_X0_noteNotGiven {l : Launch} {E : EE} {G : GG} {x0 : Nat} {x1 : Nat} {m m9 : MM} {r9 : Unit} (hM : M_X0_noteNotGiven G x0 x1 m = some (r9, m9)) (tx0 : Ty E G x0 0) (tx1 : Ty E G x1 1) : Mc l E yX0_noteNotGiven cX0_noteNotGiven 4 none rmX0_noteNotGiven [.ref x0, .ref x1] G m (cQv E G m9) := M_of (by decide) (Nat.le_of_ble_eq_true rfl) (fun p e s mth below meth c C h ls hl => cM_X0_noteNotGiven C hM tx0 tx1 _ _ h ls hl)
abbrev rmX0_bind : Room := { frames := 6, cells := 0, slots := 0, locals := 138 }
def B_X0_bind_69 (G : GG) : Nat → Nat → Int32 → MM → Option (Unit × MM)
  | 0, _, _, _ => none
  | fu + 1, x0, x3, m =>
    nb (gR m x0 0) fun b_1 =>
      if (gI m b_1 3) ≤ x3 then
        some ((), m)
      else
        bd (M_X6_enumAt G b_1 x3 m) fun r_2 m_3 =>
          el r_2 (
            B_X0_bind_69 G fu x0 (x3 + 1) m_3
          ) fun b_6 =>
            nb (gR m_3 b_6 10) fun b_7 =>
              bd (M_X0_noteTwice G x0 b_7 (gI m_3 b_6 11) m_3) fun _ m_9 =>
                bd (M_X0_noteNotGiven G x0 b_6 m_9) fun _ m_11 =>
                  B_X0_bind_69 G fu x0 (x3 + 1) m_11
set_option maxRecDepth 100000 in
set_option maxHeartbeats 4000000 in
theorem cB_X0_bind_69 {p : Program} {l : Launch} {e : Env} {s : State} {mth : MethodId} {args : Array Value} {below : List Frame} {meth : Method} {c : Code} {E : EE} {G : GG} {r9 : Unit} {m9 : MM} (C : Cx E G p s mth args meth c cX0_bind RX0 "bind" 5 none) : ∀ (fu : Nat) (x0 : Nat) (x3 : Int32) (m : MM), B_X0_bind_69 G fu x0 x3 m = some (r9, m9) → (Ty E G x0 0) → ∀ (H : Heap) (locs : List Loc), Hp E G m s H locs → ∀ ls : Array Slot, lv_has ls 5 [(0, .ref x0), (3, .int x3)] → W p l e rmX0_bind s mth args below meth c H locs 0 0 (MQ below (cQv E G m9) args s 0 0 (fun q => E.2.2.1 ≤ q)) (F0 mth 69 ls []) := by
  intro fu
  induction fu with
  | zero =>
    intro x0 x3 m hM
    rw [B_X0_bind_69] at hM
    cases hM
  | succ fu ih =>
    intro x0 x3 m hM tx0 H locs h ls hl
    rw [B_X0_bind_69] at hM
    refine lv_iload_n C.1 C.2.1 dX0_bind_69 rfl (lv_at hl 1 rfl) ?_
    refine lv_aload_n C.1 C.2.1 dX0_bind_70 rfl (lv_at hl 0 rfl) ?_
    refine gt_0_0 C h tx0 fl_X0_9 dX0_bind_71 ?_
    obtain ⟨b_1, hb_1, hM⟩ := nb_some hM
    have tb_1 : Ty E G b_1 6 := (fun b hb => tyf h tx0 hb) _ hb_1
    refine st_ref hb_1 ?_
    refine gt_6_3 C h tb_1 fl_X0_44 dX0_bind_74 ?_
    refine lv_icmp_ge (tgt := 121) C.1 C.2.1 dX0_bind_77 (by decide) (fun q => ?_) (fun q => ?_)
    · have hM := ite_t q hM
      obtain ⟨rfl, rfl⟩ := so_inj hM
      exact h_vret C h dX0_bind_121
    · have hM := ite_f q hM
      refine lv_aload_n C.1 C.2.1 dX0_bind_80 rfl (lv_at hl 0 rfl) ?_
      refine gt_0_0 C h tx0 fl_X0_9 dX0_bind_81 ?_
      refine st_ref hb_1 ?_
      refine lv_iload_n C.1 C.2.1 dX0_bind_84 rfl (lv_at hl 1 rfl) ?_
      obtain ⟨r_2, m_3, hc_2, hM⟩ := bd_some hM
      refine h_callVq C h (As := [.int x3]) (rest := []) r_2 1 m_3 (c_X6_enumAt hc_2 tb_1) 6 rfl (by decide) tb_1 im_yX6_enumAt se_yX6_enumAt cy_X6_enumAt rfl ml_X0_51 ⟨by decide, by decide⟩ ⟨Nat.zero_le _, Nat.zero_le _⟩ hl.1 rfl (Nat.le_of_ble_eq_true rfl) dX0_bind_85 (fun tq_2 H locs h => ?_)
      have tq_4 : ∀ b, r_2 = some b → Ty E G b 1 := tq_2
      refine h_astore (lv' := [(4, va_rf r_2), (0, .ref x0), (3, .int x3)]) C.1 C.2.1 dX0_bind_88 hl (by decide) rfl (fun ls hl => ?_)
      refine h_aload C.1 C.2.1 dX0_bind_90 (lv_at hl 0 rfl) ?_
      have tq_5 : ∀ b, r_2 = some b → Ty E G b 1 := tq_4
      refine h_ifnull (tgt := 115) (x := r_2) C.1 C.2.1 dX0_bind_92 (by decide) (fun q => ?_) (fun b_6 hb_6 => ?_)
      · have hM := el_none q hM
        refine lv_iinc (v := x3 + 1) (lv' := [(3, .int (x3 + 1)), (4, va_rf r_2), (0, .ref x0)]) C.1 C.2.1 dX0_bind_115 hl (k := 2) rfl rfl (by decide) rfl (fun ls hl => ?_)
        refine lv_goto (tgt := 69) C.1 C.2.1 dX0_bind_118 (by decide) ?_
        exact ih _ _ _ hM tx0 _ _ h ls (lv_sub hl [2, 0] rfl)
      · have hM := el_some hb_6 hM
        have tb_6 := tq_5 _ hb_6
        refine lv_aload_n C.1 C.2.1 dX0_bind_95 rfl (lv_at hl 1 rfl) ?_
        refine h_aload C.1 C.2.1 dX0_bind_96 (lv_at hl 0 rfl) ?_
        refine st_ref hb_6 ?_
        refine gt_1_10 C h tb_6 fl_X0_55 dX0_bind_98 ?_
        obtain ⟨b_7, hb_7, hM⟩ := nb_some hM
        have tb_7 : Ty E G b_7 12 := (fun b hb => tyf h tb_6 hb) _ hb_7
        refine st_ref hb_7 ?_
        refine h_aload C.1 C.2.1 dX0_bind_101 (lv_at hl 0 rfl) ?_
        refine st_ref hb_6 ?_
        refine gt_1_11 C h tb_6 fl_X0_60 dX0_bind_103 ?_
        obtain ⟨r_8, m_9, hc_8, hM⟩ := bd_some hM
        refine h_callVv C h (As := [.ref b_7, .int (gI m_3 b_6 11)]) (rest := []) m_9 (c_X0_noteTwice hc_8 tx0 tb_7) 0 rfl (by decide) tx0 im_yX0_noteTwice se_yX0_noteTwice cy_X0_noteTwice rfl ml_X0_47 ⟨by decide, by decide⟩ ⟨Nat.zero_le _, Nat.zero_le _⟩ hl.1 rfl (Nat.le_of_ble_eq_true rfl) dX0_bind_106 (fun H locs h => ?_)
        refine lv_aload_n C.1 C.2.1 dX0_bind_109 rfl (lv_at hl 1 rfl) ?_
        refine h_aload C.1 C.2.1 dX0_bind_110 (lv_at hl 0 rfl) ?_
        refine st_ref hb_6 ?_
        obtain ⟨r_10, m_11, hc_10, hM⟩ := bd_some hM
        refine h_callVv C h (As := [.ref b_6]) (rest := []) m_11 (c_X0_noteNotGiven hc_10 tx0 tb_6) 0 rfl (by decide) tx0 im_yX0_noteNotGiven se_yX0_noteNotGiven cy_X0_noteNotGiven rfl ml_X0_63 ⟨by decide, by decide⟩ ⟨Nat.zero_le _, Nat.zero_le _⟩ hl.1 rfl (Nat.le_of_ble_eq_true rfl) dX0_bind_112 (fun H locs h => ?_)
        refine lv_iinc (v := x3 + 1) (lv' := [(3, .int (x3 + 1)), (4, va_rf r_2), (0, .ref x0)]) C.1 C.2.1 dX0_bind_115 hl (k := 2) rfl rfl (by decide) rfl (fun ls hl => ?_)
        refine lv_goto (tgt := 69) C.1 C.2.1 dX0_bind_118 (by decide) ?_
        exact ih _ _ _ hM tx0 _ _ h ls (lv_sub hl [2, 0] rfl)
def B_X0_bind_27 (G : GG) : Nat → Nat → Int32 → MM → Option (Unit × MM)
  | 0, _, _, _ => none
  | fu + 1, x0, x3, m =>
    nb (gR m x0 0) fun b_12 =>
      if (gI m b_12 4) ≤ x3 then
        nb (gR m b_12 1) fun b_13 =>
          bd (M_X0_noteTwice G x0 b_13 (gI m b_12 3) m) fun _ m_15 =>
            B_X0_bind_69 G FU x0 0 m_15
      else
        bd (M_X0_bindOp G x0 x3 m) fun _ m_17 =>
          B_X0_bind_27 G fu x0 (x3 + 1) m_17
set_option maxRecDepth 100000 in
set_option maxHeartbeats 4000000 in
theorem cB_X0_bind_27 {p : Program} {l : Launch} {e : Env} {s : State} {mth : MethodId} {args : Array Value} {below : List Frame} {meth : Method} {c : Code} {E : EE} {G : GG} {r9 : Unit} {m9 : MM} (C : Cx E G p s mth args meth c cX0_bind RX0 "bind" 5 none) : ∀ (fu : Nat) (x0 : Nat) (x3 : Int32) (m : MM), B_X0_bind_27 G fu x0 x3 m = some (r9, m9) → (Ty E G x0 0) → ∀ (H : Heap) (locs : List Loc), Hp E G m s H locs → ∀ ls : Array Slot, lv_has ls 5 [(0, .ref x0), (3, .int x3)] → W p l e rmX0_bind s mth args below meth c H locs 0 0 (MQ below (cQv E G m9) args s 0 0 (fun q => E.2.2.1 ≤ q)) (F0 mth 27 ls []) := by
  intro fu
  induction fu with
  | zero =>
    intro x0 x3 m hM
    rw [B_X0_bind_27] at hM
    cases hM
  | succ fu ih =>
    intro x0 x3 m hM tx0 H locs h ls hl
    rw [B_X0_bind_27] at hM
    refine lv_iload_n C.1 C.2.1 dX0_bind_27 rfl (lv_at hl 1 rfl) ?_
    refine lv_aload_n C.1 C.2.1 dX0_bind_28 rfl (lv_at hl 0 rfl) ?_
    refine gt_0_0 C h tx0 fl_X0_9 dX0_bind_29 ?_
    obtain ⟨b_12, hb_12, hM⟩ := nb_some hM
    have tb_12 : Ty E G b_12 6 := (fun b hb => tyf h tx0 hb) _ hb_12
    refine st_ref hb_12 ?_
    refine gt_6_4 C h tb_12 fl_X0_31 dX0_bind_32 ?_
    refine lv_icmp_ge (tgt := 49) C.1 C.2.1 dX0_bind_35 (by decide) (fun q => ?_) (fun q => ?_)
    · have hM := ite_t q hM
      refine lv_aload_n C.1 C.2.1 dX0_bind_49 rfl (lv_at hl 0 rfl) ?_
      refine lv_aload_n C.1 C.2.1 dX0_bind_50 rfl (lv_at hl 0 rfl) ?_
      refine gt_0_0 C h tx0 fl_X0_9 dX0_bind_51 ?_
      refine st_ref hb_12 ?_
      refine gt_6_1 C h tb_12 fl_X0_40 dX0_bind_54 ?_
      obtain ⟨b_13, hb_13, hM⟩ := nb_some hM
      have tb_13 : Ty E G b_13 12 := (fun b hb => tyf h tb_12 hb) _ hb_13
      refine st_ref hb_13 ?_
      refine lv_aload_n C.1 C.2.1 dX0_bind_57 rfl (lv_at hl 0 rfl) ?_
      refine gt_0_0 C h tx0 fl_X0_9 dX0_bind_58 ?_
      refine st_ref hb_12 ?_
      refine gt_6_3 C h tb_12 fl_X0_44 dX0_bind_61 ?_
      obtain ⟨r_14, m_15, hc_14, hM⟩ := bd_some hM
      refine h_callVv C h (As := [.ref b_13, .int (gI m b_12 3)]) (rest := []) m_15 (c_X0_noteTwice hc_14 tx0 tb_13) 0 rfl (by decide) tx0 im_yX0_noteTwice se_yX0_noteTwice cy_X0_noteTwice rfl ml_X0_47 ⟨by decide, by decide⟩ ⟨Nat.zero_le _, Nat.zero_le _⟩ hl.1 rfl (Nat.le_of_ble_eq_true rfl) dX0_bind_64 (fun H locs h => ?_)
      refine lv_iconst (v := 0) C.1 C.2.1 dX0_bind_67 (by decide) ?_
      refine lv_istore_n (lv' := [(3, .int 0), (0, .ref x0)]) C.1 C.2.1 dX0_bind_68 rfl hl (by decide) rfl (fun ls hl => ?_)
      exact cB_X0_bind_69 C _ _ _ _ hM tx0 _ _ h ls (lv_sub hl [1, 0] rfl)
    · have hM := ite_f q hM
      refine lv_aload_n C.1 C.2.1 dX0_bind_38 rfl (lv_at hl 0 rfl) ?_
      refine lv_iload_n C.1 C.2.1 dX0_bind_39 rfl (lv_at hl 1 rfl) ?_
      obtain ⟨r_16, m_17, hc_16, hM⟩ := bd_some hM
      refine h_callVv C h (As := [.int x3]) (rest := []) m_17 (c_X0_bindOp hc_16 tx0) 0 rfl (by decide) tx0 im_yX0_bindOp se_yX0_bindOp cy_X0_bindOp rfl ml_X0_36 ⟨by decide, by decide⟩ ⟨Nat.zero_le _, Nat.zero_le _⟩ hl.1 rfl (Nat.le_of_ble_eq_true rfl) dX0_bind_40 (fun H locs h => ?_)
      refine lv_iinc (v := x3 + 1) (lv' := [(3, .int (x3 + 1)), (0, .ref x0)]) C.1 C.2.1 dX0_bind_43 hl (k := 1) rfl rfl (by decide) rfl (fun ls hl => ?_)
      refine lv_goto (tgt := 27) C.1 C.2.1 dX0_bind_46 (by decide) ?_
      exact ih _ _ _ hM tx0 _ _ h ls (lv_sub hl [1, 0] rfl)
def M_X0_bind (G : GG) (x0 : Nat) (x1 : Nat) (x2 : Nat) (m : MM) : Option (Unit × MM) :=
  B_X0_bind_27 G FU x0 0 (sI (sI (sR (sR (sR m x0 0 (some x1)) x0 1 (some x2)) x0 2 none) x0 3 0) x0 4 (bz false))
set_option maxRecDepth 100000 in
set_option maxHeartbeats 4000000 in
theorem cM_X0_bind {p : Program} {l : Launch} {e : Env} {s : State} {mth : MethodId} {args : Array Value} {below : List Frame} {meth : Method} {c : Code} {E : EE} {G : GG} {r9 : Unit} {m9 : MM} (C : Cx E G p s mth args meth c cX0_bind RX0 "bind" 5 none) {x0 : Nat} {x1 : Nat} {x2 : Nat} {m : MM} (hM : M_X0_bind G x0 x1 x2 m = some (r9, m9)) (tx0 : Ty E G x0 0) (tx1 : Ty E G x1 6) (tx2 : Ty E G x2 3) : ∀ (H : Heap) (locs : List Loc), Hp E G m s H locs → ∀ ls : Array Slot, lv_has ls 5 [(0, .ref x0), (1, .ref x1), (2, .ref x2)] → W p l e rmX0_bind s mth args below meth c H locs 0 0 (MQ below (cQv E G m9) args s 0 0 (fun q => E.2.2.1 ≤ q)) (F0 mth 0 ls []) := by
  intro H locs h ls hl
  unfold M_X0_bind at hM
  refine lv_aload_n C.1 C.2.1 dX0_bind_0 rfl (lv_at hl 0 rfl) ?_
  refine lv_aload_n C.1 C.2.1 dX0_bind_1 rfl (lv_at hl 1 rfl) ?_
  refine st_some ?_
  refine pt_0_0 C h (fun b hb => by cases hb; exact tx1) tx0 fl_X0_9 dX0_bind_2 (fun H locs h => ?_)
  refine lv_aload_n C.1 C.2.1 dX0_bind_5 rfl (lv_at hl 0 rfl) ?_
  refine lv_aload_n C.1 C.2.1 dX0_bind_6 rfl (lv_at hl 2 rfl) ?_
  refine st_some ?_
  refine pt_0_1 C h (fun b hb => by cases hb; exact tx2) tx0 fl_X0_15 dX0_bind_7 (fun H locs h => ?_)
  refine lv_aload_n C.1 C.2.1 dX0_bind_10 rfl (lv_at hl 0 rfl) ?_
  refine lv_null C.1 C.2.1 dX0_bind_11 ?_
  refine st_null ?_
  refine pt_0_2 C h (fun b hb => by cases hb) tx0 fl_X0_19 dX0_bind_12 (fun H locs h => ?_)
  refine lv_aload_n C.1 C.2.1 dX0_bind_15 rfl (lv_at hl 0 rfl) ?_
  refine lv_iconst (v := 0) C.1 C.2.1 dX0_bind_16 (by decide) ?_
  refine pt_0_3 C h tx0 fl_X0_23 dX0_bind_17 (fun H locs h => ?_)
  refine lv_aload_n C.1 C.2.1 dX0_bind_20 rfl (lv_at hl 0 rfl) ?_
  refine lv_iconst (v := 0) C.1 C.2.1 dX0_bind_21 (by decide) ?_
  refine pt_0_4 C h (v := bz false) (bz_ok _) tx0 fl_X0_27 dX0_bind_22 (fun H locs h => ?_)
  refine lv_iconst (v := 0) C.1 C.2.1 dX0_bind_25 (by decide) ?_
  refine lv_istore_n (lv' := [(3, .int 0), (0, .ref x0), (1, .ref x1), (2, .ref x2)]) C.1 C.2.1 dX0_bind_26 rfl hl (by decide) rfl (fun ls hl => ?_)
  exact cB_X0_bind_27 C _ _ _ _ hM tx0 _ _ h ls (lv_sub hl [1, 0] rfl)
theorem cy_X0_bind : Cy yX0_bind cX0_bind 5 none 2 := ⟨cd_yX0_bind, ii_X0, by decide, by decide, by decide +kernel⟩
set_option maxRecDepth 100000 in
theorem c_X0_bind {l : Launch} {E : EE} {G : GG} {x0 : Nat} {x1 : Nat} {x2 : Nat} {m m9 : MM} {r9 : Unit} (hM : M_X0_bind G x0 x1 x2 m = some (r9, m9)) (tx0 : Ty E G x0 0) (tx1 : Ty E G x1 6) (tx2 : Ty E G x2 3) : Mc l E yX0_bind cX0_bind 5 none rmX0_bind [.ref x0, .ref x1, .ref x2] G m (cQv E G m9) := M_of (by decide) (Nat.le_of_ble_eq_true rfl) (fun p e s mth below meth c C h ls hl => cM_X0_bind C hM tx0 tx1 tx2 _ _ h ls hl)
