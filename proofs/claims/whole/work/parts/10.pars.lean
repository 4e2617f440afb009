abbrev rmX5_openEnum : Room := { frames := 2, cells := 0, slots := 0, locals := 41 }
def M_X5_openEnum (G : GG) (x0 : Nat) (m : MM) : Option (Bool × MM) :=
  nb (gR m x0 0) fun b_1 =>
    if (gI m b_1 3) = 128 then
      nb (gR m x0 2) fun b_2 =>
        if (gI m b_2 3) < 8 then
          bd (M_X6_put G b_2 12 (gI m b_2 3) m) fun r_3 m_4 =>
            nb (gR m_4 x0 2) fun b_5 =>
              nb (gR m_4 x0 0) fun b_6 =>
                bd (M_X6_addEnum G b_5 (gI m_4 b_6 4) m_4) fun r_7 m_8 =>
                  el (gR (sR m_8 x0 4 r_7) x0 4) (
                    some (false, sR m_8 x0 4 r_7)
                  ) fun b_11 =>
                    nb (gR (sR m_8 x0 4 r_7) x0 0) fun b_12 =>
                      bd (M_X9_advance G b_12 (sR m_8 x0 4 r_7)) fun r_13 m_14 =>
                        if r_13 = true then
                          some (true, m_14)
                        else
                          some (false, m_14)
        else
          some (false, m)
    else
      some (false, m)
set_option maxRecDepth 100000 in
set_option maxHeartbeats 4000000 in
theorem cM_X5_openEnum {p : Program} {l : Launch} {e : Env} {s : State} {mth : MethodId} {args : Array Value} {below : List Frame} {meth : Method} {c : Code} {E : EE} {G : GG} {r9 : Bool} {m9 : MM} (C : Cx E G p s mth args meth c cX5_openEnum RX5 "openEnum" 1 (some .boolean)) {x0 : Nat} {m : MM} (hM : M_X5_openEnum G x0 m = some (r9, m9)) (tx0 : Ty E G x0 5) : ∀ (H : Heap) (locs : List Loc), Hp E G m s H locs → ∀ ls : Array Slot, lv_has ls 1 [(0, .ref x0)] → W p l e rmX5_openEnum s mth args below meth c H locs 0 0 (MQ below (cQi E (bz r9) G m9) args s 0 0 (fun q => E.2.2.1 ≤ q)) (F0 mth 0 ls []) := by
  intro H locs h ls hl
  unfold M_X5_openEnum at hM
  refine lv_aload_n C.1 C.2.1 dX5_openEnum_0 rfl (lv_at hl 0 rfl) ?_
  refine gt_5_0 C h tx0 fl_X5_12 dX5_openEnum_1 ?_
  obtain ⟨b_1, hb_1, hM⟩ := nb_some hM
  have tb_1 : Ty E G b_1 9 := (fun b hb => tyf h tx0 hb) _ hb_1
  refine st_ref hb_1 ?_
  refine gt_9_3 C h tb_1 fl_X5_47 dX5_openEnum_4 ?_
  refine lv_sipush (v := 128) C.1 C.2.1 dX5_openEnum_7 (by decide) ?_
  refine lv_icmp_ne (tgt := 25) C.1 C.2.1 dX5_openEnum_10 (by decide) (fun q => ?_) (fun q => ?_)
  · have hM := ite_f q hM
    refine lv_iconst (v := 0) C.1 C.2.1 dX5_openEnum_25 (by decide) ?_
    obtain ⟨rfl, rfl⟩ := so_inj hM
    exact h_zret C h (bz_ok _).1 dX5_openEnum_26
  · have hM := ite_t q hM
    refine lv_aload_n C.1 C.2.1 dX5_openEnum_13 rfl (lv_at hl 0 rfl) ?_
    refine gt_5_2 C h tx0 fl_X5_25 dX5_openEnum_14 ?_
    obtain ⟨b_2, hb_2, hM⟩ := nb_some hM
    have tb_2 : Ty E G b_2 6 := (fun b hb => tyf h tx0 hb) _ hb_2
    refine st_ref hb_2 ?_
    refine gt_6_3 C h tb_2 fl_X5_74 dX5_openEnum_17 ?_
    refine lv_bipush (v := 8) C.1 C.2.1 dX5_openEnum_20 (by decide) ?_
    refine lv_icmp_lt (tgt := 27) C.1 C.2.1 dX5_openEnum_22 (by decide) (fun q => ?_) (fun q => ?_)
    · have hM := ite_t q hM
      refine lv_aload_n C.1 C.2.1 dX5_openEnum_27 rfl (lv_at hl 0 rfl) ?_
      refine gt_5_2 C h tx0 fl_X5_25 dX5_openEnum_28 ?_
      refine st_ref hb_2 ?_
      refine lv_bipush (v := 12) C.1 C.2.1 dX5_openEnum_31 (by decide) ?_
      refine lv_aload_n C.1 C.2.1 dX5_openEnum_33 rfl (lv_at hl 0 rfl) ?_
      refine gt_5_2 C h tx0 fl_X5_25 dX5_openEnum_34 ?_
      refine st_ref hb_2 ?_
      refine gt_6_3 C h tb_2 fl_X5_74 dX5_openEnum_37 ?_
      obtain ⟨r_3, m_4, hc_3, hM⟩ := bd_some hM
      refine h_callVi C h (As := [.int 12, .int (gI m b_2 3)]) (rest := []) (bz r_3) m_4 (c_X6_put hc_3 tb_2) 6 rfl (by decide) tb_2 im_yX6_put se_yX6_put cy_X6_put rfl ml_X5_79 ⟨by decide, by decide⟩ ⟨Nat.zero_le _, Nat.zero_le _⟩ hl.1 rfl (Nat.le_of_ble_eq_true rfl) dX5_openEnum_40 (fun H locs h => ?_)
      refine lv_pop C.1 C.2.1 dX5_openEnum_43 rfl ?_
      refine lv_aload_n C.1 C.2.1 dX5_openEnum_44 rfl (lv_at hl 0 rfl) ?_
      refine lv_aload_n C.1 C.2.1 dX5_openEnum_45 rfl (lv_at hl 0 rfl) ?_
      refine gt_5_2 C h tx0 fl_X5_25 dX5_openEnum_46 ?_
      obtain ⟨b_5, hb_5, hM⟩ := nb_some hM
      have tb_5 : Ty E G b_5 6 := (fun b hb => tyf h tx0 hb) _ hb_5
      refine st_ref hb_5 ?_
      refine lv_aload_n C.1 C.2.1 dX5_openEnum_49 rfl (lv_at hl 0 rfl) ?_
      refine gt_5_0 C h tx0 fl_X5_12 dX5_openEnum_50 ?_
      obtain ⟨b_6, hb_6, hM⟩ := nb_some hM
      have tb_6 : Ty E G b_6 9 := (fun b hb => tyf h tx0 hb) _ hb_6
      refine st_ref hb_6 ?_
      refine gt_9_4 C h tb_6 fl_X5_65 dX5_openEnum_53 ?_
      obtain ⟨r_7, m_8, hc_7, hM⟩ := bd_some hM
      refine h_callVq C h (As := [.int (gI m_4 b_6 4)]) (rest := [.ref x0]) r_7 1 m_8 (c_X6_addEnum hc_7 tb_5) 6 rfl (by decide) tb_5 im_yX6_addEnum se_yX6_addEnum cy_X6_addEnum rfl ml_X5_83 ⟨by decide, by decide⟩ ⟨Nat.zero_le _, Nat.zero_le _⟩ hl.1 rfl (Nat.le_of_ble_eq_true rfl) dX5_openEnum_56 (fun tq_7 H locs h => ?_)
      have tq_9 : ∀ b, r_7 = some b → Ty E G b 1 := tq_7
      refine pt_5_4 C h tq_9 tx0 fl_X5_87 dX5_openEnum_59 (fun H locs h => ?_)
      refine lv_aload_n C.1 C.2.1 dX5_openEnum_62 rfl (lv_at hl 0 rfl) ?_
      refine gt_5_4 C h tx0 fl_X5_87 dX5_openEnum_63 ?_
      have tq_10 : ∀ b, gR (sR m_8 x0 4 r_7) x0 4 = some b → Ty E G b 1 := (fun b hb => tyf h tx0 hb)
      refine h_ifnull (tgt := 83) (x := gR (sR m_8 x0 4 r_7) x0 4) C.1 C.2.1 dX5_openEnum_66 (by decide) (fun q => ?_) (fun b_11 hb_11 => ?_)
      · have hM := el_none q hM
        refine lv_iconst (v := 0) C.1 C.2.1 dX5_openEnum_83 (by decide) ?_
        obtain ⟨rfl, rfl⟩ := so_inj hM
        exact h_zret C h (bz_ok _).1 dX5_openEnum_84
      · have hM := el_some hb_11 hM
        have tb_11 := tq_10 _ hb_11
        refine lv_aload_n C.1 C.2.1 dX5_openEnum_69 rfl (lv_at hl 0 rfl) ?_
        refine gt_5_0 C h tx0 fl_X5_12 dX5_openEnum_70 ?_
        obtain ⟨b_12, hb_12, hM⟩ := nb_some hM
        have tb_12 : Ty E G b_12 9 := (fun b hb => tyf h tx0 hb) _ hb_12
        refine st_ref hb_12 ?_
        obtain ⟨r_13, m_14, hc_13, hM⟩ := bd_some hM
        refine h_callVi C h (As := []) (rest := []) (bz r_13) m_14 (c_X9_advance hc_13 tb_12) 9 rfl (by decide) tb_12 im_yX9_advance se_yX9_advance cy_X9_advance rfl ml_X5_91 ⟨by decide, by decide⟩ ⟨Nat.zero_le _, Nat.zero_le _⟩ hl.1 rfl (Nat.le_of_ble_eq_true rfl) dX5_openEnum_73 (fun H locs h => ?_)
        refine h_ifz (tgt := 83) C.1 C.2.1 dX5_openEnum_76 (by decide) (fun q => ?_) (fun q => ?_)
        · have hM := ite_f q hM
          refine lv_iconst (v := 0) C.1 C.2.1 dX5_openEnum_83 (by decide) ?_
          obtain ⟨rfl, rfl⟩ := so_inj hM
          exact h_zret C h (bz_ok _).1 dX5_openEnum_84
        · have hM := ite_t q hM
          refine lv_iconst (v := 1) C.1 C.2.1 dX5_openEnum_79 (by decide) ?_
          refine lv_goto (tgt := 84) C.1 C.2.1 dX5_openEnum_80 (by decide) ?_
          obtain ⟨rfl, rfl⟩ := so_inj hM
          exact h_zret C h (bz_ok _).1 dX5_openEnum_84
    · have hM := ite_f q hM
      refine lv_iconst (v := 0) C.1 C.2.1 dX5_openEnum_25 (by decide) ?_
      obtain ⟨rfl, rfl⟩ := so_inj hM
      exact h_zret C h (bz_ok _).1 dX5_openEnum_26
theorem cy_X5_openEnum : Cy yX5_openEnum cX5_openEnum 1 (some .boolean) 0 := ⟨cd_yX5_openEnum, ii_X5, by decide, by decide, by decide +kernel⟩
set_option maxRecDepth 100000 in
theorem c_X5_openEnum {l : Launch} {E : EE} {G : GG} {x0 : Nat} {m m9 : MM} {r9 : Bool} (hM : M_X5_openEnum G x0 m = some (r9, m9)) (tx0 : Ty E G x0 5) : Mc l E yX5_openEnum cX5_openEnum 1 (some .boolean) rmX5_openEnum [.ref x0] G m (cQi E (bz r9) G m9) := M_of (by decide) (Nat.le_of_ble_eq_true rfl) (fun p e s mth below meth c C h ls hl => cM_X5_openEnum C hM tx0 _ _ h ls hl)
abbrev rmX5_readArg : Room := { frames := 2, cells := 0, slots := 0, locals := 43 }
def B_X5_readArg_59 (G : GG) (x0 : Nat) (m : MM) : Option (Bool × MM) :=
  nb (gR m x0 0) fun b_1 =>
    bd (M_X9_take G b_1 129 m) fun r_2 m_3 =>
      if r_2 = true then
        nb (gR m_3 x0 0) fun b_4 =>
          bd (M_X9_take G b_4 41 m_3) fun r_5 m_6 =>
            if r_5 = true then
              some (true, m_6)
            else
              some (false, m_6)
      else
        some (false, m_3)
set_option maxRecDepth 100000 in
set_option maxHeartbeats 4000000 in
theorem cB_X5_readArg_59 {p : Program} {l : Launch} {e : Env} {s : State} {mth : MethodId} {args : Array Value} {below : List Frame} {meth : Method} {c : Code} {E : EE} {G : GG} {r9 : Bool} {m9 : MM} (C : Cx E G p s mth args meth c cX5_readArg RX5 "readArg" 2 (some .boolean)) {x0 : Nat} {m : MM} (hM : B_X5_readArg_59 G x0 m = some (r9, m9)) (tx0 : Ty E G x0 5) : ∀ (H : Heap) (locs : List Loc), Hp E G m s H locs → ∀ ls : Array Slot, lv_has ls 2 [(0, .ref x0)] → W p l e rmX5_readArg s mth args below meth c H locs 0 0 (MQ below (cQi E (bz r9) G m9) args s 0 0 (fun q => E.2.2.1 ≤ q)) (F0 mth 59 ls []) := by
  intro H locs h ls hl
  unfold B_X5_readArg_59 at hM
  refine lv_aload_n C.1 C.2.1 dX5_readArg_59 rfl (lv_at hl 0 rfl) ?_
  refine gt_5_0 C h tx0 fl_X5_12 dX5_readArg_60 ?_
  obtain ⟨b_1, hb_1, hM⟩ := nb_some hM
  have tb_1 : Ty E G b_1 9 := (fun b hb => tyf h tx0 hb) _ hb_1
  refine st_ref hb_1 ?_
  refine lv_sipush (v := 129) C.1 C.2.1 dX5_readArg_63 (by decide) ?_
  obtain ⟨r_2, m_3, hc_2, hM⟩ := bd_some hM
  refine h_callVi C h (As := [.int 129]) (rest := []) (bz r_2) m_3 (c_X9_take hc_2 tb_1) 9 rfl (by decide) tb_1 im_yX9_take se_yX9_take cy_X9_take rfl ml_X5_51 ⟨by decide, by decide⟩ ⟨Nat.zero_le _, Nat.zero_le _⟩ hl.1 rfl (Nat.le_of_ble_eq_true rfl) dX5_readArg_66 (fun H locs h => ?_)
  refine h_ifz (tgt := 88) C.1 C.2.1 dX5_readArg_69 (by decide) (fun q => ?_) (fun q => ?_)
  · have hM := ite_f q hM
    refine lv_iconst (v := 0) C.1 C.2.1 dX5_readArg_88 (by decide) ?_
    obtain ⟨rfl, rfl⟩ := so_inj hM
    exact h_zret C h (bz_ok _).1 dX5_readArg_89
  · have hM := ite_t q hM
    refine lv_aload_n C.1 C.2.1 dX5_readArg_72 rfl (lv_at hl 0 rfl) ?_
    refine gt_5_0 C h tx0 fl_X5_12 dX5_readArg_73 ?_
    obtain ⟨b_4, hb_4, hM⟩ := nb_some hM
    have tb_4 : Ty E G b_4 9 := (fun b hb => tyf h tx0 hb) _ hb_4
    refine st_ref hb_4 ?_
    refine lv_bipush (v := 41) C.1 C.2.1 dX5_readArg_76 (by decide) ?_
    obtain ⟨r_5, m_6, hc_5, hM⟩ := bd_some hM
    refine h_callVi C h (As := [.int 41]) (rest := []) (bz r_5) m_6 (c_X9_take hc_5 tb_4) 9 rfl (by decide) tb_4 im_yX9_take se_yX9_take cy_X9_take rfl ml_X5_51 ⟨by decide, by decide⟩ ⟨Nat.zero_le _, Nat.zero_le _⟩ hl.1 rfl (Nat.le_of_ble_eq_true rfl) dX5_readArg_78 (fun H locs h => ?_)
    refine h_ifz (tgt := 88) C.1 C.2.1 dX5_readArg_81 (by decide) (fun q => ?_) (fun q => ?_)
    · have hM := ite_f q hM
      refine lv_iconst (v := 0) C.1 C.2.1 dX5_readArg_88 (by decide) ?_
      obtain ⟨rfl, rfl⟩ := so_inj hM
      exact h_zret C h (bz_ok _).1 dX5_readArg_89
    · have hM := ite_t q hM
      refine lv_iconst (v := 1) C.1 C.2.1 dX5_readArg_84 (by decide) ?_
      refine lv_goto (tgt := 89) C.1 C.2.1 dX5_readArg_85 (by decide) ?_
      obtain ⟨rfl, rfl⟩ := so_inj hM
      exact h_zret C h (bz_ok _).1 dX5_readArg_89
def M_X5_readArg (G : GG) (x0 : Nat) (m : MM) : Option (Bool × MM) :=
  nb (gR m x0 0) fun b_7 =>
    if (gI m b_7 3) = 40 then
      bd (M_X9_advance G b_7 m) fun r_8 m_9 =>
        nb (gR m_9 x0 4) fun b_10 =>
          bd (M_X1_hasConstant G b_10 ((gI m_9 b_10 12) - 1) m_9) fun r_11 m_12 =>
            if r_11 = true then
              nb (gR m_12 x0 4) fun b_13 =>
                nb (gR m_12 b_13 1) fun b_14 =>
                  nb (gR m_12 x0 0) fun b_15 =>
                    ib ((gI m_9 b_10 12) - 1) (G.2.2 b_14) <|
                      B_X5_readArg_59 G x0 (sI m_12 b_14 (((gI m_9 b_10 12) - 1).toNatClampNeg) (gI m_12 b_15 5))
            else
              B_X5_readArg_59 G x0 m_12
    else
      some (true, m)
set_option maxRecDepth 100000 in
set_option maxHeartbeats 4000000 in
theorem cM_X5_readArg {p : Program} {l : Launch} {e : Env} {s : State} {mth : MethodId} {args : Array Value} {below : List Frame} {meth : Method} {c : Code} {E : EE} {G : GG} {r9 : Bool} {m9 : MM} (C : Cx E G p s mth args meth c cX5_readArg RX5 "readArg" 2 (some .boolean)) {x0 : Nat} {m : MM} (hM : M_X5_readArg G x0 m = some (r9, m9)) (tx0 : Ty E G x0 5) : ∀ (H : Heap) (locs : List Loc), Hp E G m s H locs → ∀ ls : Array Slot, lv_has ls 2 [(0, .ref x0)] → W p l e rmX5_readArg s mth args below meth c H locs 0 0 (MQ below (cQi E (bz r9) G m9) args s 0 0 (fun q => E.2.2.1 ≤ q)) (F0 mth 0 ls []) := by
  intro H locs h ls hl
  unfold M_X5_readArg at hM
  refine lv_aload_n C.1 C.2.1 dX5_readArg_0 rfl (lv_at hl 0 rfl) ?_
  refine gt_5_0 C h tx0 fl_X5_12 dX5_readArg_1 ?_
  obtain ⟨b_7, hb_7, hM⟩ := nb_some hM
  have tb_7 : Ty E G b_7 9 := (fun b hb => tyf h tx0 hb) _ hb_7
  refine st_ref hb_7 ?_
  refine gt_9_3 C h tb_7 fl_X5_47 dX5_readArg_4 ?_
  refine lv_bipush (v := 40) C.1 C.2.1 dX5_readArg_7 (by decide) ?_
  refine lv_icmp_eq (tgt := 14) C.1 C.2.1 dX5_readArg_9 (by decide) (fun q => ?_) (fun q => ?_)
  · have hM := ite_t q hM
    refine lv_aload_n C.1 C.2.1 dX5_readArg_14 rfl (lv_at hl 0 rfl) ?_
    refine gt_5_0 C h tx0 fl_X5_12 dX5_readArg_15 ?_
    refine st_ref hb_7 ?_
    obtain ⟨r_8, m_9, hc_8, hM⟩ := bd_some hM
    refine h_callVi C h (As := []) (rest := []) (bz r_8) m_9 (c_X9_advance hc_8 tb_7) 9 rfl (by decide) tb_7 im_yX9_advance se_yX9_advance cy_X9_advance rfl ml_X5_91 ⟨by decide, by decide⟩ ⟨Nat.zero_le _, Nat.zero_le _⟩ hl.1 rfl (Nat.le_of_ble_eq_true rfl) dX5_readArg_18 (fun H locs h => ?_)
    refine lv_pop C.1 C.2.1 dX5_readArg_21 rfl ?_
    refine lv_aload_n C.1 C.2.1 dX5_readArg_22 rfl (lv_at hl 0 rfl) ?_
    refine gt_5_4 C h tx0 fl_X5_87 dX5_readArg_23 ?_
    obtain ⟨b_10, hb_10, hM⟩ := nb_some hM
    have tb_10 : Ty E G b_10 1 := (fun b hb => tyf h tx0 hb) _ hb_10
    refine st_ref hb_10 ?_
    refine gt_1_12 C h tb_10 fl_X5_105 dX5_readArg_26 ?_
    refine lv_iconst (v := 1) C.1 C.2.1 dX5_readArg_29 (by decide) ?_
    refine lv_isub C.1 C.2.1 dX5_readArg_30 ?_
    refine lv_istore_n (lv' := [(1, .int ((gI m_9 b_10 12) - 1)), (0, .ref x0)]) C.1 C.2.1 dX5_readArg_31 rfl hl (by decide) rfl (fun ls hl => ?_)
    refine lv_aload_n C.1 C.2.1 dX5_readArg_32 rfl (lv_at hl 1 rfl) ?_
    refine gt_5_4 C h tx0 fl_X5_87 dX5_readArg_33 ?_
    refine st_ref hb_10 ?_
    refine lv_iload_n C.1 C.2.1 dX5_readArg_36 rfl (lv_at hl 0 rfl) ?_
    obtain ⟨r_11, m_12, hc_11, hM⟩ := bd_some hM
    refine h_callVi C h (As := [.int ((gI m_9 b_10 12) - 1)]) (rest := []) (bz r_11) m_12 (c_X1_hasConstant hc_11 tb_10) 1 rfl (by decide) tb_10 im_yX1_hasConstant se_yX1_hasConstant cy_X1_hasConstant rfl ml_X5_108 ⟨by decide, by decide⟩ ⟨Nat.zero_le _, Nat.zero_le _⟩ hl.1 rfl (Nat.le_of_ble_eq_true rfl) dX5_readArg_37 (fun H locs h => ?_)
    refine h_ifz (tgt := 59) C.1 C.2.1 dX5_readArg_40 (by decide) (fun q => ?_) (fun q => ?_)
    · have hM := ite_f q hM
      exact cB_X5_readArg_59 C hM tx0 _ _ h ls (lv_sub hl [1] rfl)
    · have hM := ite_t q hM
      refine lv_aload_n C.1 C.2.1 dX5_readArg_43 rfl (lv_at hl 1 rfl) ?_
      refine gt_5_4 C h tx0 fl_X5_87 dX5_readArg_44 ?_
      obtain ⟨b_13, hb_13, hM⟩ := nb_some hM
      have tb_13 : Ty E G b_13 1 := (fun b hb => tyf h tx0 hb) _ hb_13
      refine st_ref hb_13 ?_
      refine gt_1_1 C h tb_13 fl_X5_111 dX5_readArg_47 ?_
      obtain ⟨b_14, hb_14, hM⟩ := nb_some hM
      have tb_14 : Ty E G b_14 12 := (fun b hb => tyf h tb_13 hb) _ hb_14
      refine st_ref hb_14 ?_
      refine lv_iload_n C.1 C.2.1 dX5_readArg_50 rfl (lv_at hl 0 rfl) ?_
      refine lv_aload_n C.1 C.2.1 dX5_readArg_51 rfl (lv_at hl 1 rfl) ?_
      refine gt_5_0 C h tx0 fl_X5_12 dX5_readArg_52 ?_
      obtain ⟨b_15, hb_15, hM⟩ := nb_some hM
      have tb_15 : Ty E G b_15 9 := (fun b hb => tyf h tx0 hb) _ hb_15
      refine st_ref hb_15 ?_
      refine gt_9_5 C h tb_15 fl_X5_115 dX5_readArg_55 ?_
      obtain ⟨hi, hM⟩ := ib_some hM
      refine h_iast C h tb_14 hi dX5_readArg_58 (fun H locs h => ?_)
      exact cB_X5_readArg_59 C hM tx0 _ _ h ls (lv_sub hl [1] rfl)
  · have hM := ite_f q hM
    refine lv_iconst (v := 1) C.1 C.2.1 dX5_readArg_12 (by decide) ?_
    obtain ⟨rfl, rfl⟩ := so_inj hM
    exact h_zret C h (bz_ok _).1 dX5_readArg_13
theorem cy_X5_readArg : Cy yX5_readArg cX5_readArg 2 (some .boolean) 0 := ⟨cd_yX5_readArg, ii_X5, by decide, by decide, by decide +kernel⟩
set_option maxRecDepth 100000 in
theorem c_X5_readArg {l : Launch} {E : EE} {G : GG} {x0 : Nat} {m m9 : MM} {r9 : Bool} (hM : M_X5_readArg G x0 m = some (r9, m9)) (tx0 : Ty E G x0 5) : Mc l E yX5_readArg cX5_readArg 2 (some .boolean) rmX5_readArg [.ref x0] G m (cQi E (bz r9) G m9) := M_of (by decide) (Nat.le_of_ble_eq_true rfl) (fun p e s mth below meth c C h ls hl => cM_X5_readArg C hM tx0 _ _ h ls hl)
abbrev rmX5_readBody : Room := { frames := 4, cells := 0, slots := 0, locals := 88 }
def B_X5_readBody_66 (G : GG) : Nat → Nat → Int32 → MM → Option (Bool × MM)
  | 0, _, _, _ => none
  | fu + 1, x0, x2, m =>
    if 2000 ≤ x2 then
      nb (gR m x0 0) fun b_1 =>
        bd (M_X9_take G b_1 125 m) fun r_2 m_3 =>
          some (r_2, m_3)
    else
      nb (gR m x0 0) fun b_4 =>
        if (gI m b_4 3) = 128 then
          nb (gR m x0 2) fun b_7 =>
            bd (M_X6_put G b_7 14 (gI m b_4 4) m) fun r_8 m_9 =>
              nb (gR m_9 x0 0) fun b_10 =>
                bd (M_X9_advance G b_10 m_9) fun r_11 m_12 =>
                  nb (gR m_12 x0 0) fun b_13 =>
                    bd (M_X9_take G b_13 61 m_12) fun r_14 m_15 =>
                      if r_14 = true then
                        nb (gR m_15 x0 1) fun b_16 =>
                          bd (M_X2_read G b_16 0 m_15) fun r_17 m_18 =>
                            if r_17 = true then
                              nb (gR m_18 x0 0) fun b_19 =>
                                bd (M_X9_take G b_19 59 m_18) fun r_20 m_21 =>
                                  if r_20 = true then
                                    B_X5_readBody_66 G fu x0 (x2 + 1) m_21
                                  else
                                    some (false, m_21)
                            else
                              some (false, m_18)
                      else
                        some (false, m_15)
        else
          bd (M_X9_take G b_4 125 m) fun r_5 m_6 =>
            some (r_5, m_6)
set_option maxRecDepth 100000 in
set_option maxHeartbeats 4000000 in
theorem cB_X5_readBody_66 {p : Program} {l : Launch} {e : Env} {s : State} {mth : MethodId} {args : Array Value} {below : List Frame} {meth : Method} {c : Code} {E : EE} {G : GG} {r9 : Bool} {m9 : MM} (C : Cx E G p s mth args meth c cX5_readBody RX5 "readBody" 3 (some .boolean)) : ∀ (fu : Nat) (x0 : Nat) (x2 : Int32) (m : MM), B_X5_readBody_66 G fu x0 x2 m = some (r9, m9) → (Ty E G x0 5) → ∀ (H : Heap) (locs : List Loc), Hp E G m s H locs → ∀ ls : Array Slot, lv_has ls 3 [(0, .ref x0), (2, .int x2)] → W p l e rmX5_readBody s mth args below meth c H locs 0 0 (MQ below (cQi E (bz r9) G m9) args s 0 0 (fun q => E.2.2.1 ≤ q)) (F0 mth 66 ls []) := by
  intro fu
  induction fu with
  | zero =>
    intro x0 x2 m hM
    rw [B_X5_readBody_66] at hM
    cases hM
  | succ fu ih =>
    intro x0 x2 m hM tx0 H locs h ls hl
    rw [B_X5_readBody_66] at hM
    refine lv_iload_n C.1 C.2.1 dX5_readBody_66 rfl (lv_at hl 1 rfl) ?_
    refine lv_sipush (v := 2000) C.1 C.2.1 dX5_readBody_67 (by decide) ?_
    refine lv_icmp_ge (tgt := 154) C.1 C.2.1 dX5_readBody_70 (by decide) (fun q => ?_) (fun q => ?_)
    · have hM := ite_t q hM
      refine lv_aload_n C.1 C.2.1 dX5_readBody_154 rfl (lv_at hl 0 rfl) ?_
      refine gt_5_0 C h tx0 fl_X5_12 dX5_readBody_155 ?_
      obtain ⟨b_1, hb_1, hM⟩ := nb_some hM
      have tb_1 : Ty E G b_1 9 := (fun b hb => tyf h tx0 hb) _ hb_1
      refine st_ref hb_1 ?_
      refine lv_bipush (v := 125) C.1 C.2.1 dX5_readBody_158 (by decide) ?_
      obtain ⟨r_2, m_3, hc_2, hM⟩ := bd_some hM
      refine h_callVi C h (As := [.int 125]) (rest := []) (bz r_2) m_3 (c_X9_take hc_2 tb_1) 9 rfl (by decide) tb_1 im_yX9_take se_yX9_take cy_X9_take rfl ml_X5_51 ⟨by decide, by decide⟩ ⟨Nat.zero_le _, Nat.zero_le _⟩ hl.1 rfl (Nat.le_of_ble_eq_true rfl) dX5_readBody_160 (fun H locs h => ?_)
      obtain ⟨rfl, rfl⟩ := so_inj hM
      exact h_zret C h (bz_ok _).1 dX5_readBody_163
    · have hM := ite_f q hM
      refine lv_aload_n C.1 C.2.1 dX5_readBody_73 rfl (lv_at hl 0 rfl) ?_
      refine gt_5_0 C h tx0 fl_X5_12 dX5_readBody_74 ?_
      obtain ⟨b_4, hb_4, hM⟩ := nb_some hM
      have tb_4 : Ty E G b_4 9 := (fun b hb => tyf h tx0 hb) _ hb_4
      refine st_ref hb_4 ?_
      refine gt_9_3 C h tb_4 fl_X5_47 dX5_readBody_77 ?_
      refine lv_sipush (v := 128) C.1 C.2.1 dX5_readBody_80 (by decide) ?_
      refine lv_icmp_ne (tgt := 154) C.1 C.2.1 dX5_readBody_83 (by decide) (fun q => ?_) (fun q => ?_)
      · have hM := ite_f q hM
        refine lv_aload_n C.1 C.2.1 dX5_readBody_154 rfl (lv_at hl 0 rfl) ?_
        refine gt_5_0 C h tx0 fl_X5_12 dX5_readBody_155 ?_
        refine st_ref hb_4 ?_
        refine lv_bipush (v := 125) C.1 C.2.1 dX5_readBody_158 (by decide) ?_
        obtain ⟨r_5, m_6, hc_5, hM⟩ := bd_some hM
        refine h_callVi C h (As := [.int 125]) (rest := []) (bz r_5) m_6 (c_X9_take hc_5 tb_4) 9 rfl (by decide) tb_4 im_yX9_take se_yX9_take cy_X9_take rfl ml_X5_51 ⟨by decide, by decide⟩ ⟨Nat.zero_le _, Nat.zero_le _⟩ hl.1 rfl (Nat.le_of_ble_eq_true rfl) dX5_readBody_160 (fun H locs h => ?_)
        obtain ⟨rfl, rfl⟩ := so_inj hM
        exact h_zret C h (bz_ok _).1 dX5_readBody_163
      · have hM := ite_t q hM
        refine lv_aload_n C.1 C.2.1 dX5_readBody_86 rfl (lv_at hl 0 rfl) ?_
        refine gt_5_2 C h tx0 fl_X5_25 dX5_readBody_87 ?_
        obtain ⟨b_7, hb_7, hM⟩ := nb_some hM
        have tb_7 : Ty E G b_7 6 := (fun b hb => tyf h tx0 hb) _ hb_7
        refine st_ref hb_7 ?_
        refine lv_bipush (v := 14) C.1 C.2.1 dX5_readBody_90 (by decide) ?_
        refine lv_aload_n C.1 C.2.1 dX5_readBody_92 rfl (lv_at hl 0 rfl) ?_
        refine gt_5_0 C h tx0 fl_X5_12 dX5_readBody_93 ?_
        refine st_ref hb_4 ?_
        refine gt_9_4 C h tb_4 fl_X5_65 dX5_readBody_96 ?_
        obtain ⟨r_8, m_9, hc_8, hM⟩ := bd_some hM
        refine h_callVi C h (As := [.int 14, .int (gI m b_4 4)]) (rest := []) (bz r_8) m_9 (c_X6_put hc_8 tb_7) 6 rfl (by decide) tb_7 im_yX6_put se_yX6_put cy_X6_put rfl ml_X5_79 ⟨by decide, by decide⟩ ⟨Nat.zero_le _, Nat.zero_le _⟩ hl.1 rfl (Nat.le_of_ble_eq_true rfl) dX5_readBody_99 (fun H locs h => ?_)
        refine lv_pop C.1 C.2.1 dX5_readBody_102 rfl ?_
        refine lv_aload_n C.1 C.2.1 dX5_readBody_103 rfl (lv_at hl 0 rfl) ?_
        refine gt_5_0 C h tx0 fl_X5_12 dX5_readBody_104 ?_
        obtain ⟨b_10, hb_10, hM⟩ := nb_some hM
        have tb_10 : Ty E G b_10 9 := (fun b hb => tyf h tx0 hb) _ hb_10
        refine st_ref hb_10 ?_
        obtain ⟨r_11, m_12, hc_11, hM⟩ := bd_some hM
        refine h_callVi C h (As := []) (rest := []) (bz r_11) m_12 (c_X9_advance hc_11 tb_10) 9 rfl (by decide) tb_10 im_yX9_advance se_yX9_advance cy_X9_advance rfl ml_X5_91 ⟨by decide, by decide⟩ ⟨Nat.zero_le _, Nat.zero_le _⟩ hl.1 rfl (Nat.le_of_ble_eq_true rfl) dX5_readBody_107 (fun H locs h => ?_)
        refine lv_pop C.1 C.2.1 dX5_readBody_110 rfl ?_
        refine lv_aload_n C.1 C.2.1 dX5_readBody_111 rfl (lv_at hl 0 rfl) ?_
        refine gt_5_0 C h tx0 fl_X5_12 dX5_readBody_112 ?_
        obtain ⟨b_13, hb_13, hM⟩ := nb_some hM
        have tb_13 : Ty E G b_13 9 := (fun b hb => tyf h tx0 hb) _ hb_13
        refine st_ref hb_13 ?_
        refine lv_bipush (v := 61) C.1 C.2.1 dX5_readBody_115 (by decide) ?_
        obtain ⟨r_14, m_15, hc_14, hM⟩ := bd_some hM
        refine h_callVi C h (As := [.int 61]) (rest := []) (bz r_14) m_15 (c_X9_take hc_14 tb_13) 9 rfl (by decide) tb_13 im_yX9_take se_yX9_take cy_X9_take rfl ml_X5_51 ⟨by decide, by decide⟩ ⟨Nat.zero_le _, Nat.zero_le _⟩ hl.1 rfl (Nat.le_of_ble_eq_true rfl) dX5_readBody_117 (fun H locs h => ?_)
        refine h_ifz (tgt := 146) C.1 C.2.1 dX5_readBody_120 (by decide) (fun q => ?_) (fun q => ?_)
        · have hM := ite_f q hM
          refine lv_iconst (v := 0) C.1 C.2.1 dX5_readBody_146 (by decide) ?_
          obtain ⟨rfl, rfl⟩ := so_inj hM
          exact h_zret C h (bz_ok _).1 dX5_readBody_147
        · have hM := ite_t q hM
          refine lv_aload_n C.1 C.2.1 dX5_readBody_123 rfl (lv_at hl 0 rfl) ?_
          refine gt_5_1 C h tx0 fl_X5_21 dX5_readBody_124 ?_
          obtain ⟨b_16, hb_16, hM⟩ := nb_some hM
          have tb_16 : Ty E G b_16 2 := (fun b hb => tyf h tx0 hb) _ hb_16
          refine st_ref hb_16 ?_
          refine lv_iconst (v := 0) C.1 C.2.1 dX5_readBody_127 (by decide) ?_
          obtain ⟨r_17, m_18, hc_17, hM⟩ := bd_some hM
          refine h_callVi C h (As := [.int 0]) (rest := []) (bz r_17) m_18 (c_X2_read hc_17 tb_16) 2 rfl (by decide) tb_16 im_yX2_read se_yX2_read cy_X2_read rfl ml_X5_122 ⟨by decide, by decide⟩ ⟨Nat.zero_le _, Nat.zero_le _⟩ hl.1 rfl (Nat.le_of_ble_eq_true rfl) dX5_readBody_128 (fun H locs h => ?_)
          refine h_ifz (tgt := 146) C.1 C.2.1 dX5_readBody_131 (by decide) (fun q => ?_) (fun q => ?_)
          · have hM := ite_f q hM
            refine lv_iconst (v := 0) C.1 C.2.1 dX5_readBody_146 (by decide) ?_
            obtain ⟨rfl, rfl⟩ := so_inj hM
            exact h_zret C h (bz_ok _).1 dX5_readBody_147
          · have hM := ite_t q hM
            refine lv_aload_n C.1 C.2.1 dX5_readBody_134 rfl (lv_at hl 0 rfl) ?_
            refine gt_5_0 C h tx0 fl_X5_12 dX5_readBody_135 ?_
            obtain ⟨b_19, hb_19, hM⟩ := nb_some hM
            have tb_19 : Ty E G b_19 9 := (fun b hb => tyf h tx0 hb) _ hb_19
            refine st_ref hb_19 ?_
            refine lv_bipush (v := 59) C.1 C.2.1 dX5_readBody_138 (by decide) ?_
            obtain ⟨r_20, m_21, hc_20, hM⟩ := bd_some hM
            refine h_callVi C h (As := [.int 59]) (rest := []) (bz r_20) m_21 (c_X9_take hc_20 tb_19) 9 rfl (by decide) tb_19 im_yX9_take se_yX9_take cy_X9_take rfl ml_X5_51 ⟨by decide, by decide⟩ ⟨Nat.zero_le _, Nat.zero_le _⟩ hl.1 rfl (Nat.le_of_ble_eq_true rfl) dX5_readBody_140 (fun H locs h => ?_)
            refine h_ifnz (tgt := 148) C.1 C.2.1 dX5_readBody_143 (by decide) (fun q => ?_) (fun q => ?_)
            · have hM := ite_t q hM
              refine lv_iinc (v := x2 + 1) (lv' := [(2, .int (x2 + 1)), (0, .ref x0)]) C.1 C.2.1 dX5_readBody_148 hl (k := 1) rfl rfl (by decide) rfl (fun ls hl => ?_)
              refine lv_goto (tgt := 66) C.1 C.2.1 dX5_readBody_151 (by decide) ?_
              exact ih _ _ _ hM tx0 _ _ h ls (lv_sub hl [1, 0] rfl)
            · have hM := ite_f q hM
              refine lv_iconst (v := 0) C.1 C.2.1 dX5_readBody_146 (by decide) ?_
              obtain ⟨rfl, rfl⟩ := so_inj hM
              exact h_zret C h (bz_ok _).1 dX5_readBody_147
def M_X5_readBody (G : GG) (x0 : Nat) (m : MM) : Option (Bool × MM) :=
  nb (gR m x0 0) fun b_22 =>
    if (gI m b_22 3) = 123 then
      bd (M_X9_advance G b_22 m) fun r_23 m_24 =>
        nb (gR m_24 x0 4) fun b_25 =>
          bd (M_X1_hasConstant G b_25 ((gI m_24 b_25 12) - 1) m_24) fun r_26 m_27 =>
            if r_26 = true then
              nb (gR m_27 x0 4) fun b_31 =>
                nb (gR m_27 b_31 2) fun b_32 =>
                  ib ((gI m_24 b_25 12) - 1) (G.2.2 b_32) <|
                    nb (gR (sI m_27 b_32 (((gI m_24 b_25 12) - 1).toNatClampNeg) (vp_nar .boolean 1)) x0 2) fun b_33 =>
                      bd (M_X6_put G b_33 13 ((gI m_24 b_25 12) - 1) (sI m_27 b_32 (((gI m_24 b_25 12) - 1).toNatClampNeg) (vp_nar .boolean 1))) fun r_34 m_35 =>
                        B_X5_readBody_66 G FU x0 0 m_35
            else
              nb (gR m_27 x0 2) fun b_28 =>
                bd (M_X6_put G b_28 13 ((gI m_24 b_25 12) - 1) m_27) fun r_29 m_30 =>
                  B_X5_readBody_66 G FU x0 0 m_30
    else
      some (true, m)
set_option maxRecDepth 100000 in
set_option maxHeartbeats 4000000 in
theorem cM_X5_readBody {p : Program} {l : Launch} {e : Env} {s : State} {mth : MethodId} {args : Array Value} {below : List Frame} {meth : Method} {c : Code} {E : EE} {G : GG} {r9 : Bool} {m9 : MM} (C : Cx E G p s mth args meth c cX5_readBody RX5 "readBody" 3 (some .boolean)) {x0 : Nat} {m : MM} (hM : M_X5_readBody G x0 m = some (r9, m9)) (tx0 : Ty E G x0 5) : ∀ (H : Heap) (locs : List Loc), Hp E G m s H locs → ∀ ls : Array Slot, lv_has ls 3 [(0, .ref x0)] → W p l e rmX5_readBody s mth args below meth c H locs 0 0 (MQ below (cQi E (bz r9) G m9) args s 0 0 (fun q => E.2.2.1 ≤ q)) (F0 mth 0 ls []) := by
  intro H locs h ls hl
  unfold M_X5_readBody at hM
  refine lv_aload_n C.1 C.2.1 dX5_readBody_0 rfl (lv_at hl 0 rfl) ?_
  refine gt_5_0 C h tx0 fl_X5_12 dX5_readBody_1 ?_
  obtain ⟨b_22, hb_22, hM⟩ := nb_some hM
  have tb_22 : Ty E G b_22 9 := (fun b hb => tyf h tx0 hb) _ hb_22
  refine st_ref hb_22 ?_
  refine gt_9_3 C h tb_22 fl_X5_47 dX5_readBody_4 ?_
  refine lv_bipush (v := 123) C.1 C.2.1 dX5_readBody_7 (by decide) ?_
  refine lv_icmp_eq (tgt := 14) C.1 C.2.1 dX5_readBody_9 (by decide) (fun q => ?_) (fun q => ?_)
  · have hM := ite_t q hM
    refine lv_aload_n C.1 C.2.1 dX5_readBody_14 rfl (lv_at hl 0 rfl) ?_
    refine gt_5_0 C h tx0 fl_X5_12 dX5_readBody_15 ?_
    refine st_ref hb_22 ?_
    obtain ⟨r_23, m_24, hc_23, hM⟩ := bd_some hM
    refine h_callVi C h (As := []) (rest := []) (bz r_23) m_24 (c_X9_advance hc_23 tb_22) 9 rfl (by decide) tb_22 im_yX9_advance se_yX9_advance cy_X9_advance rfl ml_X5_91 ⟨by decide, by decide⟩ ⟨Nat.zero_le _, Nat.zero_le _⟩ hl.1 rfl (Nat.le_of_ble_eq_true rfl) dX5_readBody_18 (fun H locs h => ?_)
    refine lv_pop C.1 C.2.1 dX5_readBody_21 rfl ?_
    refine lv_aload_n C.1 C.2.1 dX5_readBody_22 rfl (lv_at hl 0 rfl) ?_
    refine gt_5_4 C h tx0 fl_X5_87 dX5_readBody_23 ?_
    obtain ⟨b_25, hb_25, hM⟩ := nb_some hM
    have tb_25 : Ty E G b_25 1 := (fun b hb => tyf h tx0 hb) _ hb_25
    refine st_ref hb_25 ?_
    refine gt_1_12 C h tb_25 fl_X5_105 dX5_readBody_26 ?_
    refine lv_iconst (v := 1) C.1 C.2.1 dX5_readBody_29 (by decide) ?_
    refine lv_isub C.1 C.2.1 dX5_readBody_30 ?_
    refine lv_istore_n (lv' := [(1, .int ((gI m_24 b_25 12) - 1)), (0, .ref x0)]) C.1 C.2.1 dX5_readBody_31 rfl hl (by decide) rfl (fun ls hl => ?_)
    refine lv_aload_n C.1 C.2.1 dX5_readBody_32 rfl (lv_at hl 1 rfl) ?_
    refine gt_5_4 C h tx0 fl_X5_87 dX5_readBody_33 ?_
    refine st_ref hb_25 ?_
    refine lv_iload_n C.1 C.2.1 dX5_readBody_36 rfl (lv_at hl 0 rfl) ?_
    obtain ⟨r_26, m_27, hc_26, hM⟩ := bd_some hM
    refine h_callVi C h (As := [.int ((gI m_24 b_25 12) - 1)]) (rest := []) (bz r_26) m_27 (c_X1_hasConstant hc_26 tb_25) 1 rfl (by decide) tb_25 im_yX1_hasConstant se_yX1_hasConstant cy_X1_hasConstant rfl ml_X5_108 ⟨by decide, by decide⟩ ⟨Nat.zero_le _, Nat.zero_le _⟩ hl.1 rfl (Nat.le_of_ble_eq_true rfl) dX5_readBody_37 (fun H locs h => ?_)
    refine h_ifz (tgt := 53) C.1 C.2.1 dX5_readBody_40 (by decide) (fun q => ?_) (fun q => ?_)
    · have hM := ite_f q hM
      refine lv_aload_n C.1 C.2.1 dX5_readBody_53 rfl (lv_at hl 1 rfl) ?_
      refine gt_5_2 C h tx0 fl_X5_25 dX5_readBody_54 ?_
      obtain ⟨b_28, hb_28, hM⟩ := nb_some hM
      have tb_28 : Ty E G b_28 6 := (fun b hb => tyf h tx0 hb) _ hb_28
      refine st_ref hb_28 ?_
      refine lv_bipush (v := 13) C.1 C.2.1 dX5_readBody_57 (by decide) ?_
      refine lv_iload_n C.1 C.2.1 dX5_readBody_59 rfl (lv_at hl 0 rfl) ?_
      obtain ⟨r_29, m_30, hc_29, hM⟩ := bd_some hM
      refine h_callVi C h (As := [.int 13, .int ((gI m_24 b_25 12) - 1)]) (rest := []) (bz r_29) m_30 (c_X6_put hc_29 tb_28) 6 rfl (by decide) tb_28 im_yX6_put se_yX6_put cy_X6_put rfl ml_X5_79 ⟨by decide, by decide⟩ ⟨Nat.zero_le _, Nat.zero_le _⟩ hl.1 rfl (Nat.le_of_ble_eq_true rfl) dX5_readBody_60 (fun H locs h => ?_)
      refine lv_pop C.1 C.2.1 dX5_readBody_63 rfl ?_
      refine lv_iconst (v := 0) C.1 C.2.1 dX5_readBody_64 (by decide) ?_
      refine lv_istore_n (lv' := [(2, .int 0), (1, .int ((gI m_24 b_25 12) - 1)), (0, .ref x0)]) C.1 C.2.1 dX5_readBody_65 rfl hl (by decide) rfl (fun ls hl => ?_)
      exact cB_X5_readBody_66 C _ _ _ _ hM tx0 _ _ h ls (lv_sub hl [2, 0] rfl)
    · have hM := ite_t q hM
      refine lv_aload_n C.1 C.2.1 dX5_readBody_43 rfl (lv_at hl 1 rfl) ?_
      refine gt_5_4 C h tx0 fl_X5_87 dX5_readBody_44 ?_
      obtain ⟨b_31, hb_31, hM⟩ := nb_some hM
      have tb_31 : Ty E G b_31 1 := (fun b hb => tyf h tx0 hb) _ hb_31
      refine st_ref hb_31 ?_
      refine gt_1_2 C h tb_31 fl_X5_118 dX5_readBody_47 ?_
      obtain ⟨b_32, hb_32, hM⟩ := nb_some hM
      have tb_32 : Ty E G b_32 14 := (fun b hb => tyf h tb_31 hb) _ hb_32
      refine st_ref hb_32 ?_
      refine lv_iload_n C.1 C.2.1 dX5_readBody_50 rfl (lv_at hl 0 rfl) ?_
      refine lv_iconst (v := 1) C.1 C.2.1 dX5_readBody_51 (by decide) ?_
      obtain ⟨hi, hM⟩ := ib_some hM
      refine h_zast C h tb_32 hi dX5_readBody_52 (fun H locs h => ?_)
      refine lv_aload_n C.1 C.2.1 dX5_readBody_53 rfl (lv_at hl 1 rfl) ?_
      refine gt_5_2 C h tx0 fl_X5_25 dX5_readBody_54 ?_
      obtain ⟨b_33, hb_33, hM⟩ := nb_some hM
      have tb_33 : Ty E G b_33 6 := (fun b hb => tyf h tx0 hb) _ hb_33
      refine st_ref hb_33 ?_
      refine lv_bipush (v := 13) C.1 C.2.1 dX5_readBody_57 (by decide) ?_
      refine lv_iload_n C.1 C.2.1 dX5_readBody_59 rfl (lv_at hl 0 rfl) ?_
      obtain ⟨r_34, m_35, hc_34, hM⟩ := bd_some hM
      refine h_callVi C h (As := [.int 13, .int ((gI m_24 b_25 12) - 1)]) (rest := []) (bz r_34) m_35 (c_X6_put hc_34 tb_33) 6 rfl (by decide) tb_33 im_yX6_put se_yX6_put cy_X6_put rfl ml_X5_79 ⟨by decide, by decide⟩ ⟨Nat.zero_le _, Nat.zero_le _⟩ hl.1 rfl (Nat.le_of_ble_eq_true rfl) dX5_readBody_60 (fun H locs h => ?_)
      refine lv_pop C.1 C.2.1 dX5_readBody_63 rfl ?_
      refine lv_iconst (v := 0) C.1 C.2.1 dX5_readBody_64 (by decide) ?_
      refine lv_istore_n (lv' := [(2, .int 0), (1, .int ((gI m_24 b_25 12) - 1)), (0, .ref x0)]) C.1 C.2.1 dX5_readBody_65 rfl hl (by decide) rfl (fun ls hl => ?_)
      exact cB_X5_readBody_66 C _ _ _ _ hM tx0 _ _ h ls (lv_sub hl [2, 0] rfl)
  · have hM := ite_f q hM
    refine lv_iconst (v := 1) C.1 C.2.1 dX5_readBody_12 (by decide) ?_
    obtain ⟨rfl, rfl⟩ := so_inj hM
    exact h_zret C h (bz_ok _).1 dX5_readBody_13
theorem cy_X5_readBody : Cy yX5_readBody cX5_readBody 3 (some .boolean) 0 := ⟨cd_yX5_readBody, ii_X5, by decide, by decide, by decide +kernel⟩
set_option maxRecDepth 100000 in
theorem c_X5_readBody {l : Launch} {E : EE} {G : GG} {x0 : Nat} {m m9 : MM} {r9 : Bool} (hM : M_X5_readBody G x0 m = some (r9, m9)) (tx0 : Ty E G x0 5) : Mc l E yX5_readBody cX5_readBody 3 (some .boolean) rmX5_readBody [.ref x0] G m (cQi E (bz r9) G m9) := M_of (by decide) (Nat.le_of_ble_eq_true rfl) (fun p e s mth below meth c C h ls hl => cM_X5_readBody C hM tx0 _ _ h ls hl)
abbrev rmX5_readConstants : Room := { frames := 5, cells := 0, slots := 0, locals := 110 }
def B_X5_readConstants_17 (G : GG) : Nat → Nat → Int32 → MM → Option (Bool × MM)
  | 0, _, _, _ => none
  | fu + 1, x0, x1, m =>
    if 12 < x1 then
      some (false, m)
    else
      nb (gR m x0 0) fun b_1 =>
        if (gI m b_1 3) = 128 then
          nb (gR m x0 4) fun b_2 =>
            bd (M_X1_addConstant G b_2 (gI m b_1 4) m) fun r_3 m_4 =>
              if r_3 = true then
                nb (gR m_4 x0 0) fun b_5 =>
                  bd (M_X9_advance G b_5 m_4) fun r_6 m_7 =>
                    if r_6 = true then
                      bd (M_X5_readArg G x0 m_7) fun r_8 m_9 =>
                        if r_8 = true then
                          bd (M_X5_readBody G x0 m_9) fun r_10 m_11 =>
                            if r_10 = true then
                              nb (gR m_11 x0 0) fun b_12 =>
                                if (gI m_11 b_12 3) = 44 then
                                  bd (M_X9_advance G b_12 m_11) fun r_13 m_14 =>
                                    B_X5_readConstants_17 G fu x0 (x1 + 1) m_14
                                else
                                  some (true, m_11)
                            else
                              some (false, m_11)
                        else
                          some (false, m_9)
                    else
                      some (false, m_7)
              else
                some (false, m_4)
        else
          some (false, m)
set_option maxRecDepth 100000 in
set_option maxHeartbeats 4000000 in
theorem cB_X5_readConstants_17 {p : Program} {l : Launch} {e : Env} {s : State} {mth : MethodId} {args : Array Value} {below : List Frame} {meth : Method} {c : Code} {E : EE} {G : GG} {r9 : Bool} {m9 : MM} (C : Cx E G p s mth args meth c cX5_readConstants RX5 "readConstants" 2 (some .boolean)) : ∀ (fu : Nat) (x0 : Nat) (x1 : Int32) (m : MM), B_X5_readConstants_17 G fu x0 x1 m = some (r9, m9) → (Ty E G x0 5) → ∀ (H : Heap) (locs : List Loc), Hp E G m s H locs → ∀ ls : Array Slot, lv_has ls 2 [(0, .ref x0), (1, .int x1)] → W p l e rmX5_readConstants s mth args below meth c H locs 0 0 (MQ below (cQi E (bz r9) G m9) args s 0 0 (fun q => E.2.2.1 ≤ q)) (F0 mth 17 ls []) := by
  intro fu
  induction fu with
  | zero =>
    intro x0 x1 m hM
    rw [B_X5_readConstants_17] at hM
    cases hM
  | succ fu ih =>
    intro x0 x1 m hM tx0 H locs h ls hl
    rw [B_X5_readConstants_17] at hM
    refine lv_iload_n C.1 C.2.1 dX5_readConstants_17 rfl (lv_at hl 1 rfl) ?_
    refine lv_bipush (v := 12) C.1 C.2.1 dX5_readConstants_18 (by decide) ?_
    refine lv_icmp_gt (tgt := 109) C.1 C.2.1 dX5_readConstants_20 (by decide) (fun q => ?_) (fun q => ?_)
    · have hM := ite_t q hM
      refine lv_iconst (v := 0) C.1 C.2.1 dX5_readConstants_109 (by decide) ?_
      obtain ⟨rfl, rfl⟩ := so_inj hM
      exact h_zret C h (bz_ok _).1 dX5_readConstants_110
    · have hM := ite_f q hM
      refine lv_aload_n C.1 C.2.1 dX5_readConstants_23 rfl (lv_at hl 0 rfl) ?_
      refine gt_5_0 C h tx0 fl_X5_12 dX5_readConstants_24 ?_
      obtain ⟨b_1, hb_1, hM⟩ := nb_some hM
      have tb_1 : Ty E G b_1 9 := (fun b hb => tyf h tx0 hb) _ hb_1
      refine st_ref hb_1 ?_
      refine gt_9_3 C h tb_1 fl_X5_47 dX5_readConstants_27 ?_
      refine lv_sipush (v := 128) C.1 C.2.1 dX5_readConstants_30 (by decide) ?_
      refine lv_icmp_ne (tgt := 53) C.1 C.2.1 dX5_readConstants_33 (by decide) (fun q => ?_) (fun q => ?_)
      · have hM := ite_f q hM
        refine lv_iconst (v := 0) C.1 C.2.1 dX5_readConstants_53 (by decide) ?_
        obtain ⟨rfl, rfl⟩ := so_inj hM
        exact h_zret C h (bz_ok _).1 dX5_readConstants_54
      · have hM := ite_t q hM
        refine lv_aload_n C.1 C.2.1 dX5_readConstants_36 rfl (lv_at hl 0 rfl) ?_
        refine gt_5_4 C h tx0 fl_X5_87 dX5_readConstants_37 ?_
        obtain ⟨b_2, hb_2, hM⟩ := nb_some hM
        have tb_2 : Ty E G b_2 1 := (fun b hb => tyf h tx0 hb) _ hb_2
        refine st_ref hb_2 ?_
        refine lv_aload_n C.1 C.2.1 dX5_readConstants_40 rfl (lv_at hl 0 rfl) ?_
        refine gt_5_0 C h tx0 fl_X5_12 dX5_readConstants_41 ?_
        refine st_ref hb_1 ?_
        refine gt_9_4 C h tb_1 fl_X5_65 dX5_readConstants_44 ?_
        obtain ⟨r_3, m_4, hc_3, hM⟩ := bd_some hM
        refine h_callVi C h (As := [.int (gI m b_1 4)]) (rest := []) (bz r_3) m_4 (c_X1_addConstant hc_3 tb_2) 1 rfl (by decide) tb_2 im_yX1_addConstant se_yX1_addConstant cy_X1_addConstant rfl ml_X5_94 ⟨by decide, by decide⟩ ⟨Nat.zero_le _, Nat.zero_le _⟩ hl.1 rfl (Nat.le_of_ble_eq_true rfl) dX5_readConstants_47 (fun H locs h => ?_)
        refine h_ifnz (tgt := 55) C.1 C.2.1 dX5_readConstants_50 (by decide) (fun q => ?_) (fun q => ?_)
        · have hM := ite_t q hM
          refine lv_aload_n C.1 C.2.1 dX5_readConstants_55 rfl (lv_at hl 0 rfl) ?_
          refine gt_5_0 C h tx0 fl_X5_12 dX5_readConstants_56 ?_
          obtain ⟨b_5, hb_5, hM⟩ := nb_some hM
          have tb_5 : Ty E G b_5 9 := (fun b hb => tyf h tx0 hb) _ hb_5
          refine st_ref hb_5 ?_
          obtain ⟨r_6, m_7, hc_6, hM⟩ := bd_some hM
          refine h_callVi C h (As := []) (rest := []) (bz r_6) m_7 (c_X9_advance hc_6 tb_5) 9 rfl (by decide) tb_5 im_yX9_advance se_yX9_advance cy_X9_advance rfl ml_X5_91 ⟨by decide, by decide⟩ ⟨Nat.zero_le _, Nat.zero_le _⟩ hl.1 rfl (Nat.le_of_ble_eq_true rfl) dX5_readConstants_59 (fun H locs h => ?_)
          refine h_ifz (tgt := 79) C.1 C.2.1 dX5_readConstants_62 (by decide) (fun q => ?_) (fun q => ?_)
          · have hM := ite_f q hM
            refine lv_iconst (v := 0) C.1 C.2.1 dX5_readConstants_79 (by decide) ?_
            obtain ⟨rfl, rfl⟩ := so_inj hM
            exact h_zret C h (bz_ok _).1 dX5_readConstants_80
          · have hM := ite_t q hM
            refine lv_aload_n C.1 C.2.1 dX5_readConstants_65 rfl (lv_at hl 0 rfl) ?_
            obtain ⟨r_8, m_9, hc_8, hM⟩ := bd_some hM
            refine h_callVi C h (As := []) (rest := []) (bz r_8) m_9 (c_X5_readArg hc_8 tx0) 5 rfl (by decide) tx0 im_yX5_readArg se_yX5_readArg cy_X5_readArg rfl ml_X5_99 ⟨by decide, by decide⟩ ⟨Nat.zero_le _, Nat.zero_le _⟩ hl.1 rfl (Nat.le_of_ble_eq_true rfl) dX5_readConstants_66 (fun H locs h => ?_)
            refine h_ifz (tgt := 79) C.1 C.2.1 dX5_readConstants_69 (by decide) (fun q => ?_) (fun q => ?_)
            · have hM := ite_f q hM
              refine lv_iconst (v := 0) C.1 C.2.1 dX5_readConstants_79 (by decide) ?_
              obtain ⟨rfl, rfl⟩ := so_inj hM
              exact h_zret C h (bz_ok _).1 dX5_readConstants_80
            · have hM := ite_t q hM
              refine lv_aload_n C.1 C.2.1 dX5_readConstants_72 rfl (lv_at hl 0 rfl) ?_
              obtain ⟨r_10, m_11, hc_10, hM⟩ := bd_some hM
              refine h_callVi C h (As := []) (rest := []) (bz r_10) m_11 (c_X5_readBody hc_10 tx0) 5 rfl (by decide) tx0 im_yX5_readBody se_yX5_readBody cy_X5_readBody rfl ml_X5_102 ⟨by decide, by decide⟩ ⟨Nat.zero_le _, Nat.zero_le _⟩ hl.1 rfl (Nat.le_of_ble_eq_true rfl) dX5_readConstants_73 (fun H locs h => ?_)
              refine h_ifnz (tgt := 81) C.1 C.2.1 dX5_readConstants_76 (by decide) (fun q => ?_) (fun q => ?_)
              · have hM := ite_t q hM
                refine lv_aload_n C.1 C.2.1 dX5_readConstants_81 rfl (lv_at hl 0 rfl) ?_
                refine gt_5_0 C h tx0 fl_X5_12 dX5_readConstants_82 ?_
                obtain ⟨b_12, hb_12, hM⟩ := nb_some hM
                have tb_12 : Ty E G b_12 9 := (fun b hb => tyf h tx0 hb) _ hb_12
                refine st_ref hb_12 ?_
                refine gt_9_3 C h tb_12 fl_X5_47 dX5_readConstants_85 ?_
                refine lv_bipush (v := 44) C.1 C.2.1 dX5_readConstants_88 (by decide) ?_
                refine lv_icmp_eq (tgt := 95) C.1 C.2.1 dX5_readConstants_90 (by decide) (fun q => ?_) (fun q => ?_)
                · have hM := ite_t q hM
                  refine lv_aload_n C.1 C.2.1 dX5_readConstants_95 rfl (lv_at hl 0 rfl) ?_
                  refine gt_5_0 C h tx0 fl_X5_12 dX5_readConstants_96 ?_
                  refine st_ref hb_12 ?_
                  obtain ⟨r_13, m_14, hc_13, hM⟩ := bd_some hM
                  refine h_callVi C h (As := []) (rest := []) (bz r_13) m_14 (c_X9_advance hc_13 tb_12) 9 rfl (by decide) tb_12 im_yX9_advance se_yX9_advance cy_X9_advance rfl ml_X5_91 ⟨by decide, by decide⟩ ⟨Nat.zero_le _, Nat.zero_le _⟩ hl.1 rfl (Nat.le_of_ble_eq_true rfl) dX5_readConstants_99 (fun H locs h => ?_)
                  refine lv_pop C.1 C.2.1 dX5_readConstants_102 rfl ?_
                  refine lv_iinc (v := x1 + 1) (lv' := [(1, .int (x1 + 1)), (0, .ref x0)]) C.1 C.2.1 dX5_readConstants_103 hl (k := 1) rfl rfl (by decide) rfl (fun ls hl => ?_)
                  refine lv_goto (tgt := 17) C.1 C.2.1 dX5_readConstants_106 (by decide) ?_
                  exact ih _ _ _ hM tx0 _ _ h ls (lv_sub hl [1, 0] rfl)
                · have hM := ite_f q hM
                  refine lv_iconst (v := 1) C.1 C.2.1 dX5_readConstants_93 (by decide) ?_
                  obtain ⟨rfl, rfl⟩ := so_inj hM
                  exact h_zret C h (bz_ok _).1 dX5_readConstants_94
              · have hM := ite_f q hM
                refine lv_iconst (v := 0) C.1 C.2.1 dX5_readConstants_79 (by decide) ?_
                obtain ⟨rfl, rfl⟩ := so_inj hM
                exact h_zret C h (bz_ok _).1 dX5_readConstants_80
        · have hM := ite_f q hM
          refine lv_iconst (v := 0) C.1 C.2.1 dX5_readConstants_53 (by decide) ?_
          obtain ⟨rfl, rfl⟩ := so_inj hM
          exact h_zret C h (bz_ok _).1 dX5_readConstants_54
def M_X5_readConstants (G : GG) (x0 : Nat) (m : MM) : Option (Bool × MM) :=
  nb (gR m x0 0) fun b_15 =>
    if (gI m b_15 3) = 128 then
      B_X5_readConstants_17 G FU x0 0 m
    else
      some (true, m)
set_option maxRecDepth 100000 in
set_option maxHeartbeats 4000000 in
theorem cM_X5_readConstants {p : Program} {l : Launch} {e : Env} {s : State} {mth : MethodId} {args : Array Value} {below : List Frame} {meth : Method} {c : Code} {E : EE} {G : GG} {r9 : Bool} {m9 : MM} (C : Cx E G p s mth args meth c cX5_readConstants RX5 "readConstants" 2 (some .boolean)) {x0 : Nat} {m : MM} (hM : M_X5_readConstants G x0 m = some (r9, m9)) (tx0 : Ty E G x0 5) : ∀ (H : Heap) (locs : List Loc), Hp E G m s H locs → ∀ ls : Array Slot, lv_has ls 2 [(0, .ref x0)] → W p l e rmX5_readConstants s mth args below meth c H locs 0 0 (MQ below (cQi E (bz r9) G m9) args s 0 0 (fun q => E.2.2.1 ≤ q)) (F0 mth 0 ls []) := by
  intro H locs h ls hl
  unfold M_X5_readConstants at hM
  refine lv_aload_n C.1 C.2.1 dX5_readConstants_0 rfl (lv_at hl 0 rfl) ?_
  refine gt_5_0 C h tx0 fl_X5_12 dX5_readConstants_1 ?_
  obtain ⟨b_15, hb_15, hM⟩ := nb_some hM
  have tb_15 : Ty E G b_15 9 := (fun b hb => tyf h tx0 hb) _ hb_15
  refine st_ref hb_15 ?_
  refine gt_9_3 C h tb_15 fl_X5_47 dX5_readConstants_4 ?_
  refine lv_sipush (v := 128) C.1 C.2.1 dX5_readConstants_7 (by decide) ?_
  refine lv_icmp_eq (tgt := 15) C.1 C.2.1 dX5_readConstants_10 (by decide) (fun q => ?_) (fun q => ?_)
  · have hM := ite_t q hM
    refine lv_iconst (v := 0) C.1 C.2.1 dX5_readConstants_15 (by decide) ?_
    refine lv_istore_n (lv' := [(1, .int 0), (0, .ref x0)]) C.1 C.2.1 dX5_readConstants_16 rfl hl (by decide) rfl (fun ls hl => ?_)
    exact cB_X5_readConstants_17 C _ _ _ _ hM tx0 _ _ h ls (lv_sub hl [1, 0] rfl)
  · have hM := ite_f q hM
    refine lv_iconst (v := 1) C.1 C.2.1 dX5_readConstants_13 (by decide) ?_
    obtain ⟨rfl, rfl⟩ := so_inj hM
    exact h_zret C h (bz_ok _).1 dX5_readConstants_14
theorem cy_X5_readConstants : Cy yX5_readConstants cX5_readConstants 2 (some .boolean) 0 := ⟨cd_yX5_readConstants, ii_X5, by decide, by decide, by decide +kernel⟩
set_option maxRecDepth 100000 in
theorem c_X5_readConstants {l : Launch} {E : EE} {G : GG} {x0 : Nat} {m m9 : MM} {r9 : Bool} (hM : M_X5_readConstants G x0 m = some (r9, m9)) (tx0 : Ty E G x0 5) : Mc l E yX5_readConstants cX5_readConstants 2 (some .boolean) rmX5_readConstants [.ref x0] G m (cQi E (bz r9) G m9) := M_of (by decide) (Nat.le_of_ble_eq_true rfl) (fun p e s mth below meth c C h ls hl => cM_X5_readConstants C hM tx0 _ _ h ls hl)
abbrev rmX5_readAbstract : Room := { frames := 2, cells := 0, slots := 0, locals := 43 }
def M_X5_readAbstract (G : GG) (x0 : Nat) (m : MM) : Option (Bool × MM) :=
  nb (gR m x0 0) fun b_1 =>
    bd (M_X9_advance G b_1 m) fun r_2 m_3 =>
      nb (gR m_3 x0 0) fun b_4 =>
        if (gI m_3 b_4 3) = 128 then
          nb (gR m_3 x0 4) fun b_5 =>
            bd (M_X1_addMember G b_5 (gI m_3 b_4 4) (-1) m_3) fun r_6 m_7 =>
              if r_6 = true then
                nb (gR m_7 x0 0) fun b_8 =>
                  bd (M_X9_advance G b_8 m_7) fun r_9 m_10 =>
                    if r_9 = true then
                      nb (gR m_10 x0 0) fun b_11 =>
                        bd (M_X9_take G b_11 59 m_10) fun r_12 m_13 =>
                          if r_12 = true then
                            some (true, m_13)
                          else
                            some (false, m_13)
                    else
                      some (false, m_10)
              else
                some (false, m_7)
        else
          some (false, m_3)
set_option maxRecDepth 100000 in
set_option maxHeartbeats 4000000 in
theorem cM_X5_readAbstract {p : Program} {l : Launch} {e : Env} {s : State} {mth : MethodId} {args : Array Value} {below : List Frame} {meth : Method} {c : Code} {E : EE} {G : GG} {r9 : Bool} {m9 : MM} (C : Cx E G p s mth args meth c cX5_readAbstract RX5 "readAbstract" 1 (some .boolean)) {x0 : Nat} {m : MM} (hM : M_X5_readAbstract G x0 m = some (r9, m9)) (tx0 : Ty E G x0 5) : ∀ (H : Heap) (locs : List Loc), Hp E G m s H locs → ∀ ls : Array Slot, lv_has ls 1 [(0, .ref x0)] → W p l e rmX5_readAbstract s mth args below meth c H locs 0 0 (MQ below (cQi E (bz r9) G m9) args s 0 0 (fun q => E.2.2.1 ≤ q)) (F0 mth 0 ls []) := by
  intro H locs h ls hl
  unfold M_X5_readAbstract at hM
  refine lv_aload_n C.1 C.2.1 dX5_readAbstract_0 rfl (lv_at hl 0 rfl) ?_
  refine gt_5_0 C h tx0 fl_X5_12 dX5_readAbstract_1 ?_
  obtain ⟨b_1, hb_1, hM⟩ := nb_some hM
  have tb_1 : Ty E G b_1 9 := (fun b hb => tyf h tx0 hb) _ hb_1
  refine st_ref hb_1 ?_
  obtain ⟨r_2, m_3, hc_2, hM⟩ := bd_some hM
  refine h_callVi C h (As := []) (rest := []) (bz r_2) m_3 (c_X9_advance hc_2 tb_1) 9 rfl (by decide) tb_1 im_yX9_advance se_yX9_advance cy_X9_advance rfl ml_X5_91 ⟨by decide, by decide⟩ ⟨Nat.zero_le _, Nat.zero_le _⟩ hl.1 rfl (Nat.le_of_ble_eq_true rfl) dX5_readAbstract_4 (fun H locs h => ?_)
  refine lv_pop C.1 C.2.1 dX5_readAbstract_7 rfl ?_
  refine lv_aload_n C.1 C.2.1 dX5_readAbstract_8 rfl (lv_at hl 0 rfl) ?_
  refine gt_5_0 C h tx0 fl_X5_12 dX5_readAbstract_9 ?_
  obtain ⟨b_4, hb_4, hM⟩ := nb_some hM
  have tb_4 : Ty E G b_4 9 := (fun b hb => tyf h tx0 hb) _ hb_4
  refine st_ref hb_4 ?_
  refine gt_9_3 C h tb_4 fl_X5_47 dX5_readAbstract_12 ?_
  refine lv_sipush (v := 128) C.1 C.2.1 dX5_readAbstract_15 (by decide) ?_
  refine lv_icmp_ne (tgt := 39) C.1 C.2.1 dX5_readAbstract_18 (by decide) (fun q => ?_) (fun q => ?_)
  · have hM := ite_f q hM
    refine lv_iconst (v := 0) C.1 C.2.1 dX5_readAbstract_39 (by decide) ?_
    obtain ⟨rfl, rfl⟩ := so_inj hM
    exact h_zret C h (bz_ok _).1 dX5_readAbstract_40
  · have hM := ite_t q hM
    refine lv_aload_n C.1 C.2.1 dX5_readAbstract_21 rfl (lv_at hl 0 rfl) ?_
    refine gt_5_4 C h tx0 fl_X5_87 dX5_readAbstract_22 ?_
    obtain ⟨b_5, hb_5, hM⟩ := nb_some hM
    have tb_5 : Ty E G b_5 1 := (fun b hb => tyf h tx0 hb) _ hb_5
    refine st_ref hb_5 ?_
    refine lv_aload_n C.1 C.2.1 dX5_readAbstract_25 rfl (lv_at hl 0 rfl) ?_
    refine gt_5_0 C h tx0 fl_X5_12 dX5_readAbstract_26 ?_
    refine st_ref hb_4 ?_
    refine gt_9_4 C h tb_4 fl_X5_65 dX5_readAbstract_29 ?_
    refine lv_iconst (v := (-1)) C.1 C.2.1 dX5_readAbstract_32 (by decide) ?_
    obtain ⟨r_6, m_7, hc_6, hM⟩ := bd_some hM
    refine h_callVi C h (As := [.int (gI m_3 b_4 4), .int (-1)]) (rest := []) (bz r_6) m_7 (c_X1_addMember hc_6 tb_5) 1 rfl (by decide) tb_5 im_yX1_addMember se_yX1_addMember cy_X1_addMember rfl ml_X5_140 ⟨by decide, by decide⟩ ⟨Nat.zero_le _, Nat.zero_le _⟩ hl.1 rfl (Nat.le_of_ble_eq_true rfl) dX5_readAbstract_33 (fun H locs h => ?_)
    refine h_ifnz (tgt := 41) C.1 C.2.1 dX5_readAbstract_36 (by decide) (fun q => ?_) (fun q => ?_)
    · have hM := ite_t q hM
      refine lv_aload_n C.1 C.2.1 dX5_readAbstract_41 rfl (lv_at hl 0 rfl) ?_
      refine gt_5_0 C h tx0 fl_X5_12 dX5_readAbstract_42 ?_
      obtain ⟨b_8, hb_8, hM⟩ := nb_some hM
      have tb_8 : Ty E G b_8 9 := (fun b hb => tyf h tx0 hb) _ hb_8
      refine st_ref hb_8 ?_
      obtain ⟨r_9, m_10, hc_9, hM⟩ := bd_some hM
      refine h_callVi C h (As := []) (rest := []) (bz r_9) m_10 (c_X9_advance hc_9 tb_8) 9 rfl (by decide) tb_8 im_yX9_advance se_yX9_advance cy_X9_advance rfl ml_X5_91 ⟨by decide, by decide⟩ ⟨Nat.zero_le _, Nat.zero_le _⟩ hl.1 rfl (Nat.le_of_ble_eq_true rfl) dX5_readAbstract_45 (fun H locs h => ?_)
      refine h_ifz (tgt := 67) C.1 C.2.1 dX5_readAbstract_48 (by decide) (fun q => ?_) (fun q => ?_)
      · have hM := ite_f q hM
        refine lv_iconst (v := 0) C.1 C.2.1 dX5_readAbstract_67 (by decide) ?_
        obtain ⟨rfl, rfl⟩ := so_inj hM
        exact h_zret C h (bz_ok _).1 dX5_readAbstract_68
      · have hM := ite_t q hM
        refine lv_aload_n C.1 C.2.1 dX5_readAbstract_51 rfl (lv_at hl 0 rfl) ?_
        refine gt_5_0 C h tx0 fl_X5_12 dX5_readAbstract_52 ?_
        obtain ⟨b_11, hb_11, hM⟩ := nb_some hM
        have tb_11 : Ty E G b_11 9 := (fun b hb => tyf h tx0 hb) _ hb_11
        refine st_ref hb_11 ?_
        refine lv_bipush (v := 59) C.1 C.2.1 dX5_readAbstract_55 (by decide) ?_
        obtain ⟨r_12, m_13, hc_12, hM⟩ := bd_some hM
        refine h_callVi C h (As := [.int 59]) (rest := []) (bz r_12) m_13 (c_X9_take hc_12 tb_11) 9 rfl (by decide) tb_11 im_yX9_take se_yX9_take cy_X9_take rfl ml_X5_51 ⟨by decide, by decide⟩ ⟨Nat.zero_le _, Nat.zero_le _⟩ hl.1 rfl (Nat.le_of_ble_eq_true rfl) dX5_readAbstract_57 (fun H locs h => ?_)
        refine h_ifz (tgt := 67) C.1 C.2.1 dX5_readAbstract_60 (by decide) (fun q => ?_) (fun q => ?_)
        · have hM := ite_f q hM
          refine lv_iconst (v := 0) C.1 C.2.1 dX5_readAbstract_67 (by decide) ?_
          obtain ⟨rfl, rfl⟩ := so_inj hM
          exact h_zret C h (bz_ok _).1 dX5_readAbstract_68
        · have hM := ite_t q hM
          refine lv_iconst (v := 1) C.1 C.2.1 dX5_readAbstract_63 (by decide) ?_
          refine lv_goto (tgt := 68) C.1 C.2.1 dX5_readAbstract_64 (by decide) ?_
          obtain ⟨rfl, rfl⟩ := so_inj hM
          exact h_zret C h (bz_ok _).1 dX5_readAbstract_68
    · have hM := ite_f q hM
      refine lv_iconst (v := 0) C.1 C.2.1 dX5_readAbstract_39 (by decide) ?_
      obtain ⟨rfl, rfl⟩ := so_inj hM
      exact h_zret C h (bz_ok _).1 dX5_readAbstract_40
theorem cy_X5_readAbstract : Cy yX5_readAbstract cX5_readAbstract 1 (some .boolean) 0 := ⟨cd_yX5_readAbstract, ii_X5, by decide, by decide, by decide +kernel⟩
set_option maxRecDepth 100000 in
theorem c_X5_readAbstract {l : Launch} {E : EE} {G : GG} {x0 : Nat} {m m9 : MM} {r9 : Bool} (hM : M_X5_readAbstract G x0 m = some (r9, m9)) (tx0 : Ty E G x0 5) : Mc l E yX5_readAbstract cX5_readAbstract 1 (some .boolean) rmX5_readAbstract [.ref x0] G m (cQi E (bz r9) G m9) := M_of (by decide) (Nat.le_of_ble_eq_true rfl) (fun p e s mth below meth c C h ls hl => cM_X5_readAbstract C hM tx0 _ _ h ls hl)
abbrev rmX5_readDef : Room := { frames := 4, cells := 0, slots := 0, locals := 88 }
def M_X5_readDef (G : GG) (x0 : Nat) (m : MM) : Option (Bool × MM) :=
  nb (gR m x0 0) fun b_1 =>
    bd (M_X9_advance G b_1 m) fun r_2 m_3 =>
      nb (gR m_3 x0 0) fun b_4 =>
        if (gI m_3 b_4 3) = 128 then
          nb (gR m_3 x0 4) fun b_5 =>
            nb (gR m_3 x0 2) fun b_6 =>
              bd (M_X1_addMember G b_5 (gI m_3 b_4 4) (gI m_3 b_6 4) m_3) fun r_7 m_8 =>
                if r_7 = true then
                  nb (gR m_8 x0 0) fun b_9 =>
                    bd (M_X9_advance G b_9 m_8) fun r_10 m_11 =>
                      if r_10 = true then
                        nb (gR m_11 x0 0) fun b_12 =>
                          bd (M_X9_take G b_12 61 m_11) fun r_13 m_14 =>
                            if r_13 = true then
                              nb (gR m_14 x0 1) fun b_15 =>
                                bd (M_X2_read G b_15 0 m_14) fun r_16 m_17 =>
                                  if r_16 = true then
                                    nb (gR m_17 x0 0) fun b_18 =>
                                      bd (M_X9_take G b_18 59 m_17) fun r_19 m_20 =>
                                        if r_19 = true then
                                          some (true, m_20)
                                        else
                                          some (false, m_20)
                                  else
                                    some (false, m_17)
                            else
                              some (false, m_14)
                      else
                        some (false, m_11)
                else
                  some (false, m_8)
        else
          some (false, m_3)
set_option maxRecDepth 100000 in
set_option maxHeartbeats 4000000 in
theorem cM_X5_readDef {p : Program} {l : Launch} {e : Env} {s : State} {mth : MethodId} {args : Array Value} {below : List Frame} {meth : Method} {c : Code} {E : EE} {G : GG} {r9 : Bool} {m9 : MM} (C : Cx E G p s mth args meth c cX5_readDef RX5 "readDef" 1 (some .boolean)) {x0 : Nat} {m : MM} (hM : M_X5_readDef G x0 m = some (r9, m9)) (tx0 : Ty E G x0 5) : ∀ (H : Heap) (locs : List Loc), Hp E G m s H locs → ∀ ls : Array Slot, lv_has ls 1 [(0, .ref x0)] → W p l e rmX5_readDef s mth args below meth c H locs 0 0 (MQ below (cQi E (bz r9) G m9) args s 0 0 (fun q => E.2.2.1 ≤ q)) (F0 mth 0 ls []) := by
  intro H locs h ls hl
  unfold M_X5_readDef at hM
  refine lv_aload_n C.1 C.2.1 dX5_readDef_0 rfl (lv_at hl 0 rfl) ?_
  refine gt_5_0 C h tx0 fl_X5_12 dX5_readDef_1 ?_
  obtain ⟨b_1, hb_1, hM⟩ := nb_some hM
  have tb_1 : Ty E G b_1 9 := (fun b hb => tyf h tx0 hb) _ hb_1
  refine st_ref hb_1 ?_
  obtain ⟨r_2, m_3, hc_2, hM⟩ := bd_some hM
  refine h_callVi C h (As := []) (rest := []) (bz r_2) m_3 (c_X9_advance hc_2 tb_1) 9 rfl (by decide) tb_1 im_yX9_advance se_yX9_advance cy_X9_advance rfl ml_X5_91 ⟨by decide, by decide⟩ ⟨Nat.zero_le _, Nat.zero_le _⟩ hl.1 rfl (Nat.le_of_ble_eq_true rfl) dX5_readDef_4 (fun H locs h => ?_)
  refine lv_pop C.1 C.2.1 dX5_readDef_7 rfl ?_
  refine lv_aload_n C.1 C.2.1 dX5_readDef_8 rfl (lv_at hl 0 rfl) ?_
  refine gt_5_0 C h tx0 fl_X5_12 dX5_readDef_9 ?_
  obtain ⟨b_4, hb_4, hM⟩ := nb_some hM
  have tb_4 : Ty E G b_4 9 := (fun b hb => tyf h tx0 hb) _ hb_4
  refine st_ref hb_4 ?_
  refine gt_9_3 C h tb_4 fl_X5_47 dX5_readDef_12 ?_
  refine lv_sipush (v := 128) C.1 C.2.1 dX5_readDef_15 (by decide) ?_
  refine lv_icmp_ne (tgt := 45) C.1 C.2.1 dX5_readDef_18 (by decide) (fun q => ?_) (fun q => ?_)
  · have hM := ite_f q hM
    refine lv_iconst (v := 0) C.1 C.2.1 dX5_readDef_45 (by decide) ?_
    obtain ⟨rfl, rfl⟩ := so_inj hM
    exact h_zret C h (bz_ok _).1 dX5_readDef_46
  · have hM := ite_t q hM
    refine lv_aload_n C.1 C.2.1 dX5_readDef_21 rfl (lv_at hl 0 rfl) ?_
    refine gt_5_4 C h tx0 fl_X5_87 dX5_readDef_22 ?_
    obtain ⟨b_5, hb_5, hM⟩ := nb_some hM
    have tb_5 : Ty E G b_5 1 := (fun b hb => tyf h tx0 hb) _ hb_5
    refine st_ref hb_5 ?_
    refine lv_aload_n C.1 C.2.1 dX5_readDef_25 rfl (lv_at hl 0 rfl) ?_
    refine gt_5_0 C h tx0 fl_X5_12 dX5_readDef_26 ?_
    refine st_ref hb_4 ?_
    refine gt_9_4 C h tb_4 fl_X5_65 dX5_readDef_29 ?_
    refine lv_aload_n C.1 C.2.1 dX5_readDef_32 rfl (lv_at hl 0 rfl) ?_
    refine gt_5_2 C h tx0 fl_X5_25 dX5_readDef_33 ?_
    obtain ⟨b_6, hb_6, hM⟩ := nb_some hM
    have tb_6 : Ty E G b_6 6 := (fun b hb => tyf h tx0 hb) _ hb_6
    refine st_ref hb_6 ?_
    refine gt_6_4 C h tb_6 fl_X5_143 dX5_readDef_36 ?_
    obtain ⟨r_7, m_8, hc_7, hM⟩ := bd_some hM
    refine h_callVi C h (As := [.int (gI m_3 b_4 4), .int (gI m_3 b_6 4)]) (rest := []) (bz r_7) m_8 (c_X1_addMember hc_7 tb_5) 1 rfl (by decide) tb_5 im_yX1_addMember se_yX1_addMember cy_X1_addMember rfl ml_X5_140 ⟨by decide, by decide⟩ ⟨Nat.zero_le _, Nat.zero_le _⟩ hl.1 rfl (Nat.le_of_ble_eq_true rfl) dX5_readDef_39 (fun H locs h => ?_)
    refine h_ifnz (tgt := 47) C.1 C.2.1 dX5_readDef_42 (by decide) (fun q => ?_) (fun q => ?_)
    · have hM := ite_t q hM
      refine lv_aload_n C.1 C.2.1 dX5_readDef_47 rfl (lv_at hl 0 rfl) ?_
      refine gt_5_0 C h tx0 fl_X5_12 dX5_readDef_48 ?_
      obtain ⟨b_9, hb_9, hM⟩ := nb_some hM
      have tb_9 : Ty E G b_9 9 := (fun b hb => tyf h tx0 hb) _ hb_9
      refine st_ref hb_9 ?_
      obtain ⟨r_10, m_11, hc_10, hM⟩ := bd_some hM
      refine h_callVi C h (As := []) (rest := []) (bz r_10) m_11 (c_X9_advance hc_10 tb_9) 9 rfl (by decide) tb_9 im_yX9_advance se_yX9_advance cy_X9_advance rfl ml_X5_91 ⟨by decide, by decide⟩ ⟨Nat.zero_le _, Nat.zero_le _⟩ hl.1 rfl (Nat.le_of_ble_eq_true rfl) dX5_readDef_51 (fun H locs h => ?_)
      refine h_ifz (tgt := 96) C.1 C.2.1 dX5_readDef_54 (by decide) (fun q => ?_) (fun q => ?_)
      · have hM := ite_f q hM
        refine lv_iconst (v := 0) C.1 C.2.1 dX5_readDef_96 (by decide) ?_
        obtain ⟨rfl, rfl⟩ := so_inj hM
        exact h_zret C h (bz_ok _).1 dX5_readDef_97
      · have hM := ite_t q hM
        refine lv_aload_n C.1 C.2.1 dX5_readDef_57 rfl (lv_at hl 0 rfl) ?_
        refine gt_5_0 C h tx0 fl_X5_12 dX5_readDef_58 ?_
        obtain ⟨b_12, hb_12, hM⟩ := nb_some hM
        have tb_12 : Ty E G b_12 9 := (fun b hb => tyf h tx0 hb) _ hb_12
        refine st_ref hb_12 ?_
        refine lv_bipush (v := 61) C.1 C.2.1 dX5_readDef_61 (by decide) ?_
        obtain ⟨r_13, m_14, hc_13, hM⟩ := bd_some hM
        refine h_callVi C h (As := [.int 61]) (rest := []) (bz r_13) m_14 (c_X9_take hc_13 tb_12) 9 rfl (by decide) tb_12 im_yX9_take se_yX9_take cy_X9_take rfl ml_X5_51 ⟨by decide, by decide⟩ ⟨Nat.zero_le _, Nat.zero_le _⟩ hl.1 rfl (Nat.le_of_ble_eq_true rfl) dX5_readDef_63 (fun H locs h => ?_)
        refine h_ifz (tgt := 96) C.1 C.2.1 dX5_readDef_66 (by decide) (fun q => ?_) (fun q => ?_)
        · have hM := ite_f q hM
          refine lv_iconst (v := 0) C.1 C.2.1 dX5_readDef_96 (by decide) ?_
          obtain ⟨rfl, rfl⟩ := so_inj hM
          exact h_zret C h (bz_ok _).1 dX5_readDef_97
        · have hM := ite_t q hM
          refine lv_aload_n C.1 C.2.1 dX5_readDef_69 rfl (lv_at hl 0 rfl) ?_
          refine gt_5_1 C h tx0 fl_X5_21 dX5_readDef_70 ?_
          obtain ⟨b_15, hb_15, hM⟩ := nb_some hM
          have tb_15 : Ty E G b_15 2 := (fun b hb => tyf h tx0 hb) _ hb_15
          refine st_ref hb_15 ?_
          refine lv_iconst (v := 0) C.1 C.2.1 dX5_readDef_73 (by decide) ?_
          obtain ⟨r_16, m_17, hc_16, hM⟩ := bd_some hM
          refine h_callVi C h (As := [.int 0]) (rest := []) (bz r_16) m_17 (c_X2_read hc_16 tb_15) 2 rfl (by decide) tb_15 im_yX2_read se_yX2_read cy_X2_read rfl ml_X5_122 ⟨by decide, by decide⟩ ⟨Nat.zero_le _, Nat.zero_le _⟩ hl.1 rfl (Nat.le_of_ble_eq_true rfl) dX5_readDef_74 (fun H locs h => ?_)
          refine h_ifz (tgt := 96) C.1 C.2.1 dX5_readDef_77 (by decide) (fun q => ?_) (fun q => ?_)
          · have hM := ite_f q hM
            refine lv_iconst (v := 0) C.1 C.2.1 dX5_readDef_96 (by decide) ?_
            obtain ⟨rfl, rfl⟩ := so_inj hM
            exact h_zret C h (bz_ok _).1 dX5_readDef_97
          · have hM := ite_t q hM
            refine lv_aload_n C.1 C.2.1 dX5_readDef_80 rfl (lv_at hl 0 rfl) ?_
            refine gt_5_0 C h tx0 fl_X5_12 dX5_readDef_81 ?_
            obtain ⟨b_18, hb_18, hM⟩ := nb_some hM
            have tb_18 : Ty E G b_18 9 := (fun b hb => tyf h tx0 hb) _ hb_18
            refine st_ref hb_18 ?_
            refine lv_bipush (v := 59) C.1 C.2.1 dX5_readDef_84 (by decide) ?_
            obtain ⟨r_19, m_20, hc_19, hM⟩ := bd_some hM
            refine h_callVi C h (As := [.int 59]) (rest := []) (bz r_19) m_20 (c_X9_take hc_19 tb_18) 9 rfl (by decide) tb_18 im_yX9_take se_yX9_take cy_X9_take rfl ml_X5_51 ⟨by decide, by decide⟩ ⟨Nat.zero_le _, Nat.zero_le _⟩ hl.1 rfl (Nat.le_of_ble_eq_true rfl) dX5_readDef_86 (fun H locs h => ?_)
            refine h_ifz (tgt := 96) C.1 C.2.1 dX5_readDef_89 (by decide) (fun q => ?_) (fun q => ?_)
            · have hM := ite_f q hM
              refine lv_iconst (v := 0) C.1 C.2.1 dX5_readDef_96 (by decide) ?_
              obtain ⟨rfl, rfl⟩ := so_inj hM
              exact h_zret C h (bz_ok _).1 dX5_readDef_97
            · have hM := ite_t q hM
              refine lv_iconst (v := 1) C.1 C.2.1 dX5_readDef_92 (by decide) ?_
              refine lv_goto (tgt := 97) C.1 C.2.1 dX5_readDef_93 (by decide) ?_
              obtain ⟨rfl, rfl⟩ := so_inj hM
              exact h_zret C h (bz_ok _).1 dX5_readDef_97
    · have hM := ite_f q hM
      refine lv_iconst (v := 0) C.1 C.2.1 dX5_readDef_45 (by decide) ?_
      obtain ⟨rfl, rfl⟩ := so_inj hM
      exact h_zret C h (bz_ok _).1 dX5_readDef_46
theorem cy_X5_readDef : Cy yX5_readDef cX5_readDef 1 (some .boolean) 0 := ⟨cd_yX5_readDef, ii_X5, by decide, by decide, by decide +kernel⟩
set_option maxRecDepth 100000 in
theorem c_X5_readDef {l : Launch} {E : EE} {G : GG} {x0 : Nat} {m m9 : MM} {r9 : Bool} (hM : M_X5_readDef G x0 m = some (r9, m9)) (tx0 : Ty E G x0 5) : Mc l E yX5_readDef cX5_readDef 1 (some .boolean) rmX5_readDef [.ref x0] G m (cQi E (bz r9) G m9) := M_of (by decide) (Nat.le_of_ble_eq_true rfl) (fun p e s mth below meth c C h ls hl => cM_X5_readDef C hM tx0 _ _ h ls hl)
abbrev rmX5_readField : Room := { frames := 4, cells := 0, slots := 0, locals := 88 }
def M_X5_readField (G : GG) (x0 : Nat) (m : MM) : Option (Bool × MM) :=
  nb (gR m x0 0) fun b_1 =>
    bd (M_X9_advance G b_1 m) fun r_2 m_3 =>
      nb (gR m_3 x0 0) fun b_4 =>
        if (gI m_3 b_4 3) = 128 then
          nb (gR m_3 x0 4) fun b_5 =>
            nb (gR m_3 x0 2) fun b_6 =>
              bd (M_X1_addField G b_5 (gI m_3 b_4 4) (gI m_3 b_6 4) m_3) fun r_7 m_8 =>
                if r_7 = true then
                  nb (gR m_8 x0 0) fun b_9 =>
                    bd (M_X9_advance G b_9 m_8) fun r_10 m_11 =>
                      if r_10 = true then
                        nb (gR m_11 x0 0) fun b_12 =>
                          bd (M_X9_take G b_12 61 m_11) fun r_13 m_14 =>
                            if r_13 = true then
                              nb (gR m_14 x0 1) fun b_15 =>
                                bd (M_X2_read G b_15 1 m_14) fun r_16 m_17 =>
                                  if r_16 = true then
                                    nb (gR m_17 x0 0) fun b_18 =>
                                      bd (M_X9_take G b_18 59 m_17) fun r_19 m_20 =>
                                        if r_19 = true then
                                          some (true, m_20)
                                        else
                                          some (false, m_20)
                                  else
                                    some (false, m_17)
                            else
                              some (false, m_14)
                      else
                        some (false, m_11)
                else
                  some (false, m_8)
        else
          some (false, m_3)
set_option maxRecDepth 100000 in
set_option maxHeartbeats 4000000 in
theorem cM_X5_readField {p : Program} {l : Launch} {e : Env} {s : State} {mth : MethodId} {args : Array Value} {below : List Frame} {meth : Method} {c : Code} {E : EE} {G : GG} {r9 : Bool} {m9 : MM} (C : Cx E G p s mth args meth c cX5_readField RX5 "readField" 1 (some .boolean)) {x0 : Nat} {m : MM} (hM : M_X5_readField G x0 m = some (r9, m9)) (tx0 : Ty E G x0 5) : ∀ (H : Heap) (locs : List Loc), Hp E G m s H locs → ∀ ls : Array Slot, lv_has ls 1 [(0, .ref x0)] → W p l e rmX5_readField s mth args below meth c H locs 0 0 (MQ below (cQi E (bz r9) G m9) args s 0 0 (fun q => E.2.2.1 ≤ q)) (F0 mth 0 ls []) := by
  intro H locs h ls hl
  unfold M_X5_readField at hM
  refine lv_aload_n C.1 C.2.1 dX5_readField_0 rfl (lv_at hl 0 rfl) ?_
  refine gt_5_0 C h tx0 fl_X5_12 dX5_readField_1 ?_
  obtain ⟨b_1, hb_1, hM⟩ := nb_some hM
  have tb_1 : Ty E G b_1 9 := (fun b hb => tyf h tx0 hb) _ hb_1
  refine st_ref hb_1 ?_
  obtain ⟨r_2, m_3, hc_2, hM⟩ := bd_some hM
  refine h_callVi C h (As := []) (rest := []) (bz r_2) m_3 (c_X9_advance hc_2 tb_1) 9 rfl (by decide) tb_1 im_yX9_advance se_yX9_advance cy_X9_advance rfl ml_X5_91 ⟨by decide, by decide⟩ ⟨Nat.zero_le _, Nat.zero_le _⟩ hl.1 rfl (Nat.le_of_ble_eq_true rfl) dX5_readField_4 (fun H locs h => ?_)
  refine lv_pop C.1 C.2.1 dX5_readField_7 rfl ?_
  refine lv_aload_n C.1 C.2.1 dX5_readField_8 rfl (lv_at hl 0 rfl) ?_
  refine gt_5_0 C h tx0 fl_X5_12 dX5_readField_9 ?_
  obtain ⟨b_4, hb_4, hM⟩ := nb_some hM
  have tb_4 : Ty E G b_4 9 := (fun b hb => tyf h tx0 hb) _ hb_4
  refine st_ref hb_4 ?_
  refine gt_9_3 C h tb_4 fl_X5_47 dX5_readField_12 ?_
  refine lv_sipush (v := 128) C.1 C.2.1 dX5_readField_15 (by decide) ?_
  refine lv_icmp_ne (tgt := 45) C.1 C.2.1 dX5_readField_18 (by decide) (fun q => ?_) (fun q => ?_)
  · have hM := ite_f q hM
    refine lv_iconst (v := 0) C.1 C.2.1 dX5_readField_45 (by decide) ?_
    obtain ⟨rfl, rfl⟩ := so_inj hM
    exact h_zret C h (bz_ok _).1 dX5_readField_46
  · have hM := ite_t q hM
    refine lv_aload_n C.1 C.2.1 dX5_readField_21 rfl (lv_at hl 0 rfl) ?_
    refine gt_5_4 C h tx0 fl_X5_87 dX5_readField_22 ?_
    obtain ⟨b_5, hb_5, hM⟩ := nb_some hM
    have tb_5 : Ty E G b_5 1 := (fun b hb => tyf h tx0 hb) _ hb_5
    refine st_ref hb_5 ?_
    refine lv_aload_n C.1 C.2.1 dX5_readField_25 rfl (lv_at hl 0 rfl) ?_
    refine gt_5_0 C h tx0 fl_X5_12 dX5_readField_26 ?_
    refine st_ref hb_4 ?_
    refine gt_9_4 C h tb_4 fl_X5_65 dX5_readField_29 ?_
    refine lv_aload_n C.1 C.2.1 dX5_readField_32 rfl (lv_at hl 0 rfl) ?_
    refine gt_5_2 C h tx0 fl_X5_25 dX5_readField_33 ?_
    obtain ⟨b_6, hb_6, hM⟩ := nb_some hM
    have tb_6 : Ty E G b_6 6 := (fun b hb => tyf h tx0 hb) _ hb_6
    refine st_ref hb_6 ?_
    refine gt_6_4 C h tb_6 fl_X5_143 dX5_readField_36 ?_
    obtain ⟨r_7, m_8, hc_7, hM⟩ := bd_some hM
    refine h_callVi C h (As := [.int (gI m_3 b_4 4), .int (gI m_3 b_6 4)]) (rest := []) (bz r_7) m_8 (c_X1_addField hc_7 tb_5) 1 rfl (by decide) tb_5 im_yX1_addField se_yX1_addField cy_X1_addField rfl ml_X5_146 ⟨by decide, by decide⟩ ⟨Nat.zero_le _, Nat.zero_le _⟩ hl.1 rfl (Nat.le_of_ble_eq_true rfl) dX5_readField_39 (fun H locs h => ?_)
    refine h_ifnz (tgt := 47) C.1 C.2.1 dX5_readField_42 (by decide) (fun q => ?_) (fun q => ?_)
    · have hM := ite_t q hM
      refine lv_aload_n C.1 C.2.1 dX5_readField_47 rfl (lv_at hl 0 rfl) ?_
      refine gt_5_0 C h tx0 fl_X5_12 dX5_readField_48 ?_
      obtain ⟨b_9, hb_9, hM⟩ := nb_some hM
      have tb_9 : Ty E G b_9 9 := (fun b hb => tyf h tx0 hb) _ hb_9
      refine st_ref hb_9 ?_
      obtain ⟨r_10, m_11, hc_10, hM⟩ := bd_some hM
      refine h_callVi C h (As := []) (rest := []) (bz r_10) m_11 (c_X9_advance hc_10 tb_9) 9 rfl (by decide) tb_9 im_yX9_advance se_yX9_advance cy_X9_advance rfl ml_X5_91 ⟨by decide, by decide⟩ ⟨Nat.zero_le _, Nat.zero_le _⟩ hl.1 rfl (Nat.le_of_ble_eq_true rfl) dX5_readField_51 (fun H locs h => ?_)
      refine h_ifz (tgt := 96) C.1 C.2.1 dX5_readField_54 (by decide) (fun q => ?_) (fun q => ?_)
      · have hM := ite_f q hM
        refine lv_iconst (v := 0) C.1 C.2.1 dX5_readField_96 (by decide) ?_
        obtain ⟨rfl, rfl⟩ := so_inj hM
        exact h_zret C h (bz_ok _).1 dX5_readField_97
      · have hM := ite_t q hM
        refine lv_aload_n C.1 C.2.1 dX5_readField_57 rfl (lv_at hl 0 rfl) ?_
        refine gt_5_0 C h tx0 fl_X5_12 dX5_readField_58 ?_
        obtain ⟨b_12, hb_12, hM⟩ := nb_some hM
        have tb_12 : Ty E G b_12 9 := (fun b hb => tyf h tx0 hb) _ hb_12
        refine st_ref hb_12 ?_
        refine lv_bipush (v := 61) C.1 C.2.1 dX5_readField_61 (by decide) ?_
        obtain ⟨r_13, m_14, hc_13, hM⟩ := bd_some hM
        refine h_callVi C h (As := [.int 61]) (rest := []) (bz r_13) m_14 (c_X9_take hc_13 tb_12) 9 rfl (by decide) tb_12 im_yX9_take se_yX9_take cy_X9_take rfl ml_X5_51 ⟨by decide, by decide⟩ ⟨Nat.zero_le _, Nat.zero_le _⟩ hl.1 rfl (Nat.le_of_ble_eq_true rfl) dX5_readField_63 (fun H locs h => ?_)
        refine h_ifz (tgt := 96) C.1 C.2.1 dX5_readField_66 (by decide) (fun q => ?_) (fun q => ?_)
        · have hM := ite_f q hM
          refine lv_iconst (v := 0) C.1 C.2.1 dX5_readField_96 (by decide) ?_
          obtain ⟨rfl, rfl⟩ := so_inj hM
          exact h_zret C h (bz_ok _).1 dX5_readField_97
        · have hM := ite_t q hM
          refine lv_aload_n C.1 C.2.1 dX5_readField_69 rfl (lv_at hl 0 rfl) ?_
          refine gt_5_1 C h tx0 fl_X5_21 dX5_readField_70 ?_
          obtain ⟨b_15, hb_15, hM⟩ := nb_some hM
          have tb_15 : Ty E G b_15 2 := (fun b hb => tyf h tx0 hb) _ hb_15
          refine st_ref hb_15 ?_
          refine lv_iconst (v := 1) C.1 C.2.1 dX5_readField_73 (by decide) ?_
          obtain ⟨r_16, m_17, hc_16, hM⟩ := bd_some hM
          refine h_callVi C h (As := [.int 1]) (rest := []) (bz r_16) m_17 (c_X2_read hc_16 tb_15) 2 rfl (by decide) tb_15 im_yX2_read se_yX2_read cy_X2_read rfl ml_X5_122 ⟨by decide, by decide⟩ ⟨Nat.zero_le _, Nat.zero_le _⟩ hl.1 rfl (Nat.le_of_ble_eq_true rfl) dX5_readField_74 (fun H locs h => ?_)
          refine h_ifz (tgt := 96) C.1 C.2.1 dX5_readField_77 (by decide) (fun q => ?_) (fun q => ?_)
          · have hM := ite_f q hM
            refine lv_iconst (v := 0) C.1 C.2.1 dX5_readField_96 (by decide) ?_
            obtain ⟨rfl, rfl⟩ := so_inj hM
            exact h_zret C h (bz_ok _).1 dX5_readField_97
          · have hM := ite_t q hM
            refine lv_aload_n C.1 C.2.1 dX5_readField_80 rfl (lv_at hl 0 rfl) ?_
            refine gt_5_0 C h tx0 fl_X5_12 dX5_readField_81 ?_
            obtain ⟨b_18, hb_18, hM⟩ := nb_some hM
            have tb_18 : Ty E G b_18 9 := (fun b hb => tyf h tx0 hb) _ hb_18
            refine st_ref hb_18 ?_
            refine lv_bipush (v := 59) C.1 C.2.1 dX5_readField_84 (by decide) ?_
            obtain ⟨r_19, m_20, hc_19, hM⟩ := bd_some hM
            refine h_callVi C h (As := [.int 59]) (rest := []) (bz r_19) m_20 (c_X9_take hc_19 tb_18) 9 rfl (by decide) tb_18 im_yX9_take se_yX9_take cy_X9_take rfl ml_X5_51 ⟨by decide, by decide⟩ ⟨Nat.zero_le _, Nat.zero_le _⟩ hl.1 rfl (Nat.le_of_ble_eq_true rfl) dX5_readField_86 (fun H locs h => ?_)
            refine h_ifz (tgt := 96) C.1 C.2.1 dX5_readField_89 (by decide) (fun q => ?_) (fun q => ?_)
            · have hM := ite_f q hM
              refine lv_iconst (v := 0) C.1 C.2.1 dX5_readField_96 (by decide) ?_
              obtain ⟨rfl, rfl⟩ := so_inj hM
              exact h_zret C h (bz_ok _).1 dX5_readField_97
            · have hM := ite_t q hM
              refine lv_iconst (v := 1) C.1 C.2.1 dX5_readField_92 (by decide) ?_
              refine lv_goto (tgt := 97) C.1 C.2.1 dX5_readField_93 (by decide) ?_
              obtain ⟨rfl, rfl⟩ := so_inj hM
              exact h_zret C h (bz_ok _).1 dX5_readField_97
    · have hM := ite_f q hM
      refine lv_iconst (v := 0) C.1 C.2.1 dX5_readField_45 (by decide) ?_
      obtain ⟨rfl, rfl⟩ := so_inj hM
      exact h_zret C h (bz_ok _).1 dX5_readField_46
theorem cy_X5_readField : Cy yX5_readField cX5_readField 1 (some .boolean) 0 := ⟨cd_yX5_readField, ii_X5, by decide, by decide, by decide +kernel⟩
set_option maxRecDepth 100000 in
theorem c_X5_readField {l : Launch} {E : EE} {G : GG} {x0 : Nat} {m m9 : MM} {r9 : Bool} (hM : M_X5_readField G x0 m = some (r9, m9)) (tx0 : Ty E G x0 5) : Mc l E yX5_readField cX5_readField 1 (some .boolean) rmX5_readField [.ref x0] G m (cQi E (bz r9) G m9) := M_of (by decide) (Nat.le_of_ble_eq_true rfl) (fun p e s mth below meth c C h ls hl => cM_X5_readField C hM tx0 _ _ h ls hl)
abbrev rmX5_readConst : Room := { frames := 2, cells := 0, slots := 0, locals := 43 }
def B_X5_readConst_102 (G : GG) (x0 : Nat) (m : MM) : Option (Bool × MM) :=
  nb (gR m x0 0) fun b_1 =>
    bd (M_X9_take G b_1 129 m) fun r_2 m_3 =>
      if r_2 = true then
        nb (gR m_3 x0 0) fun b_4 =>
          bd (M_X9_take G b_4 59 m_3) fun r_5 m_6 =>
            if r_5 = true then
              some (true, m_6)
            else
              some (false, m_6)
      else
        some (false, m_3)
set_option maxRecDepth 100000 in
set_option maxHeartbeats 4000000 in
theorem cB_X5_readConst_102 {p : Program} {l : Launch} {e : Env} {s : State} {mth : MethodId} {args : Array Value} {below : List Frame} {meth : Method} {c : Code} {E : EE} {G : GG} {r9 : Bool} {m9 : MM} (C : Cx E G p s mth args meth c cX5_readConst RX5 "readConst" 2 (some .boolean)) {x0 : Nat} {m : MM} (hM : B_X5_readConst_102 G x0 m = some (r9, m9)) (tx0 : Ty E G x0 5) : ∀ (H : Heap) (locs : List Loc), Hp E G m s H locs → ∀ ls : Array Slot, lv_has ls 2 [(0, .ref x0)] → W p l e rmX5_readConst s mth args below meth c H locs 0 0 (MQ below (cQi E (bz r9) G m9) args s 0 0 (fun q => E.2.2.1 ≤ q)) (F0 mth 102 ls []) := by
  intro H locs h ls hl
  unfold B_X5_readConst_102 at hM
  refine lv_aload_n C.1 C.2.1 dX5_readConst_102 rfl (lv_at hl 0 rfl) ?_
  refine gt_5_0 C h tx0 fl_X5_12 dX5_readConst_103 ?_
  obtain ⟨b_1, hb_1, hM⟩ := nb_some hM
  have tb_1 : Ty E G b_1 9 := (fun b hb => tyf h tx0 hb) _ hb_1
  refine st_ref hb_1 ?_
  refine lv_sipush (v := 129) C.1 C.2.1 dX5_readConst_106 (by decide) ?_
  obtain ⟨r_2, m_3, hc_2, hM⟩ := bd_some hM
  refine h_callVi C h (As := [.int 129]) (rest := []) (bz r_2) m_3 (c_X9_take hc_2 tb_1) 9 rfl (by decide) tb_1 im_yX9_take se_yX9_take cy_X9_take rfl ml_X5_51 ⟨by decide, by decide⟩ ⟨Nat.zero_le _, Nat.zero_le _⟩ hl.1 rfl (Nat.le_of_ble_eq_true rfl) dX5_readConst_109 (fun H locs h => ?_)
  refine h_ifz (tgt := 131) C.1 C.2.1 dX5_readConst_112 (by decide) (fun q => ?_) (fun q => ?_)
  · have hM := ite_f q hM
    refine lv_iconst (v := 0) C.1 C.2.1 dX5_readConst_131 (by decide) ?_
    obtain ⟨rfl, rfl⟩ := so_inj hM
    exact h_zret C h (bz_ok _).1 dX5_readConst_132
  · have hM := ite_t q hM
    refine lv_aload_n C.1 C.2.1 dX5_readConst_115 rfl (lv_at hl 0 rfl) ?_
    refine gt_5_0 C h tx0 fl_X5_12 dX5_readConst_116 ?_
    obtain ⟨b_4, hb_4, hM⟩ := nb_some hM
    have tb_4 : Ty E G b_4 9 := (fun b hb => tyf h tx0 hb) _ hb_4
    refine st_ref hb_4 ?_
    refine lv_bipush (v := 59) C.1 C.2.1 dX5_readConst_119 (by decide) ?_
    obtain ⟨r_5, m_6, hc_5, hM⟩ := bd_some hM
    refine h_callVi C h (As := [.int 59]) (rest := []) (bz r_5) m_6 (c_X9_take hc_5 tb_4) 9 rfl (by decide) tb_4 im_yX9_take se_yX9_take cy_X9_take rfl ml_X5_51 ⟨by decide, by decide⟩ ⟨Nat.zero_le _, Nat.zero_le _⟩ hl.1 rfl (Nat.le_of_ble_eq_true rfl) dX5_readConst_121 (fun H locs h => ?_)
    refine h_ifz (tgt := 131) C.1 C.2.1 dX5_readConst_124 (by decide) (fun q => ?_) (fun q => ?_)
    · have hM := ite_f q hM
      refine lv_iconst (v := 0) C.1 C.2.1 dX5_readConst_131 (by decide) ?_
      obtain ⟨rfl, rfl⟩ := so_inj hM
      exact h_zret C h (bz_ok _).1 dX5_readConst_132
    · have hM := ite_t q hM
      refine lv_iconst (v := 1) C.1 C.2.1 dX5_readConst_127 (by decide) ?_
      refine lv_goto (tgt := 132) C.1 C.2.1 dX5_readConst_128 (by decide) ?_
      obtain ⟨rfl, rfl⟩ := so_inj hM
      exact h_zret C h (bz_ok _).1 dX5_readConst_132
def M_X5_readConst (G : GG) (x0 : Nat) (m : MM) : Option (Bool × MM) :=
  nb (gR m x0 0) fun b_7 =>
    bd (M_X9_advance G b_7 m) fun r_8 m_9 =>
      nb (gR m_9 x0 0) fun b_10 =>
        if (gI m_9 b_10 3) = 128 then
          nb (gR m_9 x0 4) fun b_11 =>
            bd (M_X1_addField G b_11 (gI m_9 b_10 4) (-1) m_9) fun r_12 m_13 =>
              if r_12 = true then
                nb (gR m_13 x0 0) fun b_14 =>
                  bd (M_X9_advance G b_14 m_13) fun r_15 m_16 =>
                    if r_15 = true then
                      nb (gR m_16 x0 0) fun b_17 =>
                        bd (M_X9_take G b_17 61 m_16) fun r_18 m_19 =>
                          if r_18 = true then
                            nb (gR m_19 x0 4) fun b_20 =>
                              bd (M_X1_hasField G b_20 ((gI m_19 b_20 14) - 1) m_19) fun r_21 m_22 =>
                                if r_21 = true then
                                  nb (gR m_22 x0 4) fun b_23 =>
                                    nb (gR m_22 b_23 8) fun b_24 =>
                                      nb (gR m_22 x0 0) fun b_25 =>
                                        ib ((gI m_19 b_20 14) - 1) (G.2.2 b_24) <|
                                          B_X5_readConst_102 G x0 (sI m_22 b_24 (((gI m_19 b_20 14) - 1).toNatClampNeg) (gI m_22 b_25 5))
                                else
                                  B_X5_readConst_102 G x0 m_22
                          else
                            some (false, m_19)
                    else
                      some (false, m_16)
              else
                some (false, m_13)
        else
          some (false, m_9)
set_option maxRecDepth 100000 in
set_option maxHeartbeats 4000000 in
theorem cM_X5_readConst {p : Program} {l : Launch} {e : Env} {s : State} {mth : MethodId} {args : Array Value} {below : List Frame} {meth : Method} {c : Code} {E : EE} {G : GG} {r9 : Bool} {m9 : MM} (C : Cx E G p s mth args meth c cX5_readConst RX5 "readConst" 2 (some .boolean)) {x0 : Nat} {m : MM} (hM : M_X5_readConst G x0 m = some (r9, m9)) (tx0 : Ty E G x0 5) : ∀ (H : Heap) (locs : List Loc), Hp E G m s H locs → ∀ ls : Array Slot, lv_has ls 2 [(0, .ref x0)] → W p l e rmX5_readConst s mth args below meth c H locs 0 0 (MQ below (cQi E (bz r9) G m9) args s 0 0 (fun q => E.2.2.1 ≤ q)) (F0 mth 0 ls []) := by
  intro H locs h ls hl
  unfold M_X5_readConst at hM
  refine lv_aload_n C.1 C.2.1 dX5_readConst_0 rfl (lv_at hl 0 rfl) ?_
  refine gt_5_0 C h tx0 fl_X5_12 dX5_readConst_1 ?_
  obtain ⟨b_7, hb_7, hM⟩ := nb_some hM
  have tb_7 : Ty E G b_7 9 := (fun b hb => tyf h tx0 hb) _ hb_7
  refine st_ref hb_7 ?_
  obtain ⟨r_8, m_9, hc_8, hM⟩ := bd_some hM
  refine h_callVi C h (As := []) (rest := []) (bz r_8) m_9 (c_X9_advance hc_8 tb_7) 9 rfl (by decide) tb_7 im_yX9_advance se_yX9_advance cy_X9_advance rfl ml_X5_91 ⟨by decide, by decide⟩ ⟨Nat.zero_le _, Nat.zero_le _⟩ hl.1 rfl (Nat.le_of_ble_eq_true rfl) dX5_readConst_4 (fun H locs h => ?_)
  refine lv_pop C.1 C.2.1 dX5_readConst_7 rfl ?_
  refine lv_aload_n C.1 C.2.1 dX5_readConst_8 rfl (lv_at hl 0 rfl) ?_
  refine gt_5_0 C h tx0 fl_X5_12 dX5_readConst_9 ?_
  obtain ⟨b_10, hb_10, hM⟩ := nb_some hM
  have tb_10 : Ty E G b_10 9 := (fun b hb => tyf h tx0 hb) _ hb_10
  refine st_ref hb_10 ?_
  refine gt_9_3 C h tb_10 fl_X5_47 dX5_readConst_12 ?_
  refine lv_sipush (v := 128) C.1 C.2.1 dX5_readConst_15 (by decide) ?_
  refine lv_icmp_ne (tgt := 39) C.1 C.2.1 dX5_readConst_18 (by decide) (fun q => ?_) (fun q => ?_)
  · have hM := ite_f q hM
    refine lv_iconst (v := 0) C.1 C.2.1 dX5_readConst_39 (by decide) ?_
    obtain ⟨rfl, rfl⟩ := so_inj hM
    exact h_zret C h (bz_ok _).1 dX5_readConst_40
  · have hM := ite_t q hM
    refine lv_aload_n C.1 C.2.1 dX5_readConst_21 rfl (lv_at hl 0 rfl) ?_
    refine gt_5_4 C h tx0 fl_X5_87 dX5_readConst_22 ?_
    obtain ⟨b_11, hb_11, hM⟩ := nb_some hM
    have tb_11 : Ty E G b_11 1 := (fun b hb => tyf h tx0 hb) _ hb_11
    refine st_ref hb_11 ?_
    refine lv_aload_n C.1 C.2.1 dX5_readConst_25 rfl (lv_at hl 0 rfl) ?_
    refine gt_5_0 C h tx0 fl_X5_12 dX5_readConst_26 ?_
    refine st_ref hb_10 ?_
    refine gt_9_4 C h tb_10 fl_X5_65 dX5_readConst_29 ?_
    refine lv_iconst (v := (-1)) C.1 C.2.1 dX5_readConst_32 (by decide) ?_
    obtain ⟨r_12, m_13, hc_12, hM⟩ := bd_some hM
    refine h_callVi C h (As := [.int (gI m_9 b_10 4), .int (-1)]) (rest := []) (bz r_12) m_13 (c_X1_addField hc_12 tb_11) 1 rfl (by decide) tb_11 im_yX1_addField se_yX1_addField cy_X1_addField rfl ml_X5_146 ⟨by decide, by decide⟩ ⟨Nat.zero_le _, Nat.zero_le _⟩ hl.1 rfl (Nat.le_of_ble_eq_true rfl) dX5_readConst_33 (fun H locs h => ?_)
    refine h_ifnz (tgt := 41) C.1 C.2.1 dX5_readConst_36 (by decide) (fun q => ?_) (fun q => ?_)
    · have hM := ite_t q hM
      refine lv_aload_n C.1 C.2.1 dX5_readConst_41 rfl (lv_at hl 0 rfl) ?_
      refine gt_5_0 C h tx0 fl_X5_12 dX5_readConst_42 ?_
      obtain ⟨b_14, hb_14, hM⟩ := nb_some hM
      have tb_14 : Ty E G b_14 9 := (fun b hb => tyf h tx0 hb) _ hb_14
      refine st_ref hb_14 ?_
      obtain ⟨r_15, m_16, hc_15, hM⟩ := bd_some hM
      refine h_callVi C h (As := []) (rest := []) (bz r_15) m_16 (c_X9_advance hc_15 tb_14) 9 rfl (by decide) tb_14 im_yX9_advance se_yX9_advance cy_X9_advance rfl ml_X5_91 ⟨by decide, by decide⟩ ⟨Nat.zero_le _, Nat.zero_le _⟩ hl.1 rfl (Nat.le_of_ble_eq_true rfl) dX5_readConst_45 (fun H locs h => ?_)
      refine h_ifz (tgt := 63) C.1 C.2.1 dX5_readConst_48 (by decide) (fun q => ?_) (fun q => ?_)
      · have hM := ite_f q hM
        refine lv_iconst (v := 0) C.1 C.2.1 dX5_readConst_63 (by decide) ?_
        obtain ⟨rfl, rfl⟩ := so_inj hM
        exact h_zret C h (bz_ok _).1 dX5_readConst_64
      · have hM := ite_t q hM
        refine lv_aload_n C.1 C.2.1 dX5_readConst_51 rfl (lv_at hl 0 rfl) ?_
        refine gt_5_0 C h tx0 fl_X5_12 dX5_readConst_52 ?_
        obtain ⟨b_17, hb_17, hM⟩ := nb_some hM
        have tb_17 : Ty E G b_17 9 := (fun b hb => tyf h tx0 hb) _ hb_17
        refine st_ref hb_17 ?_
        refine lv_bipush (v := 61) C.1 C.2.1 dX5_readConst_55 (by decide) ?_
        obtain ⟨r_18, m_19, hc_18, hM⟩ := bd_some hM
        refine h_callVi C h (As := [.int 61]) (rest := []) (bz r_18) m_19 (c_X9_take hc_18 tb_17) 9 rfl (by decide) tb_17 im_yX9_take se_yX9_take cy_X9_take rfl ml_X5_51 ⟨by decide, by decide⟩ ⟨Nat.zero_le _, Nat.zero_le _⟩ hl.1 rfl (Nat.le_of_ble_eq_true rfl) dX5_readConst_57 (fun H locs h => ?_)
        refine h_ifnz (tgt := 65) C.1 C.2.1 dX5_readConst_60 (by decide) (fun q => ?_) (fun q => ?_)
        · have hM := ite_t q hM
          refine lv_aload_n C.1 C.2.1 dX5_readConst_65 rfl (lv_at hl 0 rfl) ?_
          refine gt_5_4 C h tx0 fl_X5_87 dX5_readConst_66 ?_
          obtain ⟨b_20, hb_20, hM⟩ := nb_some hM
          have tb_20 : Ty E G b_20 1 := (fun b hb => tyf h tx0 hb) _ hb_20
          refine st_ref hb_20 ?_
          refine gt_1_14 C h tb_20 fl_X5_149 dX5_readConst_69 ?_
          refine lv_iconst (v := 1) C.1 C.2.1 dX5_readConst_72 (by decide) ?_
          refine lv_isub C.1 C.2.1 dX5_readConst_73 ?_
          refine lv_istore_n (lv' := [(1, .int ((gI m_19 b_20 14) - 1)), (0, .ref x0)]) C.1 C.2.1 dX5_readConst_74 rfl hl (by decide) rfl (fun ls hl => ?_)
          refine lv_aload_n C.1 C.2.1 dX5_readConst_75 rfl (lv_at hl 1 rfl) ?_
          refine gt_5_4 C h tx0 fl_X5_87 dX5_readConst_76 ?_
          refine st_ref hb_20 ?_
          refine lv_iload_n C.1 C.2.1 dX5_readConst_79 rfl (lv_at hl 0 rfl) ?_
          obtain ⟨r_21, m_22, hc_21, hM⟩ := bd_some hM
          refine h_callVi C h (As := [.int ((gI m_19 b_20 14) - 1)]) (rest := []) (bz r_21) m_22 (c_X1_hasField hc_21 tb_20) 1 rfl (by decide) tb_20 im_yX1_hasField se_yX1_hasField cy_X1_hasField rfl ml_X5_152 ⟨by decide, by decide⟩ ⟨Nat.zero_le _, Nat.zero_le _⟩ hl.1 rfl (Nat.le_of_ble_eq_true rfl) dX5_readConst_80 (fun H locs h => ?_)
          refine h_ifz (tgt := 102) C.1 C.2.1 dX5_readConst_83 (by decide) (fun q => ?_) (fun q => ?_)
          · have hM := ite_f q hM
            exact cB_X5_readConst_102 C hM tx0 _ _ h ls (lv_sub hl [1] rfl)
          · have hM := ite_t q hM
            refine lv_aload_n C.1 C.2.1 dX5_readConst_86 rfl (lv_at hl 1 rfl) ?_
            refine gt_5_4 C h tx0 fl_X5_87 dX5_readConst_87 ?_
            obtain ⟨b_23, hb_23, hM⟩ := nb_some hM
            have tb_23 : Ty E G b_23 1 := (fun b hb => tyf h tx0 hb) _ hb_23
            refine st_ref hb_23 ?_
            refine gt_1_8 C h tb_23 fl_X5_155 dX5_readConst_90 ?_
            obtain ⟨b_24, hb_24, hM⟩ := nb_some hM
            have tb_24 : Ty E G b_24 12 := (fun b hb => tyf h tb_23 hb) _ hb_24
            refine st_ref hb_24 ?_
            refine lv_iload_n C.1 C.2.1 dX5_readConst_93 rfl (lv_at hl 0 rfl) ?_
            refine lv_aload_n C.1 C.2.1 dX5_readConst_94 rfl (lv_at hl 1 rfl) ?_
            refine gt_5_0 C h tx0 fl_X5_12 dX5_readConst_95 ?_
            obtain ⟨b_25, hb_25, hM⟩ := nb_some hM
            have tb_25 : Ty E G b_25 9 := (fun b hb => tyf h tx0 hb) _ hb_25
            refine st_ref hb_25 ?_
            refine gt_9_5 C h tb_25 fl_X5_115 dX5_readConst_98 ?_
            obtain ⟨hi, hM⟩ := ib_some hM
            refine h_iast C h tb_24 hi dX5_readConst_101 (fun H locs h => ?_)
            exact cB_X5_readConst_102 C hM tx0 _ _ h ls (lv_sub hl [1] rfl)
        · have hM := ite_f q hM
          refine lv_iconst (v := 0) C.1 C.2.1 dX5_readConst_63 (by decide) ?_
          obtain ⟨rfl, rfl⟩ := so_inj hM
          exact h_zret C h (bz_ok _).1 dX5_readConst_64
    · have hM := ite_f q hM
      refine lv_iconst (v := 0) C.1 C.2.1 dX5_readConst_39 (by decide) ?_
      obtain ⟨rfl, rfl⟩ := so_inj hM
      exact h_zret C h (bz_ok _).1 dX5_readConst_40
theorem cy_X5_readConst : Cy yX5_readConst cX5_readConst 2 (some .boolean) 0 := ⟨cd_yX5_readConst, ii_X5, by decide, by decide, by decide +kernel⟩
set_option maxRecDepth 100000 in
theorem c_X5_readConst {l : Launch} {E : EE} {G : GG} {x0 : Nat} {m m9 : MM} {r9 : Bool} (hM : M_X5_readConst G x0 m = some (r9, m9)) (tx0 : Ty E G x0 5) : Mc l E yX5_readConst cX5_readConst 2 (some .boolean) rmX5_readConst [.ref x0] G m (cQi E (bz r9) G m9) := M_of (by decide) (Nat.le_of_ble_eq_true rfl) (fun p e s mth below meth c C h ls hl => cM_X5_readConst C hM tx0 _ _ h ls hl)
abbrev rmX5_readMaker : Room := { frames := 4, cells := 0, slots := 0, locals := 88 }
def B_X5_readMaker_26 (G : GG) (x0 : Nat) (m : MM) : Option (Bool × MM) :=
  nb (gR m x0 2) fun b_1 =>
    bd (M_X6_put G b_1 15 0 m) fun r_2 m_3 =>
      nb (gR m_3 x0 4) fun b_4 =>
        nb (gR m_3 x0 2) fun b_5 =>
          nb (gR (sI m_3 b_4 16 (gI m_3 b_5 4)) x0 0) fun b_6 =>
            bd (M_X9_advance G b_6 (sI m_3 b_4 16 (gI m_3 b_5 4))) fun r_7 m_8 =>
              if r_7 = true then
                nb (gR m_8 x0 0) fun b_9 =>
                  bd (M_X9_take G b_9 61 m_8) fun r_10 m_11 =>
                    if r_10 = true then
                      nb (gR m_11 x0 1) fun b_12 =>
                        bd (M_X2_read G b_12 2 m_11) fun r_13 m_14 =>
                          if r_13 = true then
                            nb (gR m_14 x0 0) fun b_15 =>
                              bd (M_X9_take G b_15 59 m_14) fun r_16 m_17 =>
                                if r_16 = true then
                                  some (true, m_17)
                                else
                                  some (false, m_17)
                          else
                            some (false, m_14)
                    else
                      some (false, m_11)
              else
                some (false, m_8)
set_option maxRecDepth 100000 in
set_option maxHeartbeats 4000000 in
theorem cB_X5_readMaker_26 {p : Program} {l : Launch} {e : Env} {s : State} {mth : MethodId} {args : Array Value} {below : List Frame} {meth : Method} {c : Code} {E : EE} {G : GG} {r9 : Bool} {m9 : MM} (C : Cx E G p s mth args meth c cX5_readMaker RX5 "readMaker" 1 (some .boolean)) {x0 : Nat} {m : MM} (hM : B_X5_readMaker_26 G x0 m = some (r9, m9)) (tx0 : Ty E G x0 5) : ∀ (H : Heap) (locs : List Loc), Hp E G m s H locs → ∀ ls : Array Slot, lv_has ls 1 [(0, .ref x0)] → W p l e rmX5_readMaker s mth args below meth c H locs 0 0 (MQ below (cQi E (bz r9) G m9) args s 0 0 (fun q => E.2.2.1 ≤ q)) (F0 mth 26 ls []) := by
  intro H locs h ls hl
  unfold B_X5_readMaker_26 at hM
  refine lv_aload_n C.1 C.2.1 dX5_readMaker_26 rfl (lv_at hl 0 rfl) ?_
  refine gt_5_2 C h tx0 fl_X5_25 dX5_readMaker_27 ?_
  obtain ⟨b_1, hb_1, hM⟩ := nb_some hM
  have tb_1 : Ty E G b_1 6 := (fun b hb => tyf h tx0 hb) _ hb_1
  refine st_ref hb_1 ?_
  refine lv_bipush (v := 15) C.1 C.2.1 dX5_readMaker_30 (by decide) ?_
  refine lv_iconst (v := 0) C.1 C.2.1 dX5_readMaker_32 (by decide) ?_
  obtain ⟨r_2, m_3, hc_2, hM⟩ := bd_some hM
  refine h_callVi C h (As := [.int 15, .int 0]) (rest := []) (bz r_2) m_3 (c_X6_put hc_2 tb_1) 6 rfl (by decide) tb_1 im_yX6_put se_yX6_put cy_X6_put rfl ml_X5_79 ⟨by decide, by decide⟩ ⟨Nat.zero_le _, Nat.zero_le _⟩ hl.1 rfl (Nat.le_of_ble_eq_true rfl) dX5_readMaker_33 (fun H locs h => ?_)
  refine lv_pop C.1 C.2.1 dX5_readMaker_36 rfl ?_
  refine lv_aload_n C.1 C.2.1 dX5_readMaker_37 rfl (lv_at hl 0 rfl) ?_
  refine gt_5_4 C h tx0 fl_X5_87 dX5_readMaker_38 ?_
  obtain ⟨b_4, hb_4, hM⟩ := nb_some hM
  have tb_4 : Ty E G b_4 1 := (fun b hb => tyf h tx0 hb) _ hb_4
  refine st_ref hb_4 ?_
  refine lv_aload_n C.1 C.2.1 dX5_readMaker_41 rfl (lv_at hl 0 rfl) ?_
  refine gt_5_2 C h tx0 fl_X5_25 dX5_readMaker_42 ?_
  obtain ⟨b_5, hb_5, hM⟩ := nb_some hM
  have tb_5 : Ty E G b_5 6 := (fun b hb => tyf h tx0 hb) _ hb_5
  refine st_ref hb_5 ?_
  refine gt_6_4 C h tb_5 fl_X5_143 dX5_readMaker_45 ?_
  refine pt_1_16 C h tb_4 fl_X5_158 dX5_readMaker_48 (fun H locs h => ?_)
  refine lv_aload_n C.1 C.2.1 dX5_readMaker_51 rfl (lv_at hl 0 rfl) ?_
  refine gt_5_0 C h tx0 fl_X5_12 dX5_readMaker_52 ?_
  obtain ⟨b_6, hb_6, hM⟩ := nb_some hM
  have tb_6 : Ty E G b_6 9 := (fun b hb => tyf h tx0 hb) _ hb_6
  refine st_ref hb_6 ?_
  obtain ⟨r_7, m_8, hc_7, hM⟩ := bd_some hM
  refine h_callVi C h (As := []) (rest := []) (bz r_7) m_8 (c_X9_advance hc_7 tb_6) 9 rfl (by decide) tb_6 im_yX9_advance se_yX9_advance cy_X9_advance rfl ml_X5_91 ⟨by decide, by decide⟩ ⟨Nat.zero_le _, Nat.zero_le _⟩ hl.1 rfl (Nat.le_of_ble_eq_true rfl) dX5_readMaker_55 (fun H locs h => ?_)
  refine h_ifz (tgt := 100) C.1 C.2.1 dX5_readMaker_58 (by decide) (fun q => ?_) (fun q => ?_)
  · have hM := ite_f q hM
    refine lv_iconst (v := 0) C.1 C.2.1 dX5_readMaker_100 (by decide) ?_
    obtain ⟨rfl, rfl⟩ := so_inj hM
    exact h_zret C h (bz_ok _).1 dX5_readMaker_101
  · have hM := ite_t q hM
    refine lv_aload_n C.1 C.2.1 dX5_readMaker_61 rfl (lv_at hl 0 rfl) ?_
    refine gt_5_0 C h tx0 fl_X5_12 dX5_readMaker_62 ?_
    obtain ⟨b_9, hb_9, hM⟩ := nb_some hM
    have tb_9 : Ty E G b_9 9 := (fun b hb => tyf h tx0 hb) _ hb_9
    refine st_ref hb_9 ?_
    refine lv_bipush (v := 61) C.1 C.2.1 dX5_readMaker_65 (by decide) ?_
    obtain ⟨r_10, m_11, hc_10, hM⟩ := bd_some hM
    refine h_callVi C h (As := [.int 61]) (rest := []) (bz r_10) m_11 (c_X9_take hc_10 tb_9) 9 rfl (by decide) tb_9 im_yX9_take se_yX9_take cy_X9_take rfl ml_X5_51 ⟨by decide, by decide⟩ ⟨Nat.zero_le _, Nat.zero_le _⟩ hl.1 rfl (Nat.le_of_ble_eq_true rfl) dX5_readMaker_67 (fun H locs h => ?_)
    refine h_ifz (tgt := 100) C.1 C.2.1 dX5_readMaker_70 (by decide) (fun q => ?_) (fun q => ?_)
    · have hM := ite_f q hM
      refine lv_iconst (v := 0) C.1 C.2.1 dX5_readMaker_100 (by decide) ?_
      obtain ⟨rfl, rfl⟩ := so_inj hM
      exact h_zret C h (bz_ok _).1 dX5_readMaker_101
    · have hM := ite_t q hM
      refine lv_aload_n C.1 C.2.1 dX5_readMaker_73 rfl (lv_at hl 0 rfl) ?_
      refine gt_5_1 C h tx0 fl_X5_21 dX5_readMaker_74 ?_
      obtain ⟨b_12, hb_12, hM⟩ := nb_some hM
      have tb_12 : Ty E G b_12 2 := (fun b hb => tyf h tx0 hb) _ hb_12
      refine st_ref hb_12 ?_
      refine lv_iconst (v := 2) C.1 C.2.1 dX5_readMaker_77 (by decide) ?_
      obtain ⟨r_13, m_14, hc_13, hM⟩ := bd_some hM
      refine h_callVi C h (As := [.int 2]) (rest := []) (bz r_13) m_14 (c_X2_read hc_13 tb_12) 2 rfl (by decide) tb_12 im_yX2_read se_yX2_read cy_X2_read rfl ml_X5_122 ⟨by decide, by decide⟩ ⟨Nat.zero_le _, Nat.zero_le _⟩ hl.1 rfl (Nat.le_of_ble_eq_true rfl) dX5_readMaker_78 (fun H locs h => ?_)
      refine h_ifz (tgt := 100) C.1 C.2.1 dX5_readMaker_81 (by decide) (fun q => ?_) (fun q => ?_)
      · have hM := ite_f q hM
        refine lv_iconst (v := 0) C.1 C.2.1 dX5_readMaker_100 (by decide) ?_
        obtain ⟨rfl, rfl⟩ := so_inj hM
        exact h_zret C h (bz_ok _).1 dX5_readMaker_101
      · have hM := ite_t q hM
        refine lv_aload_n C.1 C.2.1 dX5_readMaker_84 rfl (lv_at hl 0 rfl) ?_
        refine gt_5_0 C h tx0 fl_X5_12 dX5_readMaker_85 ?_
        obtain ⟨b_15, hb_15, hM⟩ := nb_some hM
        have tb_15 : Ty E G b_15 9 := (fun b hb => tyf h tx0 hb) _ hb_15
        refine st_ref hb_15 ?_
        refine lv_bipush (v := 59) C.1 C.2.1 dX5_readMaker_88 (by decide) ?_
        obtain ⟨r_16, m_17, hc_16, hM⟩ := bd_some hM
        refine h_callVi C h (As := [.int 59]) (rest := []) (bz r_16) m_17 (c_X9_take hc_16 tb_15) 9 rfl (by decide) tb_15 im_yX9_take se_yX9_take cy_X9_take rfl ml_X5_51 ⟨by decide, by decide⟩ ⟨Nat.zero_le _, Nat.zero_le _⟩ hl.1 rfl (Nat.le_of_ble_eq_true rfl) dX5_readMaker_90 (fun H locs h => ?_)
        refine h_ifz (tgt := 100) C.1 C.2.1 dX5_readMaker_93 (by decide) (fun q => ?_) (fun q => ?_)
        · have hM := ite_f q hM
          refine lv_iconst (v := 0) C.1 C.2.1 dX5_readMaker_100 (by decide) ?_
          obtain ⟨rfl, rfl⟩ := so_inj hM
          exact h_zret C h (bz_ok _).1 dX5_readMaker_101
        · have hM := ite_t q hM
          refine lv_iconst (v := 1) C.1 C.2.1 dX5_readMaker_96 (by decide) ?_
          refine lv_goto (tgt := 101) C.1 C.2.1 dX5_readMaker_97 (by decide) ?_
          obtain ⟨rfl, rfl⟩ := so_inj hM
          exact h_zret C h (bz_ok _).1 dX5_readMaker_101
def M_X5_readMaker (G : GG) (x0 : Nat) (m : MM) : Option (Bool × MM) :=
  nb (gR m x0 4) fun b_18 =>
    if (gI m b_18 16) = (-1) then
      B_X5_readMaker_26 G x0 m
    else
      nb (gR m x0 3) fun b_19 =>
        nb (gR m x0 0) fun b_20 =>
          bd (M_X3_note G b_19 2 (gI m b_20 4) m) fun _ m_22 =>
            B_X5_readMaker_26 G x0 m_22
set_option maxRecDepth 100000 in
set_option maxHeartbeats 4000000 in
theorem cM_X5_readMaker {p : Program} {l : Launch} {e : Env} {s : State} {mth : MethodId} {args : Array Value} {below : List Frame} {meth : Method} {c : Code} {E : EE} {G : GG} {r9 : Bool} {m9 : MM} (C : Cx E G p s mth args meth c cX5_readMaker RX5 "readMaker" 1 (some .boolean)) {x0 : Nat} {m : MM} (hM : M_X5_readMaker G x0 m = some (r9, m9)) (tx0 : Ty E G x0 5) : ∀ (H : Heap) (locs : List Loc), Hp E G m s H locs → ∀ ls : Array Slot, lv_has ls 1 [(0, .ref x0)] → W p l e rmX5_readMaker s mth args below meth c H locs 0 0 (MQ below (cQi E (bz r9) G m9) args s 0 0 (fun q => E.2.2.1 ≤ q)) (F0 mth 0 ls []) := by
  intro H locs h ls hl
  unfold M_X5_readMaker at hM
  refine lv_aload_n C.1 C.2.1 dX5_readMaker_0 rfl (lv_at hl 0 rfl) ?_
  refine gt_5_4 C h tx0 fl_X5_87 dX5_readMaker_1 ?_
  obtain ⟨b_18, hb_18, hM⟩ := nb_some hM
  have tb_18 : Ty E G b_18 1 := (fun b hb => tyf h tx0 hb) _ hb_18
  refine st_ref hb_18 ?_
  refine gt_1_16 C h tb_18 fl_X5_158 dX5_readMaker_4 ?_
  refine lv_iconst (v := (-1)) C.1 C.2.1 dX5_readMaker_7 (by decide) ?_
  refine lv_icmp_eq (tgt := 26) C.1 C.2.1 dX5_readMaker_8 (by decide) (fun q => ?_) (fun q => ?_)
  · have hM := ite_t q hM
    exact cB_X5_readMaker_26 C hM tx0 _ _ h ls (lv_sub hl [0] rfl)
  · have hM := ite_f q hM
    refine lv_aload_n C.1 C.2.1 dX5_readMaker_11 rfl (lv_at hl 0 rfl) ?_
    refine gt_5_3 C h tx0 fl_X5_29 dX5_readMaker_12 ?_
    obtain ⟨b_19, hb_19, hM⟩ := nb_some hM
    have tb_19 : Ty E G b_19 3 := (fun b hb => tyf h tx0 hb) _ hb_19
    refine st_ref hb_19 ?_
    refine lv_iconst (v := 2) C.1 C.2.1 dX5_readMaker_15 (by decide) ?_
    refine lv_aload_n C.1 C.2.1 dX5_readMaker_16 rfl (lv_at hl 0 rfl) ?_
    refine gt_5_0 C h tx0 fl_X5_12 dX5_readMaker_17 ?_
    obtain ⟨b_20, hb_20, hM⟩ := nb_some hM
    have tb_20 : Ty E G b_20 9 := (fun b hb => tyf h tx0 hb) _ hb_20
    refine st_ref hb_20 ?_
    refine gt_9_4 C h tb_20 fl_X5_65 dX5_readMaker_20 ?_
    obtain ⟨r_21, m_22, hc_21, hM⟩ := bd_some hM
    refine h_callVv C h (As := [.int 2, .int (gI m b_20 4)]) (rest := []) m_22 (c_X3_note hc_21 tb_19) 3 rfl (by decide) tb_19 im_yX3_note se_yX3_note cy_X3_note rfl ml_X5_161 ⟨by decide, by decide⟩ ⟨Nat.zero_le _, Nat.zero_le _⟩ hl.1 rfl (Nat.le_of_ble_eq_true rfl) dX5_readMaker_23 (fun H locs h => ?_)
    exact cB_X5_readMaker_26 C hM tx0 _ _ h ls (lv_sub hl [0] rfl)
theorem cy_X5_readMaker : Cy yX5_readMaker cX5_readMaker 1 (some .boolean) 0 := ⟨cd_yX5_readMaker, ii_X5, by decide, by decide, by decide +kernel⟩
set_option maxRecDepth 100000 in
theorem c_X5_readMaker {l : Launch} {E : EE} {G : GG} {x0 : Nat} {m m9 : MM} {r9 : Bool} (hM : M_X5_readMaker G x0 m = some (r9, m9)) (tx0 : Ty E G x0 5) : Mc l E yX5_readMaker cX5_readMaker 1 (some .boolean) rmX5_readMaker [.ref x0] G m (cQi E (bz r9) G m9) := M_of (by decide) (Nat.le_of_ble_eq_true rfl) (fun p e s mth below meth c C h ls hl => cM_X5_readMaker C hM tx0 _ _ h ls hl)
abbrev rmX5_readMembers : Room := { frames := 5, cells := 0, slots := 0, locals := 108 }
def B_X5_readMembers_26 (G : GG) : Nat → Nat → Bool → Int32 → MM → Option (Bool × MM)
  | 0, _, _, _, _ => none
  | fu + 1, x0, x1, x2, m =>
    if 2000 ≤ x2 then
      some (x1, m)
    else
      if x1 = true then
        nb (gR m x0 0) fun b_1 =>
          if (gI m b_1 3) = 133 then
            bd (M_X5_readAbstract G x0 m) fun r_2 m_3 =>
              B_X5_readMembers_26 G fu x0 r_2 (x2 + 1) m_3
          else
            if (gI m b_1 3) = 134 then
              bd (M_X5_readDef G x0 m) fun r_4 m_5 =>
                B_X5_readMembers_26 G fu x0 r_4 (x2 + 1) m_5
            else
              if (gI m b_1 3) = 135 then
                bd (M_X5_readField G x0 m) fun r_6 m_7 =>
                  B_X5_readMembers_26 G fu x0 r_6 (x2 + 1) m_7
              else
                if (gI m b_1 3) = 136 then
                  bd (M_X5_readConst G x0 m) fun r_8 m_9 =>
                    B_X5_readMembers_26 G fu x0 r_8 (x2 + 1) m_9
                else
                  if (gI m b_1 3) = 137 then
                    bd (M_X5_readMaker G x0 m) fun r_10 m_11 =>
                      B_X5_readMembers_26 G fu x0 r_10 (x2 + 1) m_11
                  else
                    some (true, m)
      else
        some (x1, m)
set_option maxRecDepth 100000 in
set_option maxHeartbeats 4000000 in
theorem cB_X5_readMembers_26 {p : Program} {l : Launch} {e : Env} {s : State} {mth : MethodId} {args : Array Value} {below : List Frame} {meth : Method} {c : Code} {E : EE} {G : GG} {r9 : Bool} {m9 : MM} (C : Cx E G p s mth args meth c cX5_readMembers RX5 "readMembers" 3 (some .boolean)) : ∀ (fu : Nat) (x0 : Nat) (x1 : Bool) (x2 : Int32) (m : MM), B_X5_readMembers_26 G fu x0 x1 x2 m = some (r9, m9) → (Ty E G x0 5) → ∀ (H : Heap) (locs : List Loc), Hp E G m s H locs → ∀ ls : Array Slot, lv_has ls 3 [(0, .ref x0), (1, .int (bz x1)), (2, .int x2)] → W p l e rmX5_readMembers s mth args below meth c H locs 0 0 (MQ below (cQi E (bz r9) G m9) args s 0 0 (fun q => E.2.2.1 ≤ q)) (F0 mth 26 ls []) := by
  intro fu
  induction fu with
  | zero =>
    intro x0 x1 x2 m hM
    rw [B_X5_readMembers_26] at hM
    cases hM
  | succ fu ih =>
    intro x0 x1 x2 m hM tx0 H locs h ls hl
    rw [B_X5_readMembers_26] at hM
    refine lv_iload_n C.1 C.2.1 dX5_readMembers_26 rfl (lv_at hl 2 rfl) ?_
    refine lv_sipush (v := 2000) C.1 C.2.1 dX5_readMembers_27 (by decide) ?_
    refine lv_icmp_ge (tgt := 128) C.1 C.2.1 dX5_readMembers_30 (by decide) (fun q => ?_) (fun q => ?_)
    · have hM := ite_t q hM
      refine lv_iload_n C.1 C.2.1 dX5_readMembers_128 rfl (lv_at hl 1 rfl) ?_
      obtain ⟨rfl, rfl⟩ := so_inj hM
      exact h_zret C h (bz_ok _).1 dX5_readMembers_129
    · have hM := ite_f q hM
      refine lv_iload_n C.1 C.2.1 dX5_readMembers_33 rfl (lv_at hl 1 rfl) ?_
      refine h_ifz (tgt := 128) C.1 C.2.1 dX5_readMembers_34 (by decide) (fun q => ?_) (fun q => ?_)
      · have hM := ite_f q hM
        refine lv_iload_n C.1 C.2.1 dX5_readMembers_128 rfl (lv_at hl 1 rfl) ?_
        obtain ⟨rfl, rfl⟩ := so_inj hM
        exact h_zret C h (bz_ok _).1 dX5_readMembers_129
      · have hM := ite_t q hM
        refine lv_aload_n C.1 C.2.1 dX5_readMembers_37 rfl (lv_at hl 0 rfl) ?_
        refine gt_5_0 C h tx0 fl_X5_12 dX5_readMembers_38 ?_
        obtain ⟨b_1, hb_1, hM⟩ := nb_some hM
        have tb_1 : Ty E G b_1 9 := (fun b hb => tyf h tx0 hb) _ hb_1
        refine st_ref hb_1 ?_
        refine gt_9_3 C h tb_1 fl_X5_47 dX5_readMembers_41 ?_
        by_cases q0 : (gI m b_1 3) = 133
        · have hM := ite_t q0 hM
          refine h_tabIn q0 (tgt := 80) C.1 C.2.1 dX5_readMembers_44 (by decide) (by decide) rfl (by decide) ?_
          refine lv_aload_n C.1 C.2.1 dX5_readMembers_80 rfl (lv_at hl 0 rfl) ?_
          obtain ⟨r_2, m_3, hc_2, hM⟩ := bd_some hM
          refine h_callVi C h (As := []) (rest := []) (bz r_2) m_3 (c_X5_readAbstract hc_2 tx0) 5 rfl (by decide) tx0 im_yX5_readAbstract se_yX5_readAbstract cy_X5_readAbstract rfl ml_X5_125 ⟨by decide, by decide⟩ ⟨Nat.zero_le _, Nat.zero_le _⟩ hl.1 rfl (Nat.le_of_ble_eq_true rfl) dX5_readMembers_81 (fun H locs h => ?_)
          refine lv_istore_n (lv' := [(1, .int (bz r_2)), (0, .ref x0), (2, .int x2)]) C.1 C.2.1 dX5_readMembers_84 rfl hl (by decide) rfl (fun ls hl => ?_)
          refine lv_goto (tgt := 122) C.1 C.2.1 dX5_readMembers_85 (by decide) ?_
          refine lv_iinc (v := x2 + 1) (lv' := [(2, .int (x2 + 1)), (1, .int (bz r_2)), (0, .ref x0)]) C.1 C.2.1 dX5_readMembers_122 hl (k := 2) rfl rfl (by decide) rfl (fun ls hl => ?_)
          refine lv_goto (tgt := 26) C.1 C.2.1 dX5_readMembers_125 (by decide) ?_
          exact ih _ _ _ _ hM tx0 _ _ h ls (lv_sub hl [2, 1, 0] rfl)
        · have hM := ite_f q0 hM
          by_cases q1 : (gI m b_1 3) = 134
          · have hM := ite_t q1 hM
            refine h_tabIn q1 (tgt := 88) C.1 C.2.1 dX5_readMembers_44 (by decide) (by decide) rfl (by decide) ?_
            refine lv_aload_n C.1 C.2.1 dX5_readMembers_88 rfl (lv_at hl 0 rfl) ?_
            obtain ⟨r_4, m_5, hc_4, hM⟩ := bd_some hM
            refine h_callVi C h (As := []) (rest := []) (bz r_4) m_5 (c_X5_readDef hc_4 tx0) 5 rfl (by decide) tx0 im_yX5_readDef se_yX5_readDef cy_X5_readDef rfl ml_X5_128 ⟨by decide, by decide⟩ ⟨Nat.zero_le _, Nat.zero_le _⟩ hl.1 rfl (Nat.le_of_ble_eq_true rfl) dX5_readMembers_89 (fun H locs h => ?_)
            refine lv_istore_n (lv' := [(1, .int (bz r_4)), (0, .ref x0), (2, .int x2)]) C.1 C.2.1 dX5_readMembers_92 rfl hl (by decide) rfl (fun ls hl => ?_)
            refine lv_goto (tgt := 122) C.1 C.2.1 dX5_readMembers_93 (by decide) ?_
            refine lv_iinc (v := x2 + 1) (lv' := [(2, .int (x2 + 1)), (1, .int (bz r_4)), (0, .ref x0)]) C.1 C.2.1 dX5_readMembers_122 hl (k := 2) rfl rfl (by decide) rfl (fun ls hl => ?_)
            refine lv_goto (tgt := 26) C.1 C.2.1 dX5_readMembers_125 (by decide) ?_
            exact ih _ _ _ _ hM tx0 _ _ h ls (lv_sub hl [2, 1, 0] rfl)
          · have hM := ite_f q1 hM
            by_cases q2 : (gI m b_1 3) = 135
            · have hM := ite_t q2 hM
              refine h_tabIn q2 (tgt := 96) C.1 C.2.1 dX5_readMembers_44 (by decide) (by decide) rfl (by decide) ?_
              refine lv_aload_n C.1 C.2.1 dX5_readMembers_96 rfl (lv_at hl 0 rfl) ?_
              obtain ⟨r_6, m_7, hc_6, hM⟩ := bd_some hM
              refine h_callVi C h (As := []) (rest := []) (bz r_6) m_7 (c_X5_readField hc_6 tx0) 5 rfl (by decide) tx0 im_yX5_readField se_yX5_readField cy_X5_readField rfl ml_X5_131 ⟨by decide, by decide⟩ ⟨Nat.zero_le _, Nat.zero_le _⟩ hl.1 rfl (Nat.le_of_ble_eq_true rfl) dX5_readMembers_97 (fun H locs h => ?_)
              refine lv_istore_n (lv' := [(1, .int (bz r_6)), (0, .ref x0), (2, .int x2)]) C.1 C.2.1 dX5_readMembers_100 rfl hl (by decide) rfl (fun ls hl => ?_)
              refine lv_goto (tgt := 122) C.1 C.2.1 dX5_readMembers_101 (by decide) ?_
              refine lv_iinc (v := x2 + 1) (lv' := [(2, .int (x2 + 1)), (1, .int (bz r_6)), (0, .ref x0)]) C.1 C.2.1 dX5_readMembers_122 hl (k := 2) rfl rfl (by decide) rfl (fun ls hl => ?_)
              refine lv_goto (tgt := 26) C.1 C.2.1 dX5_readMembers_125 (by decide) ?_
              exact ih _ _ _ _ hM tx0 _ _ h ls (lv_sub hl [2, 1, 0] rfl)
            · have hM := ite_f q2 hM
              by_cases q3 : (gI m b_1 3) = 136
              · have hM := ite_t q3 hM
                refine h_tabIn q3 (tgt := 104) C.1 C.2.1 dX5_readMembers_44 (by decide) (by decide) rfl (by decide) ?_
                refine lv_aload_n C.1 C.2.1 dX5_readMembers_104 rfl (lv_at hl 0 rfl) ?_
                obtain ⟨r_8, m_9, hc_8, hM⟩ := bd_some hM
                refine h_callVi C h (As := []) (rest := []) (bz r_8) m_9 (c_X5_readConst hc_8 tx0) 5 rfl (by decide) tx0 im_yX5_readConst se_yX5_readConst cy_X5_readConst rfl ml_X5_134 ⟨by decide, by decide⟩ ⟨Nat.zero_le _, Nat.zero_le _⟩ hl.1 rfl (Nat.le_of_ble_eq_true rfl) dX5_readMembers_105 (fun H locs h => ?_)
                refine lv_istore_n (lv' := [(1, .int (bz r_8)), (0, .ref x0), (2, .int x2)]) C.1 C.2.1 dX5_readMembers_108 rfl hl (by decide) rfl (fun ls hl => ?_)
                refine lv_goto (tgt := 122) C.1 C.2.1 dX5_readMembers_109 (by decide) ?_
                refine lv_iinc (v := x2 + 1) (lv' := [(2, .int (x2 + 1)), (1, .int (bz r_8)), (0, .ref x0)]) C.1 C.2.1 dX5_readMembers_122 hl (k := 2) rfl rfl (by decide) rfl (fun ls hl => ?_)
                refine lv_goto (tgt := 26) C.1 C.2.1 dX5_readMembers_125 (by decide) ?_
                exact ih _ _ _ _ hM tx0 _ _ h ls (lv_sub hl [2, 1, 0] rfl)
              · have hM := ite_f q3 hM
                by_cases q4 : (gI m b_1 3) = 137
                · have hM := ite_t q4 hM
                  refine h_tabIn q4 (tgt := 112) C.1 C.2.1 dX5_readMembers_44 (by decide) (by decide) rfl (by decide) ?_
                  refine lv_aload_n C.1 C.2.1 dX5_readMembers_112 rfl (lv_at hl 0 rfl) ?_
                  obtain ⟨r_10, m_11, hc_10, hM⟩ := bd_some hM
                  refine h_callVi C h (As := []) (rest := []) (bz r_10) m_11 (c_X5_readMaker hc_10 tx0) 5 rfl (by decide) tx0 im_yX5_readMaker se_yX5_readMaker cy_X5_readMaker rfl ml_X5_137 ⟨by decide, by decide⟩ ⟨Nat.zero_le _, Nat.zero_le _⟩ hl.1 rfl (Nat.le_of_ble_eq_true rfl) dX5_readMembers_113 (fun H locs h => ?_)
                  refine lv_istore_n (lv' := [(1, .int (bz r_10)), (0, .ref x0), (2, .int x2)]) C.1 C.2.1 dX5_readMembers_116 rfl hl (by decide) rfl (fun ls hl => ?_)
                  refine lv_goto (tgt := 122) C.1 C.2.1 dX5_readMembers_117 (by decide) ?_
                  refine lv_iinc (v := x2 + 1) (lv' := [(2, .int (x2 + 1)), (1, .int (bz r_10)), (0, .ref x0)]) C.1 C.2.1 dX5_readMembers_122 hl (k := 2) rfl rfl (by decide) rfl (fun ls hl => ?_)
                  refine lv_goto (tgt := 26) C.1 C.2.1 dX5_readMembers_125 (by decide) ?_
                  exact ih _ _ _ _ hM tx0 _ _ h ls (lv_sub hl [2, 1, 0] rfl)
                · have hM := ite_f q4 hM
                  refine h_tabOut (tgt := 120) (lo := 133) (n := 5) C.1 C.2.1 dX5_readMembers_44 (by decide) (by decide) (by decide) (fun k hk => ?_) ?_
                  · match k, hk with
                    | 0, _ => exact q0
                    | 1, _ => exact q1
                    | 2, _ => exact q2
                    | 3, _ => exact q3
                    | 4, _ => exact q4
                    | k + 5, hk => exact absurd hk (by omega)
                  · refine lv_iconst (v := 1) C.1 C.2.1 dX5_readMembers_120 (by decide) ?_
                    obtain ⟨rfl, rfl⟩ := so_inj hM
                    exact h_zret C h (bz_ok _).1 dX5_readMembers_121
def M_X5_readMembers (G : GG) (x0 : Nat) (m : MM) : Option (Bool × MM) :=
  nb (gR m x0 0) fun b_12 =>
    if (gI m b_12 3) = 59 then
      bd (M_X9_advance G b_12 m) fun r_13 m_14 =>
        B_X5_readMembers_26 G FU x0 true 0 m_14
    else
      some (true, m)
set_option maxRecDepth 100000 in
set_option maxHeartbeats 4000000 in
theorem cM_X5_readMembers {p : Program} {l : Launch} {e : Env} {s : State} {mth : MethodId} {args : Array Value} {below : List Frame} {meth : Method} {c : Code} {E : EE} {G : GG} {r9 : Bool} {m9 : MM} (C : Cx E G p s mth args meth c cX5_readMembers RX5 "readMembers" 3 (some .boolean)) {x0 : Nat} {m : MM} (hM : M_X5_readMembers G x0 m = some (r9, m9)) (tx0 : Ty E G x0 5) : ∀ (H : Heap) (locs : List Loc), Hp E G m s H locs → ∀ ls : Array Slot, lv_has ls 3 [(0, .ref x0)] → W p l e rmX5_readMembers s mth args below meth c H locs 0 0 (MQ below (cQi E (bz r9) G m9) args s 0 0 (fun q => E.2.2.1 ≤ q)) (F0 mth 0 ls []) := by
  intro H locs h ls hl
  unfold M_X5_readMembers at hM
  refine lv_aload_n C.1 C.2.1 dX5_readMembers_0 rfl (lv_at hl 0 rfl) ?_
  refine gt_5_0 C h tx0 fl_X5_12 dX5_readMembers_1 ?_
  obtain ⟨b_12, hb_12, hM⟩ := nb_some hM
  have tb_12 : Ty E G b_12 9 := (fun b hb => tyf h tx0 hb) _ hb_12
  refine st_ref hb_12 ?_
  refine gt_9_3 C h tb_12 fl_X5_47 dX5_readMembers_4 ?_
  refine lv_bipush (v := 59) C.1 C.2.1 dX5_readMembers_7 (by decide) ?_
  refine lv_icmp_eq (tgt := 14) C.1 C.2.1 dX5_readMembers_9 (by decide) (fun q => ?_) (fun q => ?_)
  · have hM := ite_t q hM
    refine lv_aload_n C.1 C.2.1 dX5_readMembers_14 rfl (lv_at hl 0 rfl) ?_
    refine gt_5_0 C h tx0 fl_X5_12 dX5_readMembers_15 ?_
    refine st_ref hb_12 ?_
    obtain ⟨r_13, m_14, hc_13, hM⟩ := bd_some hM
    refine h_callVi C h (As := []) (rest := []) (bz r_13) m_14 (c_X9_advance hc_13 tb_12) 9 rfl (by decide) tb_12 im_yX9_advance se_yX9_advance cy_X9_advance rfl ml_X5_91 ⟨by decide, by decide⟩ ⟨Nat.zero_le _, Nat.zero_le _⟩ hl.1 rfl (Nat.le_of_ble_eq_true rfl) dX5_readMembers_18 (fun H locs h => ?_)
    refine lv_pop C.1 C.2.1 dX5_readMembers_21 rfl ?_
    refine lv_iconst (v := 1) C.1 C.2.1 dX5_readMembers_22 (by decide) ?_
    refine lv_istore_n (lv' := [(1, .int 1), (0, .ref x0)]) C.1 C.2.1 dX5_readMembers_23 rfl hl (by decide) rfl (fun ls hl => ?_)
    refine lv_iconst (v := 0) C.1 C.2.1 dX5_readMembers_24 (by decide) ?_
    refine lv_istore_n (lv' := [(2, .int 0), (1, .int 1), (0, .ref x0)]) C.1 C.2.1 dX5_readMembers_25 rfl hl (by decide) rfl (fun ls hl => ?_)
    exact cB_X5_readMembers_26 C _ _ _ _ _ hM tx0 _ _ h ls (lv_sub hl [2, 1, 0] rfl)
  · have hM := ite_f q hM
    refine lv_iconst (v := 1) C.1 C.2.1 dX5_readMembers_12 (by decide) ?_
    obtain ⟨rfl, rfl⟩ := so_inj hM
    exact h_zret C h (bz_ok _).1 dX5_readMembers_13
theorem cy_X5_readMembers : Cy yX5_readMembers cX5_readMembers 3 (some .boolean) 0 := ⟨cd_yX5_readMembers, ii_X5, by decide, by decide, by decide +kernel⟩
set_option maxRecDepth 100000 in
theorem c_X5_readMembers {l : Launch} {E : EE} {G : GG} {x0 : Nat} {m m9 : MM} {r9 : Bool} (hM : M_X5_readMembers G x0 m = some (r9, m9)) (tx0 : Ty E G x0 5) : Mc l E yX5_readMembers cX5_readMembers 3 (some .boolean) rmX5_readMembers [.ref x0] G m (cQi E (bz r9) G m9) := M_of (by decide) (Nat.le_of_ble_eq_true rfl) (fun p e s mth below meth c C h ls hl => cM_X5_readMembers C hM tx0 _ _ h ls hl)
abbrev rmX5_readText : Room := { frames := 8, cells := 0, slots := 0, locals := 179 }
def B_X5_readText_39 (G : GG) : Nat → Nat → Int32 → Int32 → MM → Option (Bool × MM)
  | 0, _, _, _, _ => none
  | fu + 1, x0, x3, x4, m =>
    if 8 < x4 then
      nb (gR m x0 3) fun b_1 =>
        nb (gR m x0 0) fun b_2 =>
          bd (M_X3_noteText G b_1 (gI m b_2 4) m) fun _ m_4 =>
            some (false, m_4)
    else
      if x3 = 0 then
        nb (gR m x0 3) fun b_5 =>
          nb (gR m x0 0) fun b_6 =>
            bd (M_X3_noteText G b_5 (gI m b_6 4) m) fun _ m_8 =>
              some (false, m_8)
      else
        nb (gR m x0 0) fun b_9 =>
          if (gI m b_9 3) = 130 then
            some (true, m)
          else
            bd (M_X9_take G b_9 132 m) fun r_10 m_11 =>
              if r_10 = true then
                bd (M_X5_openEnum G x0 m_11) fun r_12 m_13 =>
                  if r_12 = true then
                    nb (gR m_13 x0 0) fun b_14 =>
                      bd (M_X9_take G b_14 123 m_13) fun r_15 m_16 =>
                        if r_15 = true then
                          bd (M_X5_readConstants G x0 m_16) fun r_17 m_18 =>
                            if r_17 = true then
                              bd (M_X5_readMembers G x0 m_18) fun r_19 m_20 =>
                                if r_19 = true then
                                  nb (gR m_20 x0 0) fun b_21 =>
                                    bd (M_X9_take G b_21 125 m_20) fun r_22 m_23 =>
                                      if r_22 = true then
                                        B_X5_readText_39 G fu x0 1 (x4 + 1) m_23
                                      else
                                        B_X5_readText_39 G fu x0 0 (x4 + 1) m_23
                                else
                                  B_X5_readText_39 G fu x0 0 (x4 + 1) m_20
                            else
                              B_X5_readText_39 G fu x0 0 (x4 + 1) m_18
                        else
                          B_X5_readText_39 G fu x0 0 (x4 + 1) m_16
                  else
                    B_X5_readText_39 G fu x0 0 (x4 + 1) m_13
              else
                B_X5_readText_39 G fu x0 0 (x4 + 1) m_11
set_option maxRecDepth 100000 in
set_option maxHeartbeats 4000000 in
theorem cB_X5_readText_39 {p : Program} {l : Launch} {e : Env} {s : State} {mth : MethodId} {args : Array Value} {below : List Frame} {meth : Method} {c : Code} {E : EE} {G : GG} {r9 : Bool} {m9 : MM} (C : Cx E G p s mth args meth c cX5_readText RX5 "readText" 5 (some .boolean)) : ∀ (fu : Nat) (x0 : Nat) (x3 : Int32) (x4 : Int32) (m : MM), B_X5_readText_39 G fu x0 x3 x4 m = some (r9, m9) → (Ty E G x0 5) → ∀ (H : Heap) (locs : List Loc), Hp E G m s H locs → ∀ ls : Array Slot, lv_has ls 5 [(0, .ref x0), (3, .int x3), (4, .int x4)] → W p l e rmX5_readText s mth args below meth c H locs 0 0 (MQ below (cQi E (bz r9) G m9) args s 0 0 (fun q => E.2.2.1 ≤ q)) (F0 mth 39 ls []) := by
  intro fu
  induction fu with
  | zero =>
    intro x0 x3 x4 m hM
    rw [B_X5_readText_39] at hM
    cases hM
  | succ fu ih =>
    intro x0 x3 x4 m hM tx0 H locs h ls hl
    rw [B_X5_readText_39] at hM
    refine lv_iload C.1 C.2.1 dX5_readText_39 (lv_at hl 2 rfl) ?_
    refine lv_bipush (v := 8) C.1 C.2.1 dX5_readText_41 (by decide) ?_
    refine lv_icmp_gt (tgt := 135) C.1 C.2.1 dX5_readText_43 (by decide) (fun q => ?_) (fun q => ?_)
    · have hM := ite_t q hM
      refine lv_aload_n C.1 C.2.1 dX5_readText_135 rfl (lv_at hl 0 rfl) ?_
      refine gt_5_3 C h tx0 fl_X5_29 dX5_readText_136 ?_
      obtain ⟨b_1, hb_1, hM⟩ := nb_some hM
      have tb_1 : Ty E G b_1 3 := (fun b hb => tyf h tx0 hb) _ hb_1
      refine st_ref hb_1 ?_
      refine lv_aload_n C.1 C.2.1 dX5_readText_139 rfl (lv_at hl 0 rfl) ?_
      refine gt_5_0 C h tx0 fl_X5_12 dX5_readText_140 ?_
      obtain ⟨b_2, hb_2, hM⟩ := nb_some hM
      have tb_2 : Ty E G b_2 9 := (fun b hb => tyf h tx0 hb) _ hb_2
      refine st_ref hb_2 ?_
      refine gt_9_4 C h tb_2 fl_X5_65 dX5_readText_143 ?_
      obtain ⟨r_3, m_4, hc_3, hM⟩ := bd_some hM
      refine h_callVv C h (As := [.int (gI m b_2 4)]) (rest := []) m_4 (c_X3_noteText hc_3 tb_1) 3 rfl (by decide) tb_1 im_yX3_noteText se_yX3_noteText cy_X3_noteText rfl ml_X5_68 ⟨by decide, by decide⟩ ⟨Nat.zero_le _, Nat.zero_le _⟩ hl.1 rfl (Nat.le_of_ble_eq_true rfl) dX5_readText_146 (fun H locs h => ?_)
      refine lv_iconst (v := 0) C.1 C.2.1 dX5_readText_149 (by decide) ?_
      obtain ⟨rfl, rfl⟩ := so_inj hM
      exact h_zret C h (bz_ok _).1 dX5_readText_150
    · have hM := ite_f q hM
      refine lv_iload_n C.1 C.2.1 dX5_readText_46 rfl (lv_at hl 1 rfl) ?_
      refine lv_if_eq (tgt := 135) C.1 C.2.1 dX5_readText_47 (by decide) (fun q => ?_) (fun q => ?_)
      · have hM := ite_t q hM
        refine lv_aload_n C.1 C.2.1 dX5_readText_135 rfl (lv_at hl 0 rfl) ?_
        refine gt_5_3 C h tx0 fl_X5_29 dX5_readText_136 ?_
        obtain ⟨b_5, hb_5, hM⟩ := nb_some hM
        have tb_5 : Ty E G b_5 3 := (fun b hb => tyf h tx0 hb) _ hb_5
        refine st_ref hb_5 ?_
        refine lv_aload_n C.1 C.2.1 dX5_readText_139 rfl (lv_at hl 0 rfl) ?_
        refine gt_5_0 C h tx0 fl_X5_12 dX5_readText_140 ?_
        obtain ⟨b_6, hb_6, hM⟩ := nb_some hM
        have tb_6 : Ty E G b_6 9 := (fun b hb => tyf h tx0 hb) _ hb_6
        refine st_ref hb_6 ?_
        refine gt_9_4 C h tb_6 fl_X5_65 dX5_readText_143 ?_
        obtain ⟨r_7, m_8, hc_7, hM⟩ := bd_some hM
        refine h_callVv C h (As := [.int (gI m b_6 4)]) (rest := []) m_8 (c_X3_noteText hc_7 tb_5) 3 rfl (by decide) tb_5 im_yX3_noteText se_yX3_noteText cy_X3_noteText rfl ml_X5_68 ⟨by decide, by decide⟩ ⟨Nat.zero_le _, Nat.zero_le _⟩ hl.1 rfl (Nat.le_of_ble_eq_true rfl) dX5_readText_146 (fun H locs h => ?_)
        refine lv_iconst (v := 0) C.1 C.2.1 dX5_readText_149 (by decide) ?_
        obtain ⟨rfl, rfl⟩ := so_inj hM
        exact h_zret C h (bz_ok _).1 dX5_readText_150
      · have hM := ite_f q hM
        refine lv_aload_n C.1 C.2.1 dX5_readText_50 rfl (lv_at hl 0 rfl) ?_
        refine gt_5_0 C h tx0 fl_X5_12 dX5_readText_51 ?_
        obtain ⟨b_9, hb_9, hM⟩ := nb_some hM
        have tb_9 : Ty E G b_9 9 := (fun b hb => tyf h tx0 hb) _ hb_9
        refine st_ref hb_9 ?_
        refine gt_9_3 C h tb_9 fl_X5_47 dX5_readText_54 ?_
        refine lv_sipush (v := 130) C.1 C.2.1 dX5_readText_57 (by decide) ?_
        refine lv_icmp_ne (tgt := 65) C.1 C.2.1 dX5_readText_60 (by decide) (fun q => ?_) (fun q => ?_)
        · have hM := ite_f q hM
          refine lv_aload_n C.1 C.2.1 dX5_readText_65 rfl (lv_at hl 0 rfl) ?_
          refine gt_5_0 C h tx0 fl_X5_12 dX5_readText_66 ?_
          refine st_ref hb_9 ?_
          refine lv_sipush (v := 132) C.1 C.2.1 dX5_readText_69 (by decide) ?_
          obtain ⟨r_10, m_11, hc_10, hM⟩ := bd_some hM
          refine h_callVi C h (As := [.int 132]) (rest := []) (bz r_10) m_11 (c_X9_take hc_10 tb_9) 9 rfl (by decide) tb_9 im_yX9_take se_yX9_take cy_X9_take rfl ml_X5_51 ⟨by decide, by decide⟩ ⟨Nat.zero_le _, Nat.zero_le _⟩ hl.1 rfl (Nat.le_of_ble_eq_true rfl) dX5_readText_72 (fun H locs h => ?_)
          refine h_ifz (tgt := 127) C.1 C.2.1 dX5_readText_75 (by decide) (fun q => ?_) (fun q => ?_)
          · have hM := ite_f q hM
            refine lv_iconst (v := 0) C.1 C.2.1 dX5_readText_127 (by decide) ?_
            refine lv_istore_n (lv' := [(3, .int 0), (0, .ref x0), (4, .int x4)]) C.1 C.2.1 dX5_readText_128 rfl hl (by decide) rfl (fun ls hl => ?_)
            refine lv_iinc (v := x4 + 1) (lv' := [(4, .int (x4 + 1)), (3, .int 0), (0, .ref x0)]) C.1 C.2.1 dX5_readText_129 hl (k := 2) rfl rfl (by decide) rfl (fun ls hl => ?_)
            refine lv_goto (tgt := 39) C.1 C.2.1 dX5_readText_132 (by decide) ?_
            exact ih _ _ _ _ hM tx0 _ _ h ls (lv_sub hl [2, 1, 0] rfl)
          · have hM := ite_t q hM
            refine lv_aload_n C.1 C.2.1 dX5_readText_78 rfl (lv_at hl 0 rfl) ?_
            obtain ⟨r_12, m_13, hc_12, hM⟩ := bd_some hM
            refine h_callVi C h (As := []) (rest := []) (bz r_12) m_13 (c_X5_openEnum hc_12 tx0) 5 rfl (by decide) tx0 im_yX5_openEnum se_yX5_openEnum cy_X5_openEnum rfl ml_X5_55 ⟨by decide, by decide⟩ ⟨Nat.zero_le _, Nat.zero_le _⟩ hl.1 rfl (Nat.le_of_ble_eq_true rfl) dX5_readText_79 (fun H locs h => ?_)
            refine h_ifz (tgt := 127) C.1 C.2.1 dX5_readText_82 (by decide) (fun q => ?_) (fun q => ?_)
            · have hM := ite_f q hM
              refine lv_iconst (v := 0) C.1 C.2.1 dX5_readText_127 (by decide) ?_
              refine lv_istore_n (lv' := [(3, .int 0), (0, .ref x0), (4, .int x4)]) C.1 C.2.1 dX5_readText_128 rfl hl (by decide) rfl (fun ls hl => ?_)
              refine lv_iinc (v := x4 + 1) (lv' := [(4, .int (x4 + 1)), (3, .int 0), (0, .ref x0)]) C.1 C.2.1 dX5_readText_129 hl (k := 2) rfl rfl (by decide) rfl (fun ls hl => ?_)
              refine lv_goto (tgt := 39) C.1 C.2.1 dX5_readText_132 (by decide) ?_
              exact ih _ _ _ _ hM tx0 _ _ h ls (lv_sub hl [2, 1, 0] rfl)
            · have hM := ite_t q hM
              refine lv_aload_n C.1 C.2.1 dX5_readText_85 rfl (lv_at hl 0 rfl) ?_
              refine gt_5_0 C h tx0 fl_X5_12 dX5_readText_86 ?_
              obtain ⟨b_14, hb_14, hM⟩ := nb_some hM
              have tb_14 : Ty E G b_14 9 := (fun b hb => tyf h tx0 hb) _ hb_14
              refine st_ref hb_14 ?_
              refine lv_bipush (v := 123) C.1 C.2.1 dX5_readText_89 (by decide) ?_
              obtain ⟨r_15, m_16, hc_15, hM⟩ := bd_some hM
              refine h_callVi C h (As := [.int 123]) (rest := []) (bz r_15) m_16 (c_X9_take hc_15 tb_14) 9 rfl (by decide) tb_14 im_yX9_take se_yX9_take cy_X9_take rfl ml_X5_51 ⟨by decide, by decide⟩ ⟨Nat.zero_le _, Nat.zero_le _⟩ hl.1 rfl (Nat.le_of_ble_eq_true rfl) dX5_readText_91 (fun H locs h => ?_)
              refine h_ifz (tgt := 127) C.1 C.2.1 dX5_readText_94 (by decide) (fun q => ?_) (fun q => ?_)
              · have hM := ite_f q hM
                refine lv_iconst (v := 0) C.1 C.2.1 dX5_readText_127 (by decide) ?_
                refine lv_istore_n (lv' := [(3, .int 0), (0, .ref x0), (4, .int x4)]) C.1 C.2.1 dX5_readText_128 rfl hl (by decide) rfl (fun ls hl => ?_)
                refine lv_iinc (v := x4 + 1) (lv' := [(4, .int (x4 + 1)), (3, .int 0), (0, .ref x0)]) C.1 C.2.1 dX5_readText_129 hl (k := 2) rfl rfl (by decide) rfl (fun ls hl => ?_)
                refine lv_goto (tgt := 39) C.1 C.2.1 dX5_readText_132 (by decide) ?_
                exact ih _ _ _ _ hM tx0 _ _ h ls (lv_sub hl [2, 1, 0] rfl)
              · have hM := ite_t q hM
                refine lv_aload_n C.1 C.2.1 dX5_readText_97 rfl (lv_at hl 0 rfl) ?_
                obtain ⟨r_17, m_18, hc_17, hM⟩ := bd_some hM
                refine h_callVi C h (As := []) (rest := []) (bz r_17) m_18 (c_X5_readConstants hc_17 tx0) 5 rfl (by decide) tx0 im_yX5_readConstants se_yX5_readConstants cy_X5_readConstants rfl ml_X5_59 ⟨by decide, by decide⟩ ⟨Nat.zero_le _, Nat.zero_le _⟩ hl.1 rfl (Nat.le_of_ble_eq_true rfl) dX5_readText_98 (fun H locs h => ?_)
                refine h_ifz (tgt := 127) C.1 C.2.1 dX5_readText_101 (by decide) (fun q => ?_) (fun q => ?_)
                · have hM := ite_f q hM
                  refine lv_iconst (v := 0) C.1 C.2.1 dX5_readText_127 (by decide) ?_
                  refine lv_istore_n (lv' := [(3, .int 0), (0, .ref x0), (4, .int x4)]) C.1 C.2.1 dX5_readText_128 rfl hl (by decide) rfl (fun ls hl => ?_)
                  refine lv_iinc (v := x4 + 1) (lv' := [(4, .int (x4 + 1)), (3, .int 0), (0, .ref x0)]) C.1 C.2.1 dX5_readText_129 hl (k := 2) rfl rfl (by decide) rfl (fun ls hl => ?_)
                  refine lv_goto (tgt := 39) C.1 C.2.1 dX5_readText_132 (by decide) ?_
                  exact ih _ _ _ _ hM tx0 _ _ h ls (lv_sub hl [2, 1, 0] rfl)
                · have hM := ite_t q hM
                  refine lv_aload_n C.1 C.2.1 dX5_readText_104 rfl (lv_at hl 0 rfl) ?_
                  obtain ⟨r_19, m_20, hc_19, hM⟩ := bd_some hM
                  refine h_callVi C h (As := []) (rest := []) (bz r_19) m_20 (c_X5_readMembers hc_19 tx0) 5 rfl (by decide) tx0 im_yX5_readMembers se_yX5_readMembers cy_X5_readMembers rfl ml_X5_62 ⟨by decide, by decide⟩ ⟨Nat.zero_le _, Nat.zero_le _⟩ hl.1 rfl (Nat.le_of_ble_eq_true rfl) dX5_readText_105 (fun H locs h => ?_)
                  refine h_ifz (tgt := 127) C.1 C.2.1 dX5_readText_108 (by decide) (fun q => ?_) (fun q => ?_)
                  · have hM := ite_f q hM
                    refine lv_iconst (v := 0) C.1 C.2.1 dX5_readText_127 (by decide) ?_
                    refine lv_istore_n (lv' := [(3, .int 0), (0, .ref x0), (4, .int x4)]) C.1 C.2.1 dX5_readText_128 rfl hl (by decide) rfl (fun ls hl => ?_)
                    refine lv_iinc (v := x4 + 1) (lv' := [(4, .int (x4 + 1)), (3, .int 0), (0, .ref x0)]) C.1 C.2.1 dX5_readText_129 hl (k := 2) rfl rfl (by decide) rfl (fun ls hl => ?_)
                    refine lv_goto (tgt := 39) C.1 C.2.1 dX5_readText_132 (by decide) ?_
                    exact ih _ _ _ _ hM tx0 _ _ h ls (lv_sub hl [2, 1, 0] rfl)
                  · have hM := ite_t q hM
                    refine lv_aload_n C.1 C.2.1 dX5_readText_111 rfl (lv_at hl 0 rfl) ?_
                    refine gt_5_0 C h tx0 fl_X5_12 dX5_readText_112 ?_
                    obtain ⟨b_21, hb_21, hM⟩ := nb_some hM
                    have tb_21 : Ty E G b_21 9 := (fun b hb => tyf h tx0 hb) _ hb_21
                    refine st_ref hb_21 ?_
                    refine lv_bipush (v := 125) C.1 C.2.1 dX5_readText_115 (by decide) ?_
                    obtain ⟨r_22, m_23, hc_22, hM⟩ := bd_some hM
                    refine h_callVi C h (As := [.int 125]) (rest := []) (bz r_22) m_23 (c_X9_take hc_22 tb_21) 9 rfl (by decide) tb_21 im_yX9_take se_yX9_take cy_X9_take rfl ml_X5_51 ⟨by decide, by decide⟩ ⟨Nat.zero_le _, Nat.zero_le _⟩ hl.1 rfl (Nat.le_of_ble_eq_true rfl) dX5_readText_117 (fun H locs h => ?_)
                    refine h_ifz (tgt := 127) C.1 C.2.1 dX5_readText_120 (by decide) (fun q => ?_) (fun q => ?_)
                    · have hM := ite_f q hM
                      refine lv_iconst (v := 0) C.1 C.2.1 dX5_readText_127 (by decide) ?_
                      refine lv_istore_n (lv' := [(3, .int 0), (0, .ref x0), (4, .int x4)]) C.1 C.2.1 dX5_readText_128 rfl hl (by decide) rfl (fun ls hl => ?_)
                      refine lv_iinc (v := x4 + 1) (lv' := [(4, .int (x4 + 1)), (3, .int 0), (0, .ref x0)]) C.1 C.2.1 dX5_readText_129 hl (k := 2) rfl rfl (by decide) rfl (fun ls hl => ?_)
                      refine lv_goto (tgt := 39) C.1 C.2.1 dX5_readText_132 (by decide) ?_
                      exact ih _ _ _ _ hM tx0 _ _ h ls (lv_sub hl [2, 1, 0] rfl)
                    · have hM := ite_t q hM
                      refine lv_iconst (v := 1) C.1 C.2.1 dX5_readText_123 (by decide) ?_
                      refine lv_goto (tgt := 128) C.1 C.2.1 dX5_readText_124 (by decide) ?_
                      refine lv_istore_n (lv' := [(3, .int 1), (0, .ref x0), (4, .int x4)]) C.1 C.2.1 dX5_readText_128 rfl hl (by decide) rfl (fun ls hl => ?_)
                      refine lv_iinc (v := x4 + 1) (lv' := [(4, .int (x4 + 1)), (3, .int 1), (0, .ref x0)]) C.1 C.2.1 dX5_readText_129 hl (k := 2) rfl rfl (by decide) rfl (fun ls hl => ?_)
                      refine lv_goto (tgt := 39) C.1 C.2.1 dX5_readText_132 (by decide) ?_
                      exact ih _ _ _ _ hM tx0 _ _ h ls (lv_sub hl [2, 1, 0] rfl)
        · have hM := ite_t q hM
          refine lv_iconst (v := 1) C.1 C.2.1 dX5_readText_63 (by decide) ?_
          obtain ⟨rfl, rfl⟩ := so_inj hM
          exact h_zret C h (bz_ok _).1 dX5_readText_64
def M_X5_readText (G : GG) (x0 : Nat) (x1 : Nat) (x2 : Nat) (m : MM) : Option (Bool × MM) :=
  nb (gR (sR (sR m x0 2 (some x1)) x0 3 (some x2)) x0 0) fun b_24 =>
    nb (gR (sR (sR m x0 2 (some x1)) x0 3 (some x2)) x1 5) fun b_25 =>
      bd (M_X9_split G b_24 b_25 (sR (sR m x0 2 (some x1)) x0 3 (some x2))) fun _ m_27 =>
        nb (gR m_27 x0 1) fun b_28 =>
          nb (gR m_27 x0 0) fun b_29 =>
            bd (M_X2_begin G b_28 b_29 x1 x2 m_27) fun _ m_31 =>
              B_X5_readText_39 G FU x0 1 0 m_31
set_option maxRecDepth 100000 in
set_option maxHeartbeats 4000000 in
theorem cM_X5_readText {p : Program} {l : Launch} {e : Env} {s : State} {mth : MethodId} {args : Array Value} {below : List Frame} {meth : Method} {c : Code} {E : EE} {G : GG} {r9 : Bool} {m9 : MM} (C : Cx E G p s mth args meth c cX5_readText RX5 "readText" 5 (some .boolean)) {x0 : Nat} {x1 : Nat} {x2 : Nat} {m : MM} (hM : M_X5_readText G x0 x1 x2 m = some (r9, m9)) (tx0 : Ty E G x0 5) (tx1 : Ty E G x1 6) (tx2 : Ty E G x2 3) : ∀ (H : Heap) (locs : List Loc), Hp E G m s H locs → ∀ ls : Array Slot, lv_has ls 5 [(0, .ref x0), (1, .ref x1), (2, .ref x2)] → W p l e rmX5_readText s mth args below meth c H locs 0 0 (MQ below (cQi E (bz r9) G m9) args s 0 0 (fun q => E.2.2.1 ≤ q)) (F0 mth 0 ls []) := by
  intro H locs h ls hl
  unfold M_X5_readText at hM
  refine lv_aload_n C.1 C.2.1 dX5_readText_0 rfl (lv_at hl 0 rfl) ?_
  refine lv_aload_n C.1 C.2.1 dX5_readText_1 rfl (lv_at hl 1 rfl) ?_
  refine st_some ?_
  refine pt_5_2 C h (fun b hb => by cases hb; exact tx1) tx0 fl_X5_25 dX5_readText_2 (fun H locs h => ?_)
  refine lv_aload_n C.1 C.2.1 dX5_readText_5 rfl (lv_at hl 0 rfl) ?_
  refine lv_aload_n C.1 C.2.1 dX5_readText_6 rfl (lv_at hl 2 rfl) ?_
  refine st_some ?_
  refine pt_5_3 C h (fun b hb => by cases hb; exact tx2) tx0 fl_X5_29 dX5_readText_7 (fun H locs h => ?_)
  refine lv_aload_n C.1 C.2.1 dX5_readText_10 rfl (lv_at hl 0 rfl) ?_
  refine gt_5_0 C h tx0 fl_X5_12 dX5_readText_11 ?_
  obtain ⟨b_24, hb_24, hM⟩ := nb_some hM
  have tb_24 : Ty E G b_24 9 := (fun b hb => tyf h tx0 hb) _ hb_24
  refine st_ref hb_24 ?_
  refine lv_aload_n C.1 C.2.1 dX5_readText_14 rfl (lv_at hl 1 rfl) ?_
  refine gt_6_5 C h tx1 fl_X5_33 dX5_readText_15 ?_
  obtain ⟨b_25, hb_25, hM⟩ := nb_some hM
  have tb_25 : Ty E G b_25 8 := (fun b hb => tyf h tx1 hb) _ hb_25
  refine st_ref hb_25 ?_
  obtain ⟨r_26, m_27, hc_26, hM⟩ := bd_some hM
  refine h_callVv C h (As := [.ref b_25]) (rest := []) m_27 (c_X9_split hc_26 tb_24 tb_25) 9 rfl (by decide) tb_24 im_yX9_split se_yX9_split cy_X9_split rfl ml_X5_39 ⟨by decide, by decide⟩ ⟨Nat.zero_le _, Nat.zero_le _⟩ hl.1 rfl (Nat.le_of_ble_eq_true rfl) dX5_readText_18 (fun H locs h => ?_)
  refine lv_aload_n C.1 C.2.1 dX5_readText_21 rfl (lv_at hl 0 rfl) ?_
  refine gt_5_1 C h tx0 fl_X5_21 dX5_readText_22 ?_
  obtain ⟨b_28, hb_28, hM⟩ := nb_some hM
  have tb_28 : Ty E G b_28 2 := (fun b hb => tyf h tx0 hb) _ hb_28
  refine st_ref hb_28 ?_
  refine lv_aload_n C.1 C.2.1 dX5_readText_25 rfl (lv_at hl 0 rfl) ?_
  refine gt_5_0 C h tx0 fl_X5_12 dX5_readText_26 ?_
  obtain ⟨b_29, hb_29, hM⟩ := nb_some hM
  have tb_29 : Ty E G b_29 9 := (fun b hb => tyf h tx0 hb) _ hb_29
  refine st_ref hb_29 ?_
  refine lv_aload_n C.1 C.2.1 dX5_readText_29 rfl (lv_at hl 1 rfl) ?_
  refine lv_aload_n C.1 C.2.1 dX5_readText_30 rfl (lv_at hl 2 rfl) ?_
  obtain ⟨r_30, m_31, hc_30, hM⟩ := bd_some hM
  refine h_callVv C h (As := [.ref b_29, .ref x1, .ref x2]) (rest := []) m_31 (c_X2_begin hc_30 tb_28 tb_29 tx1 tx2) 2 rfl (by decide) tb_28 im_yX2_begin se_yX2_begin cy_X2_begin rfl ml_X5_43 ⟨by decide, by decide⟩ ⟨Nat.zero_le _, Nat.zero_le _⟩ hl.1 rfl (Nat.le_of_ble_eq_true rfl) dX5_readText_31 (fun H locs h => ?_)
  refine lv_iconst (v := 1) C.1 C.2.1 dX5_readText_34 (by decide) ?_
  refine lv_istore_n (lv' := [(3, .int 1), (0, .ref x0), (1, .ref x1), (2, .ref x2)]) C.1 C.2.1 dX5_readText_35 rfl hl (by decide) rfl (fun ls hl => ?_)
  refine lv_iconst (v := 0) C.1 C.2.1 dX5_readText_36 (by decide) ?_
  refine lv_istore (lv' := [(4, .int 0), (3, .int 1), (0, .ref x0), (1, .ref x1), (2, .ref x2)]) C.1 C.2.1 dX5_readText_37 hl (by decide) rfl (fun ls hl => ?_)
  exact cB_X5_readText_39 C _ _ _ _ _ hM tx0 _ _ h ls (lv_sub hl [2, 1, 0] rfl)
theorem cy_X5_readText : Cy yX5_readText cX5_readText 5 (some .boolean) 2 := ⟨cd_yX5_readText, ii_X5, by decide, by decide, by decide +kernel⟩
set_option maxRecDepth 100000 in
theorem c_X5_readText {l : Launch} {E : EE} {G : GG} {x0 : Nat} {x1 : Nat} {x2 : Nat} {m m9 : MM} {r9 : Bool} (hM : M_X5_readText G x0 x1 x2 m = some (r9, m9)) (tx0 : Ty E G x0 5) (tx1 : Ty E G x1 6) (tx2 : Ty E G x2 3) : Mc l E yX5_readText cX5_readText 5 (some .boolean) rmX5_readText [.ref x0, .ref x1, .ref x2] G m (cQi E (bz r9) G m9) := M_of (by decide) (Nat.le_of_ble_eq_true rfl) (fun p e s mth below meth c C h ls hl => cM_X5_readText C hM tx0 tx1 tx2 _ _ h ls hl)
