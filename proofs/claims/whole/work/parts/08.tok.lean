abbrev rmX9_wordOrName : Room := { frames := 5, cells := 0, slots := 0, locals := 109 }
def M_X9_wordOrName (G : GG) (x0 : Nat) (x1 : Nat) (x2 : Int32) (x3 : Int32) (m : MM) : Option (Int32 × MM) :=
  bd (M_X8_spells G x1 x2 x3 0 m) fun r_1 m_2 =>
    if r_1 = true then
      some (132, m_2)
    else
      bd (M_X8_spells G x1 x2 x3 1 m_2) fun r_3 m_4 =>
        if r_3 = true then
          some (133, m_4)
        else
          bd (M_X8_spells G x1 x2 x3 2 m_4) fun r_5 m_6 =>
            if r_5 = true then
              some (134, m_6)
            else
              bd (M_X8_spells G x1 x2 x3 3 m_6) fun r_7 m_8 =>
                if r_7 = true then
                  some (135, m_8)
                else
                  bd (M_X8_spells G x1 x2 x3 4 m_8) fun r_9 m_10 =>
                    if r_9 = true then
                      some (136, m_10)
                    else
                      bd (M_X8_spells G x1 x2 x3 5 m_10) fun r_11 m_12 =>
                        if r_11 = true then
                          some (137, m_12)
                        else
                          bd (M_X8_spells G x1 x2 x3 6 m_12) fun r_13 m_14 =>
                            if r_13 = true then
                              some (138, m_14)
                            else
                              bd (M_X8_spells G x1 x2 x3 7 m_14) fun r_15 m_16 =>
                                if r_15 = true then
                                  some (139, m_16)
                                else
                                  bd (M_X8_spells G x1 x2 x3 8 m_16) fun r_17 m_18 =>
                                    if r_17 = true then
                                      some (140, m_18)
                                    else
                                      some (128, m_18)
set_option maxRecDepth 100000 in
set_option maxHeartbeats 4000000 in
theorem cM_X9_wordOrName {p : Program} {l : Launch} {e : Env} {s : State} {mth : MethodId} {args : Array Value} {below : List Frame} {meth : Method} {c : Code} {E : EE} {G : GG} {r9 : Int32} {m9 : MM} (C : Cx E G p s mth args meth c cX9_wordOrName RX9 "wordOrName" 4 (some .int)) {x0 : Nat} {x1 : Nat} {x2 : Int32} {x3 : Int32} {m : MM} (hM : M_X9_wordOrName G x0 x1 x2 x3 m = some (r9, m9)) (tx0 : Ty E G x0 9) (tx1 : Ty E G x1 8) : ∀ (H : Heap) (locs : List Loc), Hp E G m s H locs → ∀ ls : Array Slot, lv_has ls 4 [(0, .ref x0), (1, .ref x1), (2, .int x2), (3, .int x3)] → W p l e rmX9_wordOrName s mth args below meth c H locs 0 0 (MQ below (cQi E r9 G m9) args s 0 0 (fun q => E.2.2.1 ≤ q)) (F0 mth 0 ls []) := by
  intro H locs h ls hl
  unfold M_X9_wordOrName at hM
  refine lv_aload_n C.1 C.2.1 dX9_wordOrName_0 rfl (lv_at hl 1 rfl) ?_
  refine lv_iload_n C.1 C.2.1 dX9_wordOrName_1 rfl (lv_at hl 2 rfl) ?_
  refine lv_iload_n C.1 C.2.1 dX9_wordOrName_2 rfl (lv_at hl 3 rfl) ?_
  refine va_ldcS C.1 C.2.1 C.2.2.2.1 (h_str C 0 rfl) dX9_wordOrName_3 ?_
  obtain ⟨r_1, m_2, hc_1, hM⟩ := bd_some hM
  refine h_callVi C h (As := [.int x2, .int x3, .ref (E.2.2.2.1 0)]) (rest := []) (bz r_1) m_2 (c_X8_spells hc_1 tx1 (by decide)) 8 rfl (by decide) tx1 im_yX8_spells se_yX8_spells cy_X8_spells rfl ml_X9_72 ⟨by decide, by decide⟩ ⟨Nat.zero_le _, Nat.zero_le _⟩ hl.1 rfl (Nat.le_of_ble_eq_true rfl) dX9_wordOrName_5 (fun H locs h => ?_)
  refine h_ifz (tgt := 15) C.1 C.2.1 dX9_wordOrName_8 (by decide) (fun q => ?_) (fun q => ?_)
  · have hM := ite_f q hM
    refine lv_aload_n C.1 C.2.1 dX9_wordOrName_15 rfl (lv_at hl 1 rfl) ?_
    refine lv_iload_n C.1 C.2.1 dX9_wordOrName_16 rfl (lv_at hl 2 rfl) ?_
    refine lv_iload_n C.1 C.2.1 dX9_wordOrName_17 rfl (lv_at hl 3 rfl) ?_
    refine va_ldcS C.1 C.2.1 C.2.2.2.1 (h_str C 1 rfl) dX9_wordOrName_18 ?_
    obtain ⟨r_3, m_4, hc_3, hM⟩ := bd_some hM
    refine h_callVi C h (As := [.int x2, .int x3, .ref (E.2.2.2.1 1)]) (rest := []) (bz r_3) m_4 (c_X8_spells hc_3 tx1 (by decide)) 8 rfl (by decide) tx1 im_yX8_spells se_yX8_spells cy_X8_spells rfl ml_X9_72 ⟨by decide, by decide⟩ ⟨Nat.zero_le _, Nat.zero_le _⟩ hl.1 rfl (Nat.le_of_ble_eq_true rfl) dX9_wordOrName_20 (fun H locs h => ?_)
    refine h_ifz (tgt := 30) C.1 C.2.1 dX9_wordOrName_23 (by decide) (fun q => ?_) (fun q => ?_)
    · have hM := ite_f q hM
      refine lv_aload_n C.1 C.2.1 dX9_wordOrName_30 rfl (lv_at hl 1 rfl) ?_
      refine lv_iload_n C.1 C.2.1 dX9_wordOrName_31 rfl (lv_at hl 2 rfl) ?_
      refine lv_iload_n C.1 C.2.1 dX9_wordOrName_32 rfl (lv_at hl 3 rfl) ?_
      refine va_ldcS C.1 C.2.1 C.2.2.2.1 (h_str C 2 rfl) dX9_wordOrName_33 ?_
      obtain ⟨r_5, m_6, hc_5, hM⟩ := bd_some hM
      refine h_callVi C h (As := [.int x2, .int x3, .ref (E.2.2.2.1 2)]) (rest := []) (bz r_5) m_6 (c_X8_spells hc_5 tx1 (by decide)) 8 rfl (by decide) tx1 im_yX8_spells se_yX8_spells cy_X8_spells rfl ml_X9_72 ⟨by decide, by decide⟩ ⟨Nat.zero_le _, Nat.zero_le _⟩ hl.1 rfl (Nat.le_of_ble_eq_true rfl) dX9_wordOrName_35 (fun H locs h => ?_)
      refine h_ifz (tgt := 45) C.1 C.2.1 dX9_wordOrName_38 (by decide) (fun q => ?_) (fun q => ?_)
      · have hM := ite_f q hM
        refine lv_aload_n C.1 C.2.1 dX9_wordOrName_45 rfl (lv_at hl 1 rfl) ?_
        refine lv_iload_n C.1 C.2.1 dX9_wordOrName_46 rfl (lv_at hl 2 rfl) ?_
        refine lv_iload_n C.1 C.2.1 dX9_wordOrName_47 rfl (lv_at hl 3 rfl) ?_
        refine va_ldcS C.1 C.2.1 C.2.2.2.1 (h_str C 3 rfl) dX9_wordOrName_48 ?_
        obtain ⟨r_7, m_8, hc_7, hM⟩ := bd_some hM
        refine h_callVi C h (As := [.int x2, .int x3, .ref (E.2.2.2.1 3)]) (rest := []) (bz r_7) m_8 (c_X8_spells hc_7 tx1 (by decide)) 8 rfl (by decide) tx1 im_yX8_spells se_yX8_spells cy_X8_spells rfl ml_X9_72 ⟨by decide, by decide⟩ ⟨Nat.zero_le _, Nat.zero_le _⟩ hl.1 rfl (Nat.le_of_ble_eq_true rfl) dX9_wordOrName_50 (fun H locs h => ?_)
        refine h_ifz (tgt := 60) C.1 C.2.1 dX9_wordOrName_53 (by decide) (fun q => ?_) (fun q => ?_)
        · have hM := ite_f q hM
          refine lv_aload_n C.1 C.2.1 dX9_wordOrName_60 rfl (lv_at hl 1 rfl) ?_
          refine lv_iload_n C.1 C.2.1 dX9_wordOrName_61 rfl (lv_at hl 2 rfl) ?_
          refine lv_iload_n C.1 C.2.1 dX9_wordOrName_62 rfl (lv_at hl 3 rfl) ?_
          refine va_ldcS C.1 C.2.1 C.2.2.2.1 (h_str C 4 rfl) dX9_wordOrName_63 ?_
          obtain ⟨r_9, m_10, hc_9, hM⟩ := bd_some hM
          refine h_callVi C h (As := [.int x2, .int x3, .ref (E.2.2.2.1 4)]) (rest := []) (bz r_9) m_10 (c_X8_spells hc_9 tx1 (by decide)) 8 rfl (by decide) tx1 im_yX8_spells se_yX8_spells cy_X8_spells rfl ml_X9_72 ⟨by decide, by decide⟩ ⟨Nat.zero_le _, Nat.zero_le _⟩ hl.1 rfl (Nat.le_of_ble_eq_true rfl) dX9_wordOrName_65 (fun H locs h => ?_)
          refine h_ifz (tgt := 75) C.1 C.2.1 dX9_wordOrName_68 (by decide) (fun q => ?_) (fun q => ?_)
          · have hM := ite_f q hM
            refine lv_aload_n C.1 C.2.1 dX9_wordOrName_75 rfl (lv_at hl 1 rfl) ?_
            refine lv_iload_n C.1 C.2.1 dX9_wordOrName_76 rfl (lv_at hl 2 rfl) ?_
            refine lv_iload_n C.1 C.2.1 dX9_wordOrName_77 rfl (lv_at hl 3 rfl) ?_
            refine va_ldcS C.1 C.2.1 C.2.2.2.1 (h_str C 5 rfl) dX9_wordOrName_78 ?_
            obtain ⟨r_11, m_12, hc_11, hM⟩ := bd_some hM
            refine h_callVi C h (As := [.int x2, .int x3, .ref (E.2.2.2.1 5)]) (rest := []) (bz r_11) m_12 (c_X8_spells hc_11 tx1 (by decide)) 8 rfl (by decide) tx1 im_yX8_spells se_yX8_spells cy_X8_spells rfl ml_X9_72 ⟨by decide, by decide⟩ ⟨Nat.zero_le _, Nat.zero_le _⟩ hl.1 rfl (Nat.le_of_ble_eq_true rfl) dX9_wordOrName_80 (fun H locs h => ?_)
            refine h_ifz (tgt := 90) C.1 C.2.1 dX9_wordOrName_83 (by decide) (fun q => ?_) (fun q => ?_)
            · have hM := ite_f q hM
              refine lv_aload_n C.1 C.2.1 dX9_wordOrName_90 rfl (lv_at hl 1 rfl) ?_
              refine lv_iload_n C.1 C.2.1 dX9_wordOrName_91 rfl (lv_at hl 2 rfl) ?_
              refine lv_iload_n C.1 C.2.1 dX9_wordOrName_92 rfl (lv_at hl 3 rfl) ?_
              refine va_ldcS C.1 C.2.1 C.2.2.2.1 (h_str C 6 rfl) dX9_wordOrName_93 ?_
              obtain ⟨r_13, m_14, hc_13, hM⟩ := bd_some hM
              refine h_callVi C h (As := [.int x2, .int x3, .ref (E.2.2.2.1 6)]) (rest := []) (bz r_13) m_14 (c_X8_spells hc_13 tx1 (by decide)) 8 rfl (by decide) tx1 im_yX8_spells se_yX8_spells cy_X8_spells rfl ml_X9_72 ⟨by decide, by decide⟩ ⟨Nat.zero_le _, Nat.zero_le _⟩ hl.1 rfl (Nat.le_of_ble_eq_true rfl) dX9_wordOrName_95 (fun H locs h => ?_)
              refine h_ifz (tgt := 105) C.1 C.2.1 dX9_wordOrName_98 (by decide) (fun q => ?_) (fun q => ?_)
              · have hM := ite_f q hM
                refine lv_aload_n C.1 C.2.1 dX9_wordOrName_105 rfl (lv_at hl 1 rfl) ?_
                refine lv_iload_n C.1 C.2.1 dX9_wordOrName_106 rfl (lv_at hl 2 rfl) ?_
                refine lv_iload_n C.1 C.2.1 dX9_wordOrName_107 rfl (lv_at hl 3 rfl) ?_
                refine va_ldcS C.1 C.2.1 C.2.2.2.1 (h_str C 7 rfl) dX9_wordOrName_108 ?_
                obtain ⟨r_15, m_16, hc_15, hM⟩ := bd_some hM
                refine h_callVi C h (As := [.int x2, .int x3, .ref (E.2.2.2.1 7)]) (rest := []) (bz r_15) m_16 (c_X8_spells hc_15 tx1 (by decide)) 8 rfl (by decide) tx1 im_yX8_spells se_yX8_spells cy_X8_spells rfl ml_X9_72 ⟨by decide, by decide⟩ ⟨Nat.zero_le _, Nat.zero_le _⟩ hl.1 rfl (Nat.le_of_ble_eq_true rfl) dX9_wordOrName_110 (fun H locs h => ?_)
                refine h_ifz (tgt := 120) C.1 C.2.1 dX9_wordOrName_113 (by decide) (fun q => ?_) (fun q => ?_)
                · have hM := ite_f q hM
                  refine lv_aload_n C.1 C.2.1 dX9_wordOrName_120 rfl (lv_at hl 1 rfl) ?_
                  refine lv_iload_n C.1 C.2.1 dX9_wordOrName_121 rfl (lv_at hl 2 rfl) ?_
                  refine lv_iload_n C.1 C.2.1 dX9_wordOrName_122 rfl (lv_at hl 3 rfl) ?_
                  refine va_ldcS C.1 C.2.1 C.2.2.2.1 (h_str C 8 rfl) dX9_wordOrName_123 ?_
                  obtain ⟨r_17, m_18, hc_17, hM⟩ := bd_some hM
                  refine h_callVi C h (As := [.int x2, .int x3, .ref (E.2.2.2.1 8)]) (rest := []) (bz r_17) m_18 (c_X8_spells hc_17 tx1 (by decide)) 8 rfl (by decide) tx1 im_yX8_spells se_yX8_spells cy_X8_spells rfl ml_X9_72 ⟨by decide, by decide⟩ ⟨Nat.zero_le _, Nat.zero_le _⟩ hl.1 rfl (Nat.le_of_ble_eq_true rfl) dX9_wordOrName_125 (fun H locs h => ?_)
                  refine h_ifz (tgt := 135) C.1 C.2.1 dX9_wordOrName_128 (by decide) (fun q => ?_) (fun q => ?_)
                  · have hM := ite_f q hM
                    refine lv_sipush (v := 128) C.1 C.2.1 dX9_wordOrName_135 (by decide) ?_
                    obtain ⟨rfl, rfl⟩ := so_inj hM
                    exact h_iret C h dX9_wordOrName_138
                  · have hM := ite_t q hM
                    refine lv_sipush (v := 140) C.1 C.2.1 dX9_wordOrName_131 (by decide) ?_
                    obtain ⟨rfl, rfl⟩ := so_inj hM
                    exact h_iret C h dX9_wordOrName_134
                · have hM := ite_t q hM
                  refine lv_sipush (v := 139) C.1 C.2.1 dX9_wordOrName_116 (by decide) ?_
                  obtain ⟨rfl, rfl⟩ := so_inj hM
                  exact h_iret C h dX9_wordOrName_119
              · have hM := ite_t q hM
                refine lv_sipush (v := 138) C.1 C.2.1 dX9_wordOrName_101 (by decide) ?_
                obtain ⟨rfl, rfl⟩ := so_inj hM
                exact h_iret C h dX9_wordOrName_104
            · have hM := ite_t q hM
              refine lv_sipush (v := 137) C.1 C.2.1 dX9_wordOrName_86 (by decide) ?_
              obtain ⟨rfl, rfl⟩ := so_inj hM
              exact h_iret C h dX9_wordOrName_89
          · have hM := ite_t q hM
            refine lv_sipush (v := 136) C.1 C.2.1 dX9_wordOrName_71 (by decide) ?_
            obtain ⟨rfl, rfl⟩ := so_inj hM
            exact h_iret C h dX9_wordOrName_74
        · have hM := ite_t q hM
          refine lv_sipush (v := 135) C.1 C.2.1 dX9_wordOrName_56 (by decide) ?_
          obtain ⟨rfl, rfl⟩ := so_inj hM
          exact h_iret C h dX9_wordOrName_59
      · have hM := ite_t q hM
        refine lv_sipush (v := 134) C.1 C.2.1 dX9_wordOrName_41 (by decide) ?_
        obtain ⟨rfl, rfl⟩ := so_inj hM
        exact h_iret C h dX9_wordOrName_44
    · have hM := ite_t q hM
      refine lv_sipush (v := 133) C.1 C.2.1 dX9_wordOrName_26 (by decide) ?_
      obtain ⟨rfl, rfl⟩ := so_inj hM
      exact h_iret C h dX9_wordOrName_29
  · have hM := ite_t q hM
    refine lv_sipush (v := 132) C.1 C.2.1 dX9_wordOrName_11 (by decide) ?_
    obtain ⟨rfl, rfl⟩ := so_inj hM
    exact h_iret C h dX9_wordOrName_14
theorem cy_X9_wordOrName : Cy yX9_wordOrName cX9_wordOrName 4 (some .int) 3 := ⟨cd_yX9_wordOrName, ii_X9, by decide, by decide, by decide +kernel⟩
set_option maxRecDepth 100000 in
theorem c_X9_wordOrName {l : Launch} {E : EE} {G : GG} {x0 : Nat} {x1 : Nat} {x2 : Int32} {x3 : Int32} {m m9 : MM} {r9 : Int32} (hM : M_X9_wordOrName G x0 x1 x2 x3 m = some (r9, m9)) (tx0 : Ty E G x0 9) (tx1 : Ty E G x1 8) : Mc l E yX9_wordOrName cX9_wordOrName 4 (some .int) rmX9_wordOrName [.ref x0, .ref x1, .int x2, .int x3] G m (cQi E r9 G m9) := M_of (by decide) (Nat.le_of_ble_eq_true rfl) (fun p e s mth below meth c C h ls hl => cM_X9_wordOrName C hM tx0 tx1 _ _ h ls hl)
abbrev rmX9_add : Room := { frames := 0, cells := 0, slots := 0, locals := 0 }
def M_X9_add (G : GG) (x0 : Nat) (x1 : Int32) (x2 : Int32) (x3 : Int32) (m : MM) : Option (Unit × MM) :=
  nb (gR m x0 0) fun b_1 =>
    if (nI (G.2.2 b_1)) ≤ (gI m x0 1) then
      some ((), m)
    else
      ib (gI m x0 1) (G.2.2 b_1) <|
        some ((), sI (sL m b_1 ((gI m x0 1).toNatClampNeg) ((((x3.toInt64 * 4096) + x2.toInt64) * 256) + x1.toInt64)) x0 1 ((gI (sL m b_1 ((gI m x0 1).toNatClampNeg) ((((x3.toInt64 * 4096) + x2.toInt64) * 256) + x1.toInt64)) x0 1) + 1))
set_option maxRecDepth 100000 in
set_option maxHeartbeats 4000000 in
theorem cM_X9_add {p : Program} {l : Launch} {e : Env} {s : State} {mth : MethodId} {args : Array Value} {below : List Frame} {meth : Method} {c : Code} {E : EE} {G : GG} {r9 : Unit} {m9 : MM} (C : Cx E G p s mth args meth c cX9_add RX9 "add" 4 none) {x0 : Nat} {x1 : Int32} {x2 : Int32} {x3 : Int32} {m : MM} (hM : M_X9_add G x0 x1 x2 x3 m = some (r9, m9)) (tx0 : Ty E G x0 9) : ∀ (H : Heap) (locs : List Loc), Hp E G m s H locs → ∀ ls : Array Slot, lv_has ls 4 [(0, .ref x0), (1, .int x1), (2, .int x2), (3, .int x3)] → W p l e rmX9_add s mth args below meth c H locs 0 0 (MQ below (cQv E G m9) args s 0 0 (fun q => E.2.2.1 ≤ q)) (F0 mth 0 ls []) := by
  intro H locs h ls hl
  unfold M_X9_add at hM
  refine lv_aload_n C.1 C.2.1 dX9_add_0 rfl (lv_at hl 0 rfl) ?_
  refine gt_9_1 C h tx0 fl_X9_15 dX9_add_1 ?_
  refine lv_aload_n C.1 C.2.1 dX9_add_4 rfl (lv_at hl 0 rfl) ?_
  refine gt_9_0 C h tx0 fl_X9_9 dX9_add_5 ?_
  obtain ⟨b_1, hb_1, hM⟩ := nb_some hM
  have tb_1 : Ty E G b_1 15 := (fun b hb => tyf h tx0 hb) _ hb_1
  refine st_ref hb_1 ?_
  refine h_alen C h 15 (by decide) (by decide) tb_1 dX9_add_8 ?_
  refine lv_icmp_ge (tgt := 47) C.1 C.2.1 dX9_add_9 (by decide) (fun q => ?_) (fun q => ?_)
  · have hM := ite_t q hM
    obtain ⟨rfl, rfl⟩ := so_inj hM
    exact h_vret C h dX9_add_47
  · have hM := ite_f q hM
    refine lv_aload_n C.1 C.2.1 dX9_add_12 rfl (lv_at hl 0 rfl) ?_
    refine gt_9_0 C h tx0 fl_X9_9 dX9_add_13 ?_
    refine st_ref hb_1 ?_
    refine lv_aload_n C.1 C.2.1 dX9_add_16 rfl (lv_at hl 0 rfl) ?_
    refine gt_9_1 C h tx0 fl_X9_15 dX9_add_17 ?_
    refine lv_iload_n C.1 C.2.1 dX9_add_20 rfl (lv_at hl 3 rfl) ?_
    refine lv_i2l (v := x3.toInt64) C.1 C.2.1 dX9_add_21 rfl ?_
    refine lv_ldc2 C.1 C.2.1 C.2.2.2.1 (C.2.2.2.2.1 _ cj_X9_92) dX9_add_22 ?_
    refine lv_lmul C.1 C.2.1 dX9_add_25 ?_
    refine lv_iload_n C.1 C.2.1 dX9_add_26 rfl (lv_at hl 2 rfl) ?_
    refine lv_i2l (v := x2.toInt64) C.1 C.2.1 dX9_add_27 rfl ?_
    refine lv_ladd C.1 C.2.1 dX9_add_28 ?_
    refine lv_ldc2 C.1 C.2.1 C.2.2.2.1 (C.2.2.2.2.1 _ cj_X9_94) dX9_add_29 ?_
    refine lv_lmul C.1 C.2.1 dX9_add_32 ?_
    refine lv_iload_n C.1 C.2.1 dX9_add_33 rfl (lv_at hl 1 rfl) ?_
    refine lv_i2l (v := x1.toInt64) C.1 C.2.1 dX9_add_34 rfl ?_
    refine lv_ladd C.1 C.2.1 dX9_add_35 ?_
    obtain ⟨hi, hM⟩ := ib_some hM
    refine h_last C h tb_1 hi dX9_add_36 (fun H locs h => ?_)
    refine lv_aload_n C.1 C.2.1 dX9_add_37 rfl (lv_at hl 0 rfl) ?_
    refine lv_dup C.1 C.2.1 dX9_add_38 rfl ?_
    refine gt_9_1 C h tx0 fl_X9_15 dX9_add_39 ?_
    refine lv_iconst (v := 1) C.1 C.2.1 dX9_add_42 (by decide) ?_
    refine lv_iadd C.1 C.2.1 dX9_add_43 ?_
    refine pt_9_1 C h tx0 fl_X9_15 dX9_add_44 (fun H locs h => ?_)
    obtain ⟨rfl, rfl⟩ := so_inj hM
    exact h_vret C h dX9_add_47
theorem cy_X9_add : Cy yX9_add cX9_add 4 none 3 := ⟨cd_yX9_add, ii_X9, by decide, by decide, by decide +kernel⟩
set_option maxRecDepth 100000 in
theorem c_X9_add {l : Launch} {E : EE} {G : GG} {x0 : Nat} {x1 : Int32} {x2 : Int32} {x3 : Int32} {m m9 : MM} {r9 : Unit} (hM : M_X9_add G x0 x1 x2 x3 m = some (r9, m9)) (tx0 : Ty E G x0 9) : Mc l E yX9_add cX9_add 4 none rmX9_add [.ref x0, .int x1, .int x2, .int x3] G m (cQv E G m9) := M_of (by decide) (Nat.le_of_ble_eq_true rfl) (fun p e s mth below meth c C h ls hl => cM_X9_add C hM tx0 _ _ h ls hl)
abbrev rmX9_addAt : Room := { frames := 6, cells := 0, slots := 0, locals := 132 }
def M_X9_addAt (G : GG) (x0 : Nat) (x1 : Nat) (x2 : Int32) (m : MM) : Option (Int32 × MM) :=
  bd (M_X8_byteAt G x1 x2 m) fun r_1 m_2 =>
    if r_1 = 32 then
      some (1, m_2)
    else
      if r_1 = 10 then
        some (1, m_2)
      else
        bd (M_X8_isLetterAt G x1 x2 m_2) fun r_3 m_4 =>
          if r_3 = true then
            bd (M_X8_nameLength G x1 x2 m_4) fun r_21 m_22 =>
              if r_21 ≤ 12 then
                bd (M_X9_wordOrName G x0 x1 x2 r_21 m_22) fun r_23 m_24 =>
                  bd (M_X9_add G x0 r_23 x2 0 m_24) fun _ m_26 =>
                    some (r_21, m_26)
              else
                bd (M_X9_add G x0 131 x2 0 m_22) fun _ m_28 =>
                  some (r_21, m_28)
          else
            bd (M_X8_isDigitAt G x1 x2 m_4) fun r_5 m_6 =>
              if r_5 = true then
                bd (M_X8_numberAt G x1 x2 m_6) fun r_15 m_16 =>
                  bd (M_X9_add G x0 129 x2 r_15 m_16) fun _ m_18 =>
                    bd (M_X8_numberLength G x1 x2 m_18) fun r_19 m_20 =>
                      some (r_19, m_20)
              else
                if r_1 < 0 then
                  bd (M_X9_add G x0 131 x2 0 m_6) fun _ m_8 =>
                    some (1, m_8)
                else
                  bd (M_J0_indexOf_0f7a4 G 9 (ch r_1) m_6) fun r_9 m_10 =>
                    if r_9 < 0 then
                      bd (M_X9_add G x0 131 x2 0 m_10) fun _ m_12 =>
                        some (1, m_12)
                    else
                      bd (M_X9_add G x0 r_1 x2 0 m_10) fun _ m_14 =>
                        some (1, m_14)
set_option maxRecDepth 100000 in
set_option maxHeartbeats 4000000 in
theorem cM_X9_addAt {p : Program} {l : Launch} {e : Env} {s : State} {mth : MethodId} {args : Array Value} {below : List Frame} {meth : Method} {c : Code} {E : EE} {G : GG} {r9 : Int32} {m9 : MM} (C : Cx E G p s mth args meth c cX9_addAt RX9 "addAt" 5 (some .int)) {x0 : Nat} {x1 : Nat} {x2 : Int32} {m : MM} (hM : M_X9_addAt G x0 x1 x2 m = some (r9, m9)) (tx0 : Ty E G x0 9) (tx1 : Ty E G x1 8) : ∀ (H : Heap) (locs : List Loc), Hp E G m s H locs → ∀ ls : Array Slot, lv_has ls 5 [(0, .ref x0), (1, .ref x1), (2, .int x2)] → W p l e rmX9_addAt s mth args below meth c H locs 0 0 (MQ below (cQi E r9 G m9) args s 0 0 (fun q => E.2.2.1 ≤ q)) (F0 mth 0 ls []) := by
  intro H locs h ls hl
  unfold M_X9_addAt at hM
  refine lv_aload_n C.1 C.2.1 dX9_addAt_0 rfl (lv_at hl 1 rfl) ?_
  refine lv_iload_n C.1 C.2.1 dX9_addAt_1 rfl (lv_at hl 2 rfl) ?_
  obtain ⟨r_1, m_2, hc_1, hM⟩ := bd_some hM
  refine h_callVi C h (As := [.int x2]) (rest := []) r_1 m_2 (c_X8_byteAt hc_1 tx1) 8 rfl (by decide) tx1 im_yX8_byteAt se_yX8_byteAt cy_X8_byteAt rfl ml_X9_39 ⟨by decide, by decide⟩ ⟨Nat.zero_le _, Nat.zero_le _⟩ hl.1 rfl (Nat.le_of_ble_eq_true rfl) dX9_addAt_2 (fun H locs h => ?_)
  refine lv_istore_n (lv' := [(3, .int r_1), (0, .ref x0), (1, .ref x1), (2, .int x2)]) C.1 C.2.1 dX9_addAt_5 rfl hl (by decide) rfl (fun ls hl => ?_)
  refine lv_iload_n C.1 C.2.1 dX9_addAt_6 rfl (lv_at hl 0 rfl) ?_
  refine lv_bipush (v := 32) C.1 C.2.1 dX9_addAt_7 (by decide) ?_
  refine lv_icmp_eq (tgt := 18) C.1 C.2.1 dX9_addAt_9 (by decide) (fun q => ?_) (fun q => ?_)
  · have hM := ite_t q hM
    refine lv_iconst (v := 1) C.1 C.2.1 dX9_addAt_18 (by decide) ?_
    obtain ⟨rfl, rfl⟩ := so_inj hM
    exact h_iret C h dX9_addAt_19
  · have hM := ite_f q hM
    refine lv_iload_n C.1 C.2.1 dX9_addAt_12 rfl (lv_at hl 0 rfl) ?_
    refine lv_bipush (v := 10) C.1 C.2.1 dX9_addAt_13 (by decide) ?_
    refine lv_icmp_ne (tgt := 20) C.1 C.2.1 dX9_addAt_15 (by decide) (fun q => ?_) (fun q => ?_)
    · have hM := ite_f q hM
      refine lv_aload_n C.1 C.2.1 dX9_addAt_20 rfl (lv_at hl 2 rfl) ?_
      refine lv_iload_n C.1 C.2.1 dX9_addAt_21 rfl (lv_at hl 3 rfl) ?_
      obtain ⟨r_3, m_4, hc_3, hM⟩ := bd_some hM
      refine h_callVi C h (As := [.int x2]) (rest := []) (bz r_3) m_4 (c_X8_isLetterAt hc_3 tx1) 8 rfl (by decide) tx1 im_yX8_isLetterAt se_yX8_isLetterAt cy_X8_isLetterAt rfl ml_X9_43 ⟨by decide, by decide⟩ ⟨Nat.zero_le _, Nat.zero_le _⟩ hl.1 rfl (Nat.le_of_ble_eq_true rfl) dX9_addAt_22 (fun H locs h => ?_)
      refine h_ifz (tgt := 65) C.1 C.2.1 dX9_addAt_25 (by decide) (fun q => ?_) (fun q => ?_)
      · have hM := ite_f q hM
        refine lv_aload_n C.1 C.2.1 dX9_addAt_65 rfl (lv_at hl 2 rfl) ?_
        refine lv_iload_n C.1 C.2.1 dX9_addAt_66 rfl (lv_at hl 3 rfl) ?_
        obtain ⟨r_5, m_6, hc_5, hM⟩ := bd_some hM
        refine h_callVi C h (As := [.int x2]) (rest := []) (bz r_5) m_6 (c_X8_isDigitAt hc_5 tx1) 8 rfl (by decide) tx1 im_yX8_isDigitAt se_yX8_isDigitAt cy_X8_isDigitAt rfl ml_X9_54 ⟨by decide, by decide⟩ ⟨Nat.zero_le _, Nat.zero_le _⟩ hl.1 rfl (Nat.le_of_ble_eq_true rfl) dX9_addAt_67 (fun H locs h => ?_)
        refine h_ifz (tgt := 92) C.1 C.2.1 dX9_addAt_70 (by decide) (fun q => ?_) (fun q => ?_)
        · have hM := ite_f q hM
          refine lv_aload_n C.1 C.2.1 dX9_addAt_92 rfl (lv_at hl 1 rfl) ?_
          refine lv_iload_n C.1 C.2.1 dX9_addAt_93 rfl (lv_at hl 0 rfl) ?_
          refine lv_if_lt (tgt := 111) C.1 C.2.1 dX9_addAt_94 (by decide) (fun q => ?_) (fun q => ?_)
          · have hM := ite_t q hM
            refine lv_sipush (v := 131) C.1 C.2.1 dX9_addAt_111 (by decide) ?_
            refine lv_iload_n C.1 C.2.1 dX9_addAt_114 rfl (lv_at hl 3 rfl) ?_
            refine lv_iconst (v := 0) C.1 C.2.1 dX9_addAt_115 (by decide) ?_
            obtain ⟨r_7, m_8, hc_7, hM⟩ := bd_some hM
            refine h_callVv C h (As := [.int 131, .int x2, .int 0]) (rest := []) m_8 (c_X9_add hc_7 tx0) 9 rfl (by decide) tx0 im_yX9_add se_yX9_add cy_X9_add rfl ml_X9_28 ⟨by decide, by decide⟩ ⟨Nat.zero_le _, Nat.zero_le _⟩ hl.1 rfl (Nat.le_of_ble_eq_true rfl) dX9_addAt_116 (fun H locs h => ?_)
            refine lv_iconst (v := 1) C.1 C.2.1 dX9_addAt_119 (by decide) ?_
            obtain ⟨rfl, rfl⟩ := so_inj hM
            exact h_iret C h dX9_addAt_120
          · have hM := ite_f q hM
            refine va_ldcS C.1 C.2.1 C.2.2.2.1 (h_str C 9 rfl) dX9_addAt_97 ?_
            refine lv_iload_n C.1 C.2.1 dX9_addAt_99 rfl (lv_at hl 0 rfl) ?_
            refine lv_i2c (v := ch r_1) C.1 C.2.1 dX9_addAt_100 rfl ?_
            obtain ⟨r_9, m_10, hc_9, hM⟩ := bd_some hM
            refine h_callTi C h (As := [.int (ch r_1)]) (rest := [.ref x0]) r_9 m_10 (c_J0_indexOf_0f7a4 hc_9 (by decide)) (by decide) im_yJ0_indexOf_0f7a4 se_yJ0_indexOf_0f7a4 cy_J0_indexOf_0f7a4 rfl ml_X9_65 ⟨by decide, by decide⟩ ⟨Nat.zero_le _, Nat.zero_le _⟩ hl.1 rfl (Nat.le_of_ble_eq_true rfl) dX9_addAt_101 (fun H locs h => ?_)
            refine lv_if_lt (tgt := 111) C.1 C.2.1 dX9_addAt_104 (by decide) (fun q => ?_) (fun q => ?_)
            · have hM := ite_t q hM
              refine lv_sipush (v := 131) C.1 C.2.1 dX9_addAt_111 (by decide) ?_
              refine lv_iload_n C.1 C.2.1 dX9_addAt_114 rfl (lv_at hl 3 rfl) ?_
              refine lv_iconst (v := 0) C.1 C.2.1 dX9_addAt_115 (by decide) ?_
              obtain ⟨r_11, m_12, hc_11, hM⟩ := bd_some hM
              refine h_callVv C h (As := [.int 131, .int x2, .int 0]) (rest := []) m_12 (c_X9_add hc_11 tx0) 9 rfl (by decide) tx0 im_yX9_add se_yX9_add cy_X9_add rfl ml_X9_28 ⟨by decide, by decide⟩ ⟨Nat.zero_le _, Nat.zero_le _⟩ hl.1 rfl (Nat.le_of_ble_eq_true rfl) dX9_addAt_116 (fun H locs h => ?_)
              refine lv_iconst (v := 1) C.1 C.2.1 dX9_addAt_119 (by decide) ?_
              obtain ⟨rfl, rfl⟩ := so_inj hM
              exact h_iret C h dX9_addAt_120
            · have hM := ite_f q hM
              refine lv_iload_n C.1 C.2.1 dX9_addAt_107 rfl (lv_at hl 0 rfl) ?_
              refine lv_goto (tgt := 114) C.1 C.2.1 dX9_addAt_108 (by decide) ?_
              refine lv_iload_n C.1 C.2.1 dX9_addAt_114 rfl (lv_at hl 3 rfl) ?_
              refine lv_iconst (v := 0) C.1 C.2.1 dX9_addAt_115 (by decide) ?_
              obtain ⟨r_13, m_14, hc_13, hM⟩ := bd_some hM
              refine h_callVv C h (As := [.int r_1, .int x2, .int 0]) (rest := []) m_14 (c_X9_add hc_13 tx0) 9 rfl (by decide) tx0 im_yX9_add se_yX9_add cy_X9_add rfl ml_X9_28 ⟨by decide, by decide⟩ ⟨Nat.zero_le _, Nat.zero_le _⟩ hl.1 rfl (Nat.le_of_ble_eq_true rfl) dX9_addAt_116 (fun H locs h => ?_)
              refine lv_iconst (v := 1) C.1 C.2.1 dX9_addAt_119 (by decide) ?_
              obtain ⟨rfl, rfl⟩ := so_inj hM
              exact h_iret C h dX9_addAt_120
        · have hM := ite_t q hM
          refine lv_aload_n C.1 C.2.1 dX9_addAt_73 rfl (lv_at hl 1 rfl) ?_
          refine lv_sipush (v := 129) C.1 C.2.1 dX9_addAt_74 (by decide) ?_
          refine lv_iload_n C.1 C.2.1 dX9_addAt_77 rfl (lv_at hl 3 rfl) ?_
          refine lv_aload_n C.1 C.2.1 dX9_addAt_78 rfl (lv_at hl 2 rfl) ?_
          refine lv_iload_n C.1 C.2.1 dX9_addAt_79 rfl (lv_at hl 3 rfl) ?_
          obtain ⟨r_15, m_16, hc_15, hM⟩ := bd_some hM
          refine h_callVi C h (As := [.int x2]) (rest := [.int x2, .int 129, .ref x0]) r_15 m_16 (c_X8_numberAt hc_15 tx1) 8 rfl (by decide) tx1 im_yX8_numberAt se_yX8_numberAt cy_X8_numberAt rfl ml_X9_57 ⟨by decide, by decide⟩ ⟨Nat.zero_le _, Nat.zero_le _⟩ hl.1 rfl (Nat.le_of_ble_eq_true rfl) dX9_addAt_80 (fun H locs h => ?_)
          obtain ⟨r_17, m_18, hc_17, hM⟩ := bd_some hM
          refine h_callVv C h (As := [.int 129, .int x2, .int r_15]) (rest := []) m_18 (c_X9_add hc_17 tx0) 9 rfl (by decide) tx0 im_yX9_add se_yX9_add cy_X9_add rfl ml_X9_28 ⟨by decide, by decide⟩ ⟨Nat.zero_le _, Nat.zero_le _⟩ hl.1 rfl (Nat.le_of_ble_eq_true rfl) dX9_addAt_83 (fun H locs h => ?_)
          refine lv_aload_n C.1 C.2.1 dX9_addAt_86 rfl (lv_at hl 2 rfl) ?_
          refine lv_iload_n C.1 C.2.1 dX9_addAt_87 rfl (lv_at hl 3 rfl) ?_
          obtain ⟨r_19, m_20, hc_19, hM⟩ := bd_some hM
          refine h_callVi C h (As := [.int x2]) (rest := []) r_19 m_20 (c_X8_numberLength hc_19 tx1) 8 rfl (by decide) tx1 im_yX8_numberLength se_yX8_numberLength cy_X8_numberLength rfl ml_X9_60 ⟨by decide, by decide⟩ ⟨Nat.zero_le _, Nat.zero_le _⟩ hl.1 rfl (Nat.le_of_ble_eq_true rfl) dX9_addAt_88 (fun H locs h => ?_)
          obtain ⟨rfl, rfl⟩ := so_inj hM
          exact h_iret C h dX9_addAt_91
      · have hM := ite_t q hM
        refine lv_aload_n C.1 C.2.1 dX9_addAt_28 rfl (lv_at hl 2 rfl) ?_
        refine lv_iload_n C.1 C.2.1 dX9_addAt_29 rfl (lv_at hl 3 rfl) ?_
        obtain ⟨r_21, m_22, hc_21, hM⟩ := bd_some hM
        refine h_callVi C h (As := [.int x2]) (rest := []) r_21 m_22 (c_X8_nameLength hc_21 tx1) 8 rfl (by decide) tx1 im_yX8_nameLength se_yX8_nameLength cy_X8_nameLength rfl ml_X9_47 ⟨by decide, by decide⟩ ⟨Nat.zero_le _, Nat.zero_le _⟩ hl.1 rfl (Nat.le_of_ble_eq_true rfl) dX9_addAt_30 (fun H locs h => ?_)
        refine lv_istore (lv' := [(4, .int r_21), (3, .int r_1), (0, .ref x0), (1, .ref x1), (2, .int x2)]) C.1 C.2.1 dX9_addAt_33 hl (by decide) rfl (fun ls hl => ?_)
        refine lv_aload_n C.1 C.2.1 dX9_addAt_35 rfl (lv_at hl 2 rfl) ?_
        refine lv_iload C.1 C.2.1 dX9_addAt_36 (lv_at hl 0 rfl) ?_
        refine lv_bipush (v := 12) C.1 C.2.1 dX9_addAt_38 (by decide) ?_
        refine lv_icmp_le (tgt := 49) C.1 C.2.1 dX9_addAt_40 (by decide) (fun q => ?_) (fun q => ?_)
        · have hM := ite_t q hM
          refine lv_aload_n C.1 C.2.1 dX9_addAt_49 rfl (lv_at hl 2 rfl) ?_
          refine lv_aload_n C.1 C.2.1 dX9_addAt_50 rfl (lv_at hl 3 rfl) ?_
          refine lv_iload_n C.1 C.2.1 dX9_addAt_51 rfl (lv_at hl 4 rfl) ?_
          refine lv_iload C.1 C.2.1 dX9_addAt_52 (lv_at hl 0 rfl) ?_
          obtain ⟨r_23, m_24, hc_23, hM⟩ := bd_some hM
          refine h_callVi C h (As := [.ref x1, .int x2, .int r_21]) (rest := [.ref x0]) r_23 m_24 (c_X9_wordOrName hc_23 tx0 tx1) 9 rfl (by decide) tx0 im_yX9_wordOrName se_yX9_wordOrName cy_X9_wordOrName rfl ml_X9_50 ⟨by decide, by decide⟩ ⟨Nat.zero_le _, Nat.zero_le _⟩ hl.1 rfl (Nat.le_of_ble_eq_true rfl) dX9_addAt_54 (fun H locs h => ?_)
          refine lv_iload_n C.1 C.2.1 dX9_addAt_57 rfl (lv_at hl 4 rfl) ?_
          refine lv_iconst (v := 0) C.1 C.2.1 dX9_addAt_58 (by decide) ?_
          obtain ⟨r_25, m_26, hc_25, hM⟩ := bd_some hM
          refine h_callVv C h (As := [.int r_23, .int x2, .int 0]) (rest := []) m_26 (c_X9_add hc_25 tx0) 9 rfl (by decide) tx0 im_yX9_add se_yX9_add cy_X9_add rfl ml_X9_28 ⟨by decide, by decide⟩ ⟨Nat.zero_le _, Nat.zero_le _⟩ hl.1 rfl (Nat.le_of_ble_eq_true rfl) dX9_addAt_59 (fun H locs h => ?_)
          refine lv_iload C.1 C.2.1 dX9_addAt_62 (lv_at hl 0 rfl) ?_
          obtain ⟨rfl, rfl⟩ := so_inj hM
          exact h_iret C h dX9_addAt_64
        · have hM := ite_f q hM
          refine lv_sipush (v := 131) C.1 C.2.1 dX9_addAt_43 (by decide) ?_
          refine lv_goto (tgt := 57) C.1 C.2.1 dX9_addAt_46 (by decide) ?_
          refine lv_iload_n C.1 C.2.1 dX9_addAt_57 rfl (lv_at hl 4 rfl) ?_
          refine lv_iconst (v := 0) C.1 C.2.1 dX9_addAt_58 (by decide) ?_
          obtain ⟨r_27, m_28, hc_27, hM⟩ := bd_some hM
          refine h_callVv C h (As := [.int 131, .int x2, .int 0]) (rest := []) m_28 (c_X9_add hc_27 tx0) 9 rfl (by decide) tx0 im_yX9_add se_yX9_add cy_X9_add rfl ml_X9_28 ⟨by decide, by decide⟩ ⟨Nat.zero_le _, Nat.zero_le _⟩ hl.1 rfl (Nat.le_of_ble_eq_true rfl) dX9_addAt_59 (fun H locs h => ?_)
          refine lv_iload C.1 C.2.1 dX9_addAt_62 (lv_at hl 0 rfl) ?_
          obtain ⟨rfl, rfl⟩ := so_inj hM
          exact h_iret C h dX9_addAt_64
    · have hM := ite_t q hM
      refine lv_iconst (v := 1) C.1 C.2.1 dX9_addAt_18 (by decide) ?_
      obtain ⟨rfl, rfl⟩ := so_inj hM
      exact h_iret C h dX9_addAt_19
theorem cy_X9_addAt : Cy yX9_addAt cX9_addAt 5 (some .int) 2 := ⟨cd_yX9_addAt, ii_X9, by decide, by decide, by decide +kernel⟩
set_option maxRecDepth 100000 in
theorem c_X9_addAt {l : Launch} {E : EE} {G : GG} {x0 : Nat} {x1 : Nat} {x2 : Int32} {m m9 : MM} {r9 : Int32} (hM : M_X9_addAt G x0 x1 x2 m = some (r9, m9)) (tx0 : Ty E G x0 9) (tx1 : Ty E G x1 8) : Mc l E yX9_addAt cX9_addAt 5 (some .int) rmX9_addAt [.ref x0, .ref x1, .int x2] G m (cQi E r9 G m9) := M_of (by decide) (Nat.le_of_ble_eq_true rfl) (fun p e s mth below meth c C h ls hl => cM_X9_addAt C hM tx0 tx1 _ _ h ls hl)
abbrev rmX9_advance : Room := { frames := 0, cells := 0, slots := 0, locals := 0 }
def M_X9_advance (G : GG) (x0 : Nat) (m : MM) : Option (Bool × MM) :=
  if (gI (sI m x0 2 ((gI m x0 2) + 1)) x0 2) < 0 then
    some (true, sI m x0 2 ((gI m x0 2) + 1))
  else
    if (gI (sI m x0 2 ((gI m x0 2) + 1)) x0 1) ≤ (gI (sI m x0 2 ((gI m x0 2) + 1)) x0 2) then
      some (true, sI m x0 2 ((gI m x0 2) + 1))
    else
      nb (gR (sI m x0 2 ((gI m x0 2) + 1)) x0 0) fun b_1 =>
        if (nI (G.2.2 b_1)) ≤ (gI (sI m x0 2 ((gI m x0 2) + 1)) x0 2) then
          some (true, sI m x0 2 ((gI m x0 2) + 1))
        else
          ib (gI (sI m x0 2 ((gI m x0 2) + 1)) x0 2) (G.2.2 b_1) <|
            some (true, sI (sI (sI (sI m x0 2 ((gI m x0 2) + 1)) x0 3 (((gL (sI m x0 2 ((gI m x0 2) + 1)) b_1 ((gI (sI m x0 2 ((gI m x0 2) + 1)) x0 2).toNatClampNeg)) - (gL (sI m x0 2 ((gI m x0 2) + 1)) b_1 ((gI (sI m x0 2 ((gI m x0 2) + 1)) x0 2).toNatClampNeg)) / 256 * 256).toInt32)) x0 4 ((((gL (sI m x0 2 ((gI m x0 2) + 1)) b_1 ((gI (sI m x0 2 ((gI m x0 2) + 1)) x0 2).toNatClampNeg)) / 256) - ((gL (sI m x0 2 ((gI m x0 2) + 1)) b_1 ((gI (sI m x0 2 ((gI m x0 2) + 1)) x0 2).toNatClampNeg)) / 256) / 4096 * 4096).toInt32)) x0 5 ((((gL (sI m x0 2 ((gI m x0 2) + 1)) b_1 ((gI (sI m x0 2 ((gI m x0 2) + 1)) x0 2).toNatClampNeg)) / 256) / 4096).toInt32))
set_option maxRecDepth 100000 in
set_option maxHeartbeats 4000000 in
theorem cM_X9_advance {p : Program} {l : Launch} {e : Env} {s : State} {mth : MethodId} {args : Array Value} {below : List Frame} {meth : Method} {c : Code} {E : EE} {G : GG} {r9 : Bool} {m9 : MM} (C : Cx E G p s mth args meth c cX9_advance RX9 "advance" 3 (some .boolean)) {x0 : Nat} {m : MM} (hM : M_X9_advance G x0 m = some (r9, m9)) (tx0 : Ty E G x0 9) : ∀ (H : Heap) (locs : List Loc), Hp E G m s H locs → ∀ ls : Array Slot, lv_has ls 3 [(0, .ref x0)] → W p l e rmX9_advance s mth args below meth c H locs 0 0 (MQ below (cQi E (bz r9) G m9) args s 0 0 (fun q => E.2.2.1 ≤ q)) (F0 mth 0 ls []) := by
  intro H locs h ls hl
  unfold M_X9_advance at hM
  refine lv_aload_n C.1 C.2.1 dX9_advance_0 rfl (lv_at hl 0 rfl) ?_
  refine lv_dup C.1 C.2.1 dX9_advance_1 rfl ?_
  refine gt_9_2 C h tx0 fl_X9_32 dX9_advance_2 ?_
  refine lv_iconst (v := 1) C.1 C.2.1 dX9_advance_5 (by decide) ?_
  refine lv_iadd C.1 C.2.1 dX9_advance_6 ?_
  refine pt_9_2 C h tx0 fl_X9_32 dX9_advance_7 (fun H locs h => ?_)
  refine lv_aload_n C.1 C.2.1 dX9_advance_10 rfl (lv_at hl 0 rfl) ?_
  refine gt_9_2 C h tx0 fl_X9_32 dX9_advance_11 ?_
  refine lv_if_lt (tgt := 88) C.1 C.2.1 dX9_advance_14 (by decide) (fun q => ?_) (fun q => ?_)
  · have hM := ite_t q hM
    refine lv_iconst (v := 1) C.1 C.2.1 dX9_advance_88 (by decide) ?_
    obtain ⟨rfl, rfl⟩ := so_inj hM
    exact h_zret C h (bz_ok _).1 dX9_advance_89
  · have hM := ite_f q hM
    refine lv_aload_n C.1 C.2.1 dX9_advance_17 rfl (lv_at hl 0 rfl) ?_
    refine gt_9_2 C h tx0 fl_X9_32 dX9_advance_18 ?_
    refine lv_aload_n C.1 C.2.1 dX9_advance_21 rfl (lv_at hl 0 rfl) ?_
    refine gt_9_1 C h tx0 fl_X9_15 dX9_advance_22 ?_
    refine lv_icmp_ge (tgt := 88) C.1 C.2.1 dX9_advance_25 (by decide) (fun q => ?_) (fun q => ?_)
    · have hM := ite_t q hM
      refine lv_iconst (v := 1) C.1 C.2.1 dX9_advance_88 (by decide) ?_
      obtain ⟨rfl, rfl⟩ := so_inj hM
      exact h_zret C h (bz_ok _).1 dX9_advance_89
    · have hM := ite_f q hM
      refine lv_aload_n C.1 C.2.1 dX9_advance_28 rfl (lv_at hl 0 rfl) ?_
      refine gt_9_2 C h tx0 fl_X9_32 dX9_advance_29 ?_
      refine lv_aload_n C.1 C.2.1 dX9_advance_32 rfl (lv_at hl 0 rfl) ?_
      refine gt_9_0 C h tx0 fl_X9_9 dX9_advance_33 ?_
      obtain ⟨b_1, hb_1, hM⟩ := nb_some hM
      have tb_1 : Ty E G b_1 15 := (fun b hb => tyf h tx0 hb) _ hb_1
      refine st_ref hb_1 ?_
      refine h_alen C h 15 (by decide) (by decide) tb_1 dX9_advance_36 ?_
      refine lv_icmp_ge (tgt := 88) C.1 C.2.1 dX9_advance_37 (by decide) (fun q => ?_) (fun q => ?_)
      · have hM := ite_t q hM
        refine lv_iconst (v := 1) C.1 C.2.1 dX9_advance_88 (by decide) ?_
        obtain ⟨rfl, rfl⟩ := so_inj hM
        exact h_zret C h (bz_ok _).1 dX9_advance_89
      · have hM := ite_f q hM
        refine lv_aload_n C.1 C.2.1 dX9_advance_40 rfl (lv_at hl 0 rfl) ?_
        refine gt_9_0 C h tx0 fl_X9_9 dX9_advance_41 ?_
        refine st_ref hb_1 ?_
        refine lv_aload_n C.1 C.2.1 dX9_advance_44 rfl (lv_at hl 0 rfl) ?_
        refine gt_9_2 C h tx0 fl_X9_32 dX9_advance_45 ?_
        obtain ⟨hi, hM⟩ := ib_some hM
        refine h_lald C h tb_1 hi dX9_advance_48 ?_
        refine lv_lstore_n (lv' := [(1, .long (gL (sI m x0 2 ((gI m x0 2) + 1)) b_1 ((gI (sI m x0 2 ((gI m x0 2) + 1)) x0 2).toNatClampNeg))), (0, .ref x0)]) C.1 C.2.1 dX9_advance_49 rfl hl (by decide) rfl (fun ls hl => ?_)
        refine lv_aload_n C.1 C.2.1 dX9_advance_50 rfl (lv_at hl 1 rfl) ?_
        refine lv_lload_n C.1 C.2.1 dX9_advance_51 rfl (lv_at hl 0 rfl) ?_
        refine lv_ldc2 C.1 C.2.1 C.2.2.2.1 (C.2.2.2.2.1 _ cj_X9_94) dX9_advance_52 ?_
        refine lv_lrem C.1 C.2.1 dX9_advance_55 (by decide) ?_
        refine lv_l2i (v := ((gL (sI m x0 2 ((gI m x0 2) + 1)) b_1 ((gI (sI m x0 2 ((gI m x0 2) + 1)) x0 2).toNatClampNeg)) - (gL (sI m x0 2 ((gI m x0 2) + 1)) b_1 ((gI (sI m x0 2 ((gI m x0 2) + 1)) x0 2).toNatClampNeg)) / 256 * 256).toInt32) C.1 C.2.1 dX9_advance_56 rfl ?_
        refine pt_9_3 C h tx0 fl_X9_96 dX9_advance_57 (fun H locs h => ?_)
        refine lv_aload_n C.1 C.2.1 dX9_advance_60 rfl (lv_at hl 1 rfl) ?_
        refine lv_lload_n C.1 C.2.1 dX9_advance_61 rfl (lv_at hl 0 rfl) ?_
        refine lv_ldc2 C.1 C.2.1 C.2.2.2.1 (C.2.2.2.2.1 _ cj_X9_94) dX9_advance_62 ?_
        refine lv_ldiv C.1 C.2.1 dX9_advance_65 (by decide) ?_
        refine lv_ldc2 C.1 C.2.1 C.2.2.2.1 (C.2.2.2.2.1 _ cj_X9_92) dX9_advance_66 ?_
        refine lv_lrem C.1 C.2.1 dX9_advance_69 (by decide) ?_
        refine lv_l2i (v := (((gL (sI m x0 2 ((gI m x0 2) + 1)) b_1 ((gI (sI m x0 2 ((gI m x0 2) + 1)) x0 2).toNatClampNeg)) / 256) - ((gL (sI m x0 2 ((gI m x0 2) + 1)) b_1 ((gI (sI m x0 2 ((gI m x0 2) + 1)) x0 2).toNatClampNeg)) / 256) / 4096 * 4096).toInt32) C.1 C.2.1 dX9_advance_70 rfl ?_
        refine pt_9_4 C h tx0 fl_X9_99 dX9_advance_71 (fun H locs h => ?_)
        refine lv_aload_n C.1 C.2.1 dX9_advance_74 rfl (lv_at hl 1 rfl) ?_
        refine lv_lload_n C.1 C.2.1 dX9_advance_75 rfl (lv_at hl 0 rfl) ?_
        refine lv_ldc2 C.1 C.2.1 C.2.2.2.1 (C.2.2.2.2.1 _ cj_X9_94) dX9_advance_76 ?_
        refine lv_ldiv C.1 C.2.1 dX9_advance_79 (by decide) ?_
        refine lv_ldc2 C.1 C.2.1 C.2.2.2.1 (C.2.2.2.2.1 _ cj_X9_92) dX9_advance_80 ?_
        refine lv_ldiv C.1 C.2.1 dX9_advance_83 (by decide) ?_
        refine lv_l2i (v := (((gL (sI m x0 2 ((gI m x0 2) + 1)) b_1 ((gI (sI m x0 2 ((gI m x0 2) + 1)) x0 2).toNatClampNeg)) / 256) / 4096).toInt32) C.1 C.2.1 dX9_advance_84 rfl ?_
        refine pt_9_5 C h tx0 fl_X9_101 dX9_advance_85 (fun H locs h => ?_)
        refine lv_iconst (v := 1) C.1 C.2.1 dX9_advance_88 (by decide) ?_
        obtain ⟨rfl, rfl⟩ := so_inj hM
        exact h_zret C h (bz_ok _).1 dX9_advance_89
theorem cy_X9_advance : Cy yX9_advance cX9_advance 3 (some .boolean) 0 := ⟨cd_yX9_advance, ii_X9, by decide, by decide, by decide +kernel⟩
set_option maxRecDepth 100000 in
theorem c_X9_advance {l : Launch} {E : EE} {G : GG} {x0 : Nat} {m m9 : MM} {r9 : Bool} (hM : M_X9_advance G x0 m = some (r9, m9)) (tx0 : Ty E G x0 9) : Mc l E yX9_advance cX9_advance 3 (some .boolean) rmX9_advance [.ref x0] G m (cQi E (bz r9) G m9) := M_of (by decide) (Nat.le_of_ble_eq_true rfl) (fun p e s mth below meth c C h ls hl => cM_X9_advance C hM tx0 _ _ h ls hl)
abbrev rmX9_split : Room := { frames := 7, cells := 0, slots := 0, locals := 156 }
def B_X9_split_39 (G : GG) (x0 : Nat) (x1 : Nat) (m : MM) : Option (Unit × MM) :=
  bd (M_X9_add G x0 130 (gI m x1 1) 0 m) fun _ m_2 =>
    bd (M_X9_advance G x0 (sI m_2 x0 2 (-1))) fun r_3 m_4 =>
      some ((), m_4)
set_option maxRecDepth 100000 in
set_option maxHeartbeats 4000000 in
theorem cB_X9_split_39 {p : Program} {l : Launch} {e : Env} {s : State} {mth : MethodId} {args : Array Value} {below : List Frame} {meth : Method} {c : Code} {E : EE} {G : GG} {r9 : Unit} {m9 : MM} (C : Cx E G p s mth args meth c cX9_split RX9 "split" 4 none) {x0 : Nat} {x1 : Nat} {m : MM} (hM : B_X9_split_39 G x0 x1 m = some (r9, m9)) (tx0 : Ty E G x0 9) (tx1 : Ty E G x1 8) : ∀ (H : Heap) (locs : List Loc), Hp E G m s H locs → ∀ ls : Array Slot, lv_has ls 4 [(0, .ref x0), (1, .ref x1)] → W p l e rmX9_split s mth args below meth c H locs 0 0 (MQ below (cQv E G m9) args s 0 0 (fun q => E.2.2.1 ≤ q)) (F0 mth 39 ls []) := by
  intro H locs h ls hl
  unfold B_X9_split_39 at hM
  refine lv_aload_n C.1 C.2.1 dX9_split_39 rfl (lv_at hl 0 rfl) ?_
  refine lv_sipush (v := 130) C.1 C.2.1 dX9_split_40 (by decide) ?_
  refine lv_aload_n C.1 C.2.1 dX9_split_43 rfl (lv_at hl 1 rfl) ?_
  refine gt_8_1 C h tx1 fl_X9_19 dX9_split_44 ?_
  refine lv_iconst (v := 0) C.1 C.2.1 dX9_split_47 (by decide) ?_
  obtain ⟨r_1, m_2, hc_1, hM⟩ := bd_some hM
  refine h_callVv C h (As := [.int 130, .int (gI m x1 1), .int 0]) (rest := []) m_2 (c_X9_add hc_1 tx0) 9 rfl (by decide) tx0 im_yX9_add se_yX9_add cy_X9_add rfl ml_X9_28 ⟨by decide, by decide⟩ ⟨Nat.zero_le _, Nat.zero_le _⟩ hl.1 rfl (Nat.le_of_ble_eq_true rfl) dX9_split_48 (fun H locs h => ?_)
  refine lv_aload_n C.1 C.2.1 dX9_split_51 rfl (lv_at hl 0 rfl) ?_
  refine lv_iconst (v := (-1)) C.1 C.2.1 dX9_split_52 (by decide) ?_
  refine pt_9_2 C h tx0 fl_X9_32 dX9_split_53 (fun H locs h => ?_)
  refine lv_aload_n C.1 C.2.1 dX9_split_56 rfl (lv_at hl 0 rfl) ?_
  obtain ⟨r_3, m_4, hc_3, hM⟩ := bd_some hM
  refine h_callVi C h (As := []) (rest := []) (bz r_3) m_4 (c_X9_advance hc_3 tx0) 9 rfl (by decide) tx0 im_yX9_advance se_yX9_advance cy_X9_advance rfl ml_X9_35 ⟨by decide, by decide⟩ ⟨Nat.zero_le _, Nat.zero_le _⟩ hl.1 rfl (Nat.le_of_ble_eq_true rfl) dX9_split_57 (fun H locs h => ?_)
  refine lv_pop C.1 C.2.1 dX9_split_60 rfl ?_
  obtain ⟨rfl, rfl⟩ := so_inj hM
  exact h_vret C h dX9_split_61
def B_X9_split_9 (G : GG) : Nat → Nat → Nat → Int32 → Int32 → MM → Option (Unit × MM)
  | 0, _, _, _, _, _ => none
  | fu + 1, x0, x1, x2, x3, m =>
    if 2000 ≤ x3 then
      B_X9_split_39 G x0 x1 m
    else
      if (gI m x1 1) ≤ x2 then
        B_X9_split_39 G x0 x1 m
      else
        bd (M_X9_addAt G x0 x1 x2 m) fun r_5 m_6 =>
          B_X9_split_9 G fu x0 x1 (x2 + r_5) (x3 + 1) m_6
set_option maxRecDepth 100000 in
set_option maxHeartbeats 4000000 in
theorem cB_X9_split_9 {p : Program} {l : Launch} {e : Env} {s : State} {mth : MethodId} {args : Array Value} {below : List Frame} {meth : Method} {c : Code} {E : EE} {G : GG} {r9 : Unit} {m9 : MM} (C : Cx E G p s mth args meth c cX9_split RX9 "split" 4 none) : ∀ (fu : Nat) (x0 : Nat) (x1 : Nat) (x2 : Int32) (x3 : Int32) (m : MM), B_X9_split_9 G fu x0 x1 x2 x3 m = some (r9, m9) → (Ty E G x0 9) → (Ty E G x1 8) → ∀ (H : Heap) (locs : List Loc), Hp E G m s H locs → ∀ ls : Array Slot, lv_has ls 4 [(0, .ref x0), (1, .ref x1), (2, .int x2), (3, .int x3)] → W p l e rmX9_split s mth args below meth c H locs 0 0 (MQ below (cQv E G m9) args s 0 0 (fun q => E.2.2.1 ≤ q)) (F0 mth 9 ls []) := by
  intro fu
  induction fu with
  | zero =>
    intro x0 x1 x2 x3 m hM
    rw [B_X9_split_9] at hM
    cases hM
  | succ fu ih =>
    intro x0 x1 x2 x3 m hM tx0 tx1 H locs h ls hl
    rw [B_X9_split_9] at hM
    refine lv_iload_n C.1 C.2.1 dX9_split_9 rfl (lv_at hl 3 rfl) ?_
    refine lv_sipush (v := 2000) C.1 C.2.1 dX9_split_10 (by decide) ?_
    refine lv_icmp_ge (tgt := 39) C.1 C.2.1 dX9_split_13 (by decide) (fun q => ?_) (fun q => ?_)
    · have hM := ite_t q hM
      exact cB_X9_split_39 C hM tx0 tx1 _ _ h ls (lv_sub hl [0, 1] rfl)
    · have hM := ite_f q hM
      refine lv_iload_n C.1 C.2.1 dX9_split_16 rfl (lv_at hl 2 rfl) ?_
      refine lv_aload_n C.1 C.2.1 dX9_split_17 rfl (lv_at hl 1 rfl) ?_
      refine gt_8_1 C h tx1 fl_X9_19 dX9_split_18 ?_
      refine lv_icmp_ge (tgt := 39) C.1 C.2.1 dX9_split_21 (by decide) (fun q => ?_) (fun q => ?_)
      · have hM := ite_t q hM
        exact cB_X9_split_39 C hM tx0 tx1 _ _ h ls (lv_sub hl [0, 1] rfl)
      · have hM := ite_f q hM
        refine lv_iload_n C.1 C.2.1 dX9_split_24 rfl (lv_at hl 2 rfl) ?_
        refine lv_aload_n C.1 C.2.1 dX9_split_25 rfl (lv_at hl 0 rfl) ?_
        refine lv_aload_n C.1 C.2.1 dX9_split_26 rfl (lv_at hl 1 rfl) ?_
        refine lv_iload_n C.1 C.2.1 dX9_split_27 rfl (lv_at hl 2 rfl) ?_
        obtain ⟨r_5, m_6, hc_5, hM⟩ := bd_some hM
        refine h_callVi C h (As := [.ref x1, .int x2]) (rest := [.int x2]) r_5 m_6 (c_X9_addAt hc_5 tx0 tx1) 9 rfl (by decide) tx0 im_yX9_addAt se_yX9_addAt cy_X9_addAt rfl ml_X9_24 ⟨by decide, by decide⟩ ⟨Nat.zero_le _, Nat.zero_le _⟩ hl.1 rfl (Nat.le_of_ble_eq_true rfl) dX9_split_28 (fun H locs h => ?_)
        refine lv_iadd C.1 C.2.1 dX9_split_31 ?_
        refine lv_istore_n (lv' := [(2, .int (x2 + r_5)), (0, .ref x0), (1, .ref x1), (3, .int x3)]) C.1 C.2.1 dX9_split_32 rfl hl (by decide) rfl (fun ls hl => ?_)
        refine lv_iinc (v := x3 + 1) (lv' := [(3, .int (x3 + 1)), (2, .int (x2 + r_5)), (0, .ref x0), (1, .ref x1)]) C.1 C.2.1 dX9_split_33 hl (k := 3) rfl rfl (by decide) rfl (fun ls hl => ?_)
        refine lv_goto (tgt := 9) C.1 C.2.1 dX9_split_36 (by decide) ?_
        exact ih _ _ _ _ _ hM tx0 tx1 _ _ h ls (lv_sub hl [2, 3, 1, 0] rfl)
def M_X9_split (G : GG) (x0 : Nat) (x1 : Nat) (m : MM) : Option (Unit × MM) :=
  B_X9_split_9 G FU x0 x1 0 0 (sI m x0 1 0)
set_option maxRecDepth 100000 in
set_option maxHeartbeats 4000000 in
theorem cM_X9_split {p : Program} {l : Launch} {e : Env} {s : State} {mth : MethodId} {args : Array Value} {below : List Frame} {meth : Method} {c : Code} {E : EE} {G : GG} {r9 : Unit} {m9 : MM} (C : Cx E G p s mth args meth c cX9_split RX9 "split" 4 none) {x0 : Nat} {x1 : Nat} {m : MM} (hM : M_X9_split G x0 x1 m = some (r9, m9)) (tx0 : Ty E G x0 9) (tx1 : Ty E G x1 8) : ∀ (H : Heap) (locs : List Loc), Hp E G m s H locs → ∀ ls : Array Slot, lv_has ls 4 [(0, .ref x0), (1, .ref x1)] → W p l e rmX9_split s mth args below meth c H locs 0 0 (MQ below (cQv E G m9) args s 0 0 (fun q => E.2.2.1 ≤ q)) (F0 mth 0 ls []) := by
  intro H locs h ls hl
  unfold M_X9_split at hM
  refine lv_aload_n C.1 C.2.1 dX9_split_0 rfl (lv_at hl 0 rfl) ?_
  refine lv_iconst (v := 0) C.1 C.2.1 dX9_split_1 (by decide) ?_
  refine pt_9_1 C h tx0 fl_X9_15 dX9_split_2 (fun H locs h => ?_)
  refine lv_iconst (v := 0) C.1 C.2.1 dX9_split_5 (by decide) ?_
  refine lv_istore_n (lv' := [(2, .int 0), (0, .ref x0), (1, .ref x1)]) C.1 C.2.1 dX9_split_6 rfl hl (by decide) rfl (fun ls hl => ?_)
  refine lv_iconst (v := 0) C.1 C.2.1 dX9_split_7 (by decide) ?_
  refine lv_istore_n (lv' := [(3, .int 0), (2, .int 0), (0, .ref x0), (1, .ref x1)]) C.1 C.2.1 dX9_split_8 rfl hl (by decide) rfl (fun ls hl => ?_)
  exact cB_X9_split_9 C _ _ _ _ _ _ hM tx0 tx1 _ _ h ls (lv_sub hl [2, 3, 1, 0] rfl)
theorem cy_X9_split : Cy yX9_split cX9_split 4 none 1 := ⟨cd_yX9_split, ii_X9, by decide, by decide, by decide +kernel⟩
set_option maxRecDepth 100000 in
theorem c_X9_split {l : Launch} {E : EE} {G : GG} {x0 : Nat} {x1 : Nat} {m m9 : MM} {r9 : Unit} (hM : M_X9_split G x0 x1 m = some (r9, m9)) (tx0 : Ty E G x0 9) (tx1 : Ty E G x1 8) : Mc l E yX9_split cX9_split 4 none rmX9_split [.ref x0, .ref x1] G m (cQv E G m9) := M_of (by decide) (Nat.le_of_ble_eq_true rfl) (fun p e s mth below meth c C h ls hl => cM_X9_split C hM tx0 tx1 _ _ h ls hl)
abbrev rmX9_take : Room := { frames := 1, cells := 0, slots := 0, locals := 22 }
def M_X9_take (G : GG) (x0 : Nat) (x1 : Int32) (m : MM) : Option (Bool × MM) :=
  if (gI m x0 3) = x1 then
    bd (M_X9_advance G x0 m) fun r_1 m_2 =>
      if r_1 = true then
        some (true, m_2)
      else
        some (false, m_2)
  else
    some (false, m)
set_option maxRecDepth 100000 in
set_option maxHeartbeats 4000000 in
theorem cM_X9_take {p : Program} {l : Launch} {e : Env} {s : State} {mth : MethodId} {args : Array Value} {below : List Frame} {meth : Method} {c : Code} {E : EE} {G : GG} {r9 : Bool} {m9 : MM} (C : Cx E G p s mth args meth c cX9_take RX9 "take" 2 (some .boolean)) {x0 : Nat} {x1 : Int32} {m : MM} (hM : M_X9_take G x0 x1 m = some (r9, m9)) (tx0 : Ty E G x0 9) : ∀ (H : Heap) (locs : List Loc), Hp E G m s H locs → ∀ ls : Array Slot, lv_has ls 2 [(0, .ref x0), (1, .int x1)] → W p l e rmX9_take s mth args below meth c H locs 0 0 (MQ below (cQi E (bz r9) G m9) args s 0 0 (fun q => E.2.2.1 ≤ q)) (F0 mth 0 ls []) := by
  intro H locs h ls hl
  unfold M_X9_take at hM
  refine lv_aload_n C.1 C.2.1 dX9_take_0 rfl (lv_at hl 0 rfl) ?_
  refine gt_9_3 C h tx0 fl_X9_96 dX9_take_1 ?_
  refine lv_iload_n C.1 C.2.1 dX9_take_4 rfl (lv_at hl 1 rfl) ?_
  refine lv_icmp_ne (tgt := 19) C.1 C.2.1 dX9_take_5 (by decide) (fun q => ?_) (fun q => ?_)
  · have hM := ite_f q hM
    refine lv_iconst (v := 0) C.1 C.2.1 dX9_take_19 (by decide) ?_
    obtain ⟨rfl, rfl⟩ := so_inj hM
    exact h_zret C h (bz_ok _).1 dX9_take_20
  · have hM := ite_t q hM
    refine lv_aload_n C.1 C.2.1 dX9_take_8 rfl (lv_at hl 0 rfl) ?_
    obtain ⟨r_1, m_2, hc_1, hM⟩ := bd_some hM
    refine h_callVi C h (As := []) (rest := []) (bz r_1) m_2 (c_X9_advance hc_1 tx0) 9 rfl (by decide) tx0 im_yX9_advance se_yX9_advance cy_X9_advance rfl ml_X9_35 ⟨by decide, by decide⟩ ⟨Nat.zero_le _, Nat.zero_le _⟩ hl.1 rfl (Nat.le_of_ble_eq_true rfl) dX9_take_9 (fun H locs h => ?_)
    refine h_ifz (tgt := 19) C.1 C.2.1 dX9_take_12 (by decide) (fun q => ?_) (fun q => ?_)
    · have hM := ite_f q hM
      refine lv_iconst (v := 0) C.1 C.2.1 dX9_take_19 (by decide) ?_
      obtain ⟨rfl, rfl⟩ := so_inj hM
      exact h_zret C h (bz_ok _).1 dX9_take_20
    · have hM := ite_t q hM
      refine lv_iconst (v := 1) C.1 C.2.1 dX9_take_15 (by decide) ?_
      refine lv_goto (tgt := 20) C.1 C.2.1 dX9_take_16 (by decide) ?_
      obtain ⟨rfl, rfl⟩ := so_inj hM
      exact h_zret C h (bz_ok _).1 dX9_take_20
theorem cy_X9_take : Cy yX9_take cX9_take 2 (some .boolean) 1 := ⟨cd_yX9_take, ii_X9, by decide, by decide, by decide +kernel⟩
set_option maxRecDepth 100000 in
theorem c_X9_take {l : Launch} {E : EE} {G : GG} {x0 : Nat} {x1 : Int32} {m m9 : MM} {r9 : Bool} (hM : M_X9_take G x0 x1 m = some (r9, m9)) (tx0 : Ty E G x0 9) : Mc l E yX9_take cX9_take 2 (some .boolean) rmX9_take [.ref x0, .int x1] G m (cQi E (bz r9) G m9) := M_of (by decide) (Nat.le_of_ble_eq_true rfl) (fun p e s mth below meth c C h ls hl => cM_X9_take C hM tx0 _ _ h ls hl)
