abbrev rmX11_doAct : Room := { frames := 2, cells := 0, slots := 0, locals := 45 }
def B_X11_doAct_151 (G : GG) (x0 : Nat) (x1 : Int32) (x2 : Int32) (x3 : Int32) (x4 : Int32) (s0 : Int32) (m : MM) : Option (Unit × MM) :=
  nb (gR m x0 25) fun b_1 =>
    ib x4 (G.2.2 b_1) <|
      if 0 ≤ (gI m b_1 x4.toNatClampNeg) then
        if s0 = 0 then
          bd (M_X11_push G x0 0 m) fun _ m_3 =>
            nb (gR m_3 x0 67) fun b_4 =>
              ib x1 (G.2.2 b_4) <|
                ib x1 (G.2.2 b_4) <|
                  some ((), sI m_3 b_4 x1.toNatClampNeg ((gI m_3 b_4 x1.toNatClampNeg) + 1))
        else
          nb (gR m x0 58) fun b_5 =>
            nb (gR m x0 35) fun b_6 =>
              ib x2 (G.2.2 b_6) <|
                ib ((6 * x3) + (gI m b_6 x2.toNatClampNeg)) (G.2.2 b_5) <|
                  bd (M_X11_push G x0 (gI m b_5 (((6 * x3) + (gI m b_6 x2.toNatClampNeg)).toNatClampNeg)) m) fun _ m_8 =>
                    nb (gR m_8 x0 67) fun b_9 =>
                      ib x1 (G.2.2 b_9) <|
                        ib x1 (G.2.2 b_9) <|
                          some ((), sI m_8 b_9 x1.toNatClampNeg ((gI m_8 b_9 x1.toNatClampNeg) + 1))
      else
        nb (gR m x0 24) fun b_10 =>
          ib x4 (G.2.2 b_10) <|
            bd (M_X11_push G x0 (gI m b_10 x4.toNatClampNeg) m) fun _ m_12 =>
              nb (gR m_12 x0 67) fun b_13 =>
                ib x1 (G.2.2 b_13) <|
                  ib x1 (G.2.2 b_13) <|
                    some ((), sI m_12 b_13 x1.toNatClampNeg ((gI m_12 b_13 x1.toNatClampNeg) + 1))
set_option maxRecDepth 100000 in
set_option maxHeartbeats 4000000 in
theorem cB_X11_doAct_151 {p : Program} {l : Launch} {e : Env} {s : State} {mth : MethodId} {args : Array Value} {below : List Frame} {meth : Method} {c : Code} {E : EE} {G : GG} {r9 : Unit} {m9 : MM} (C : Cx E G p s mth args meth c cX11_doAct RX11 "doAct" 9 none) {x0 : Nat} {x1 : Int32} {x2 : Int32} {x3 : Int32} {x4 : Int32} {s0 : Int32} {m : MM} (hM : B_X11_doAct_151 G x0 x1 x2 x3 x4 s0 m = some (r9, m9)) (tx0 : Ty E G x0 11) : ∀ (H : Heap) (locs : List Loc), Hp E G m s H locs → ∀ ls : Array Slot, lv_has ls 9 [(0, .ref x0), (1, .int x1), (2, .int x2), (3, .int x3), (4, .int x4)] → W p l e rmX11_doAct s mth args below meth c H locs 0 0 (MQ below (cQv E G m9) args s 0 0 (fun q => E.2.2.1 ≤ q)) (F0 mth 151 ls [.int s0]) := by
  intro H locs h ls hl
  unfold B_X11_doAct_151 at hM
  refine lv_istore (lv' := [(5, .int s0), (0, .ref x0), (1, .int x1), (2, .int x2), (3, .int x3), (4, .int x4)]) C.1 C.2.1 dX11_doAct_151 hl (by decide) rfl (fun ls hl => ?_)
  refine lv_aload_n C.1 C.2.1 dX11_doAct_153 rfl (lv_at hl 1 rfl) ?_
  refine lv_aload_n C.1 C.2.1 dX11_doAct_154 rfl (lv_at hl 1 rfl) ?_
  refine gt_11_25 C h tx0 fl_X11_73 dX11_doAct_155 ?_
  obtain ⟨b_1, hb_1, hM⟩ := nb_some hM
  have tb_1 : Ty E G b_1 12 := (fun b hb => tyf h tx0 hb) _ hb_1
  refine st_ref hb_1 ?_
  refine lv_iload C.1 C.2.1 dX11_doAct_158 (lv_at hl 5 rfl) ?_
  obtain ⟨hi, hM⟩ := ib_some hM
  refine h_iald C h tb_1 hi dX11_doAct_160 ?_
  refine lv_if_ge (tgt := 174) C.1 C.2.1 dX11_doAct_161 (by decide) (fun q => ?_) (fun q => ?_)
  · have hM := ite_t q hM
    refine lv_iload C.1 C.2.1 dX11_doAct_174 (lv_at hl 0 rfl) ?_
    refine lv_if_eq (tgt := 198) C.1 C.2.1 dX11_doAct_176 (by decide) (fun q => ?_) (fun q => ?_)
    · have hM := ite_t q hM
      refine lv_iconst (v := 0) C.1 C.2.1 dX11_doAct_198 (by decide) ?_
      obtain ⟨r_2, m_3, hc_2, hM⟩ := bd_some hM
      refine h_callVv C h (As := [.int 0]) (rest := []) m_3 (c_X11_push hc_2 tx0) 11 rfl (by decide) tx0 im_yX11_push se_yX11_push cy_X11_push rfl ml_X11_380 ⟨by decide, by decide⟩ ⟨Nat.zero_le _, Nat.zero_le _⟩ hl.1 rfl (Nat.le_of_ble_eq_true rfl) dX11_doAct_199 (fun H locs h => ?_)
      refine lv_goto (tgt := 535) C.1 C.2.1 dX11_doAct_202 (by decide) ?_
      refine lv_aload_n C.1 C.2.1 dX11_doAct_535 rfl (lv_at hl 1 rfl) ?_
      refine gt_11_67 C h tx0 fl_X11_159 dX11_doAct_536 ?_
      obtain ⟨b_4, hb_4, hM⟩ := nb_some hM
      have tb_4 : Ty E G b_4 12 := (fun b hb => tyf h tx0 hb) _ hb_4
      refine st_ref hb_4 ?_
      refine lv_iload_n C.1 C.2.1 dX11_doAct_539 rfl (lv_at hl 2 rfl) ?_
      refine lv_dup2_11 C.1 C.2.1 dX11_doAct_540 rfl rfl ?_
      obtain ⟨hi, hM⟩ := ib_some hM
      refine h_iald C h tb_4 hi dX11_doAct_541 ?_
      refine lv_iconst (v := 1) C.1 C.2.1 dX11_doAct_542 (by decide) ?_
      refine lv_iadd C.1 C.2.1 dX11_doAct_543 ?_
      obtain ⟨hi, hM⟩ := ib_some hM
      refine h_iast C h tb_4 hi dX11_doAct_544 (fun H locs h => ?_)
      obtain ⟨rfl, rfl⟩ := so_inj hM
      exact h_vret C h dX11_doAct_545
    · have hM := ite_f q hM
      refine lv_aload_n C.1 C.2.1 dX11_doAct_179 rfl (lv_at hl 1 rfl) ?_
      refine gt_11_58 C h tx0 fl_X11_144 dX11_doAct_180 ?_
      obtain ⟨b_5, hb_5, hM⟩ := nb_some hM
      have tb_5 : Ty E G b_5 12 := (fun b hb => tyf h tx0 hb) _ hb_5
      refine st_ref hb_5 ?_
      refine lv_bipush (v := 6) C.1 C.2.1 dX11_doAct_183 (by decide) ?_
      refine lv_iload_n C.1 C.2.1 dX11_doAct_185 rfl (lv_at hl 4 rfl) ?_
      refine lv_imul C.1 C.2.1 dX11_doAct_186 ?_
      refine lv_aload_n C.1 C.2.1 dX11_doAct_187 rfl (lv_at hl 1 rfl) ?_
      refine gt_11_35 C h tx0 fl_X11_103 dX11_doAct_188 ?_
      obtain ⟨b_6, hb_6, hM⟩ := nb_some hM
      have tb_6 : Ty E G b_6 12 := (fun b hb => tyf h tx0 hb) _ hb_6
      refine st_ref hb_6 ?_
      refine lv_iload_n C.1 C.2.1 dX11_doAct_191 rfl (lv_at hl 3 rfl) ?_
      obtain ⟨hi, hM⟩ := ib_some hM
      refine h_iald C h tb_6 hi dX11_doAct_192 ?_
      refine lv_iadd C.1 C.2.1 dX11_doAct_193 ?_
      obtain ⟨hi, hM⟩ := ib_some hM
      refine h_iald C h tb_5 hi dX11_doAct_194 ?_
      refine lv_goto (tgt := 199) C.1 C.2.1 dX11_doAct_195 (by decide) ?_
      obtain ⟨r_7, m_8, hc_7, hM⟩ := bd_some hM
      refine h_callVv C h (As := [.int (gI m b_5 (((6 * x3) + (gI m b_6 x2.toNatClampNeg)).toNatClampNeg))]) (rest := []) m_8 (c_X11_push hc_7 tx0) 11 rfl (by decide) tx0 im_yX11_push se_yX11_push cy_X11_push rfl ml_X11_380 ⟨by decide, by decide⟩ ⟨Nat.zero_le _, Nat.zero_le _⟩ hl.1 rfl (Nat.le_of_ble_eq_true rfl) dX11_doAct_199 (fun H locs h => ?_)
      refine lv_goto (tgt := 535) C.1 C.2.1 dX11_doAct_202 (by decide) ?_
      refine lv_aload_n C.1 C.2.1 dX11_doAct_535 rfl (lv_at hl 1 rfl) ?_
      refine gt_11_67 C h tx0 fl_X11_159 dX11_doAct_536 ?_
      obtain ⟨b_9, hb_9, hM⟩ := nb_some hM
      have tb_9 : Ty E G b_9 12 := (fun b hb => tyf h tx0 hb) _ hb_9
      refine st_ref hb_9 ?_
      refine lv_iload_n C.1 C.2.1 dX11_doAct_539 rfl (lv_at hl 2 rfl) ?_
      refine lv_dup2_11 C.1 C.2.1 dX11_doAct_540 rfl rfl ?_
      obtain ⟨hi, hM⟩ := ib_some hM
      refine h_iald C h tb_9 hi dX11_doAct_541 ?_
      refine lv_iconst (v := 1) C.1 C.2.1 dX11_doAct_542 (by decide) ?_
      refine lv_iadd C.1 C.2.1 dX11_doAct_543 ?_
      obtain ⟨hi, hM⟩ := ib_some hM
      refine h_iast C h tb_9 hi dX11_doAct_544 (fun H locs h => ?_)
      obtain ⟨rfl, rfl⟩ := so_inj hM
      exact h_vret C h dX11_doAct_545
  · have hM := ite_f q hM
    refine lv_aload_n C.1 C.2.1 dX11_doAct_164 rfl (lv_at hl 1 rfl) ?_
    refine gt_11_24 C h tx0 fl_X11_70 dX11_doAct_165 ?_
    obtain ⟨b_10, hb_10, hM⟩ := nb_some hM
    have tb_10 : Ty E G b_10 12 := (fun b hb => tyf h tx0 hb) _ hb_10
    refine st_ref hb_10 ?_
    refine lv_iload C.1 C.2.1 dX11_doAct_168 (lv_at hl 5 rfl) ?_
    obtain ⟨hi, hM⟩ := ib_some hM
    refine h_iald C h tb_10 hi dX11_doAct_170 ?_
    refine lv_goto (tgt := 199) C.1 C.2.1 dX11_doAct_171 (by decide) ?_
    obtain ⟨r_11, m_12, hc_11, hM⟩ := bd_some hM
    refine h_callVv C h (As := [.int (gI m b_10 x4.toNatClampNeg)]) (rest := []) m_12 (c_X11_push hc_11 tx0) 11 rfl (by decide) tx0 im_yX11_push se_yX11_push cy_X11_push rfl ml_X11_380 ⟨by decide, by decide⟩ ⟨Nat.zero_le _, Nat.zero_le _⟩ hl.1 rfl (Nat.le_of_ble_eq_true rfl) dX11_doAct_199 (fun H locs h => ?_)
    refine lv_goto (tgt := 535) C.1 C.2.1 dX11_doAct_202 (by decide) ?_
    refine lv_aload_n C.1 C.2.1 dX11_doAct_535 rfl (lv_at hl 1 rfl) ?_
    refine gt_11_67 C h tx0 fl_X11_159 dX11_doAct_536 ?_
    obtain ⟨b_13, hb_13, hM⟩ := nb_some hM
    have tb_13 : Ty E G b_13 12 := (fun b hb => tyf h tx0 hb) _ hb_13
    refine st_ref hb_13 ?_
    refine lv_iload_n C.1 C.2.1 dX11_doAct_539 rfl (lv_at hl 2 rfl) ?_
    refine lv_dup2_11 C.1 C.2.1 dX11_doAct_540 rfl rfl ?_
    obtain ⟨hi, hM⟩ := ib_some hM
    refine h_iald C h tb_13 hi dX11_doAct_541 ?_
    refine lv_iconst (v := 1) C.1 C.2.1 dX11_doAct_542 (by decide) ?_
    refine lv_iadd C.1 C.2.1 dX11_doAct_543 ?_
    obtain ⟨hi, hM⟩ := ib_some hM
    refine h_iast C h tb_13 hi dX11_doAct_544 (fun H locs h => ?_)
    obtain ⟨rfl, rfl⟩ := so_inj hM
    exact h_vret C h dX11_doAct_545
def B_X11_doAct_146 (G : GG) (x0 : Nat) (x1 : Int32) (x2 : Int32) (x3 : Int32) (x4 : Int32) (m : MM) : Option (Unit × MM) :=
  B_X11_doAct_151 G x0 x1 x2 x3 x4 1 m
set_option maxRecDepth 100000 in
set_option maxHeartbeats 4000000 in
theorem cB_X11_doAct_146 {p : Program} {l : Launch} {e : Env} {s : State} {mth : MethodId} {args : Array Value} {below : List Frame} {meth : Method} {c : Code} {E : EE} {G : GG} {r9 : Unit} {m9 : MM} (C : Cx E G p s mth args meth c cX11_doAct RX11 "doAct" 9 none) {x0 : Nat} {x1 : Int32} {x2 : Int32} {x3 : Int32} {x4 : Int32} {m : MM} (hM : B_X11_doAct_146 G x0 x1 x2 x3 x4 m = some (r9, m9)) (tx0 : Ty E G x0 11) : ∀ (H : Heap) (locs : List Loc), Hp E G m s H locs → ∀ ls : Array Slot, lv_has ls 9 [(0, .ref x0), (1, .int x1), (2, .int x2), (3, .int x3), (4, .int x4)] → W p l e rmX11_doAct s mth args below meth c H locs 0 0 (MQ below (cQv E G m9) args s 0 0 (fun q => E.2.2.1 ≤ q)) (F0 mth 146 ls []) := by
  intro H locs h ls hl
  unfold B_X11_doAct_146 at hM
  refine lv_iconst (v := 1) C.1 C.2.1 dX11_doAct_146 (by decide) ?_
  refine lv_goto (tgt := 151) C.1 C.2.1 dX11_doAct_147 (by decide) ?_
  exact cB_X11_doAct_151 C hM tx0 _ _ h ls (lv_sub hl [0, 1, 2, 3, 4] rfl)
def B_X11_doAct_289 (G : GG) (x0 : Nat) (x1 : Int32) (x2 : Int32) (x6 : Int32) (m : MM) : Option (Unit × MM) :=
  nb (gR m x0 57) fun b_14 =>
    nb (gR m x0 36) fun b_15 =>
      ib x2 (G.2.2 b_15) <|
        ib ((12 * x6) + (gI m b_15 x2.toNatClampNeg)) (G.2.2 b_14) <|
          bd (M_X11_push G x0 (gI m b_14 (((12 * x6) + (gI m b_15 x2.toNatClampNeg)).toNatClampNeg)) m) fun _ m_17 =>
            nb (gR m_17 x0 67) fun b_18 =>
              ib x1 (G.2.2 b_18) <|
                ib x1 (G.2.2 b_18) <|
                  some ((), sI m_17 b_18 x1.toNatClampNeg ((gI m_17 b_18 x1.toNatClampNeg) + 1))
set_option maxRecDepth 100000 in
set_option maxHeartbeats 4000000 in
theorem cB_X11_doAct_289 {p : Program} {l : Launch} {e : Env} {s : State} {mth : MethodId} {args : Array Value} {below : List Frame} {meth : Method} {c : Code} {E : EE} {G : GG} {r9 : Unit} {m9 : MM} (C : Cx E G p s mth args meth c cX11_doAct RX11 "doAct" 9 none) {x0 : Nat} {x1 : Int32} {x2 : Int32} {x6 : Int32} {m : MM} (hM : B_X11_doAct_289 G x0 x1 x2 x6 m = some (r9, m9)) (tx0 : Ty E G x0 11) : ∀ (H : Heap) (locs : List Loc), Hp E G m s H locs → ∀ ls : Array Slot, lv_has ls 9 [(0, .ref x0), (1, .int x1), (2, .int x2), (6, .int x6)] → W p l e rmX11_doAct s mth args below meth c H locs 0 0 (MQ below (cQv E G m9) args s 0 0 (fun q => E.2.2.1 ≤ q)) (F0 mth 289 ls []) := by
  intro H locs h ls hl
  unfold B_X11_doAct_289 at hM
  refine lv_aload_n C.1 C.2.1 dX11_doAct_289 rfl (lv_at hl 0 rfl) ?_
  refine lv_aload_n C.1 C.2.1 dX11_doAct_290 rfl (lv_at hl 0 rfl) ?_
  refine gt_11_57 C h tx0 fl_X11_141 dX11_doAct_291 ?_
  obtain ⟨b_14, hb_14, hM⟩ := nb_some hM
  have tb_14 : Ty E G b_14 12 := (fun b hb => tyf h tx0 hb) _ hb_14
  refine st_ref hb_14 ?_
  refine lv_bipush (v := 12) C.1 C.2.1 dX11_doAct_294 (by decide) ?_
  refine lv_iload C.1 C.2.1 dX11_doAct_296 (lv_at hl 3 rfl) ?_
  refine lv_imul C.1 C.2.1 dX11_doAct_298 ?_
  refine lv_aload_n C.1 C.2.1 dX11_doAct_299 rfl (lv_at hl 0 rfl) ?_
  refine gt_11_36 C h tx0 fl_X11_106 dX11_doAct_300 ?_
  obtain ⟨b_15, hb_15, hM⟩ := nb_some hM
  have tb_15 : Ty E G b_15 12 := (fun b hb => tyf h tx0 hb) _ hb_15
  refine st_ref hb_15 ?_
  refine lv_iload_n C.1 C.2.1 dX11_doAct_303 rfl (lv_at hl 2 rfl) ?_
  obtain ⟨hi, hM⟩ := ib_some hM
  refine h_iald C h tb_15 hi dX11_doAct_304 ?_
  refine lv_iadd C.1 C.2.1 dX11_doAct_305 ?_
  obtain ⟨hi, hM⟩ := ib_some hM
  refine h_iald C h tb_14 hi dX11_doAct_306 ?_
  obtain ⟨r_16, m_17, hc_16, hM⟩ := bd_some hM
  refine h_callVv C h (As := [.int (gI m b_14 (((12 * x6) + (gI m b_15 x2.toNatClampNeg)).toNatClampNeg))]) (rest := []) m_17 (c_X11_push hc_16 tx0) 11 rfl (by decide) tx0 im_yX11_push se_yX11_push cy_X11_push rfl ml_X11_380 ⟨by decide, by decide⟩ ⟨Nat.zero_le _, Nat.zero_le _⟩ hl.1 rfl (Nat.le_of_ble_eq_true rfl) dX11_doAct_307 (fun H locs h => ?_)
  refine lv_goto (tgt := 535) C.1 C.2.1 dX11_doAct_310 (by decide) ?_
  refine lv_aload_n C.1 C.2.1 dX11_doAct_535 rfl (lv_at hl 0 rfl) ?_
  refine gt_11_67 C h tx0 fl_X11_159 dX11_doAct_536 ?_
  obtain ⟨b_18, hb_18, hM⟩ := nb_some hM
  have tb_18 : Ty E G b_18 12 := (fun b hb => tyf h tx0 hb) _ hb_18
  refine st_ref hb_18 ?_
  refine lv_iload_n C.1 C.2.1 dX11_doAct_539 rfl (lv_at hl 1 rfl) ?_
  refine lv_dup2_11 C.1 C.2.1 dX11_doAct_540 rfl rfl ?_
  obtain ⟨hi, hM⟩ := ib_some hM
  refine h_iald C h tb_18 hi dX11_doAct_541 ?_
  refine lv_iconst (v := 1) C.1 C.2.1 dX11_doAct_542 (by decide) ?_
  refine lv_iadd C.1 C.2.1 dX11_doAct_543 ?_
  obtain ⟨hi, hM⟩ := ib_some hM
  refine h_iast C h tb_18 hi dX11_doAct_544 (fun H locs h => ?_)
  obtain ⟨rfl, rfl⟩ := so_inj hM
  exact h_vret C h dX11_doAct_545
def B_X11_doAct_462 (G : GG) (x0 : Nat) (x1 : Int32) (x2 : Int32) (x7 : Int32) (x8 : Int32) (m : MM) : Option (Unit × MM) :=
  nb (gR m x0 69) fun b_19 =>
    nb (gR m x0 34) fun b_20 =>
      ib x2 (G.2.2 b_20) <|
        if (gI m b_20 x2.toNatClampNeg) = 7 then
          ib ((gI m x0 70) - 1) (G.2.2 b_19) <|
            nb (gR (sI m b_19 (((gI m x0 70) - 1).toNatClampNeg) (x8 + x7)) x0 67) fun b_24 =>
              ib x1 (G.2.2 b_24) <|
                ib x1 (G.2.2 b_24) <|
                  some ((), sI (sI m b_19 (((gI m x0 70) - 1).toNatClampNeg) (x8 + x7)) b_24 x1.toNatClampNeg ((gI (sI m b_19 (((gI m x0 70) - 1).toNatClampNeg) (x8 + x7)) b_24 x1.toNatClampNeg) + 1))
        else
          ib x2 (G.2.2 b_20) <|
            if (gI m b_20 x2.toNatClampNeg) = 8 then
              ib ((gI m x0 70) - 1) (G.2.2 b_19) <|
                nb (gR (sI m b_19 (((gI m x0 70) - 1).toNatClampNeg) (x8 - x7)) x0 67) fun b_23 =>
                  ib x1 (G.2.2 b_23) <|
                    ib x1 (G.2.2 b_23) <|
                      some ((), sI (sI m b_19 (((gI m x0 70) - 1).toNatClampNeg) (x8 - x7)) b_23 x1.toNatClampNeg ((gI (sI m b_19 (((gI m x0 70) - 1).toNatClampNeg) (x8 - x7)) b_23 x1.toNatClampNeg) + 1))
            else
              ib x2 (G.2.2 b_20) <|
                if (gI m b_20 x2.toNatClampNeg) = 9 then
                  ib ((gI m x0 70) - 1) (G.2.2 b_19) <|
                    nb (gR (sI m b_19 (((gI m x0 70) - 1).toNatClampNeg) (x8 * x7)) x0 67) fun b_22 =>
                      ib x1 (G.2.2 b_22) <|
                        ib x1 (G.2.2 b_22) <|
                          some ((), sI (sI m b_19 (((gI m x0 70) - 1).toNatClampNeg) (x8 * x7)) b_22 x1.toNatClampNeg ((gI (sI m b_19 (((gI m x0 70) - 1).toNatClampNeg) (x8 * x7)) b_22 x1.toNatClampNeg) + 1))
                else
                  nz x7 <|
                    ib ((gI m x0 70) - 1) (G.2.2 b_19) <|
                      nb (gR (sI m b_19 (((gI m x0 70) - 1).toNatClampNeg) (x8 / x7)) x0 67) fun b_21 =>
                        ib x1 (G.2.2 b_21) <|
                          ib x1 (G.2.2 b_21) <|
                            some ((), sI (sI m b_19 (((gI m x0 70) - 1).toNatClampNeg) (x8 / x7)) b_21 x1.toNatClampNeg ((gI (sI m b_19 (((gI m x0 70) - 1).toNatClampNeg) (x8 / x7)) b_21 x1.toNatClampNeg) + 1))
set_option maxRecDepth 100000 in
set_option maxHeartbeats 4000000 in
theorem cB_X11_doAct_462 {p : Program} {l : Launch} {e : Env} {s : State} {mth : MethodId} {args : Array Value} {below : List Frame} {meth : Method} {c : Code} {E : EE} {G : GG} {r9 : Unit} {m9 : MM} (C : Cx E G p s mth args meth c cX11_doAct RX11 "doAct" 9 none) {x0 : Nat} {x1 : Int32} {x2 : Int32} {x7 : Int32} {x8 : Int32} {m : MM} (hM : B_X11_doAct_462 G x0 x1 x2 x7 x8 m = some (r9, m9)) (tx0 : Ty E G x0 11) : ∀ (H : Heap) (locs : List Loc), Hp E G m s H locs → ∀ ls : Array Slot, lv_has ls 9 [(0, .ref x0), (1, .int x1), (2, .int x2), (7, .int x7), (8, .int x8)] → W p l e rmX11_doAct s mth args below meth c H locs 0 0 (MQ below (cQv E G m9) args s 0 0 (fun q => E.2.2.1 ≤ q)) (F0 mth 462 ls []) := by
  intro H locs h ls hl
  unfold B_X11_doAct_462 at hM
  refine lv_aload_n C.1 C.2.1 dX11_doAct_462 rfl (lv_at hl 0 rfl) ?_
  refine gt_11_69 C h tx0 fl_X11_165 dX11_doAct_463 ?_
  obtain ⟨b_19, hb_19, hM⟩ := nb_some hM
  have tb_19 : Ty E G b_19 12 := (fun b hb => tyf h tx0 hb) _ hb_19
  refine st_ref hb_19 ?_
  refine lv_aload_n C.1 C.2.1 dX11_doAct_466 rfl (lv_at hl 0 rfl) ?_
  refine gt_11_70 C h tx0 fl_X11_368 dX11_doAct_467 ?_
  refine lv_iconst (v := 1) C.1 C.2.1 dX11_doAct_470 (by decide) ?_
  refine lv_isub C.1 C.2.1 dX11_doAct_471 ?_
  refine lv_aload_n C.1 C.2.1 dX11_doAct_472 rfl (lv_at hl 0 rfl) ?_
  refine gt_11_34 C h tx0 fl_X11_100 dX11_doAct_473 ?_
  obtain ⟨b_20, hb_20, hM⟩ := nb_some hM
  have tb_20 : Ty E G b_20 12 := (fun b hb => tyf h tx0 hb) _ hb_20
  refine st_ref hb_20 ?_
  refine lv_iload_n C.1 C.2.1 dX11_doAct_476 rfl (lv_at hl 2 rfl) ?_
  obtain ⟨hi, hM⟩ := ib_some hM
  refine h_iald C h tb_20 hi dX11_doAct_477 ?_
  refine lv_bipush (v := 7) C.1 C.2.1 dX11_doAct_478 (by decide) ?_
  refine lv_icmp_ne (tgt := 491) C.1 C.2.1 dX11_doAct_480 (by decide) (fun q => ?_) (fun q => ?_)
  · have hM := ite_f q hM
    refine lv_aload_n C.1 C.2.1 dX11_doAct_491 rfl (lv_at hl 0 rfl) ?_
    refine gt_11_34 C h tx0 fl_X11_100 dX11_doAct_492 ?_
    refine st_ref hb_20 ?_
    refine lv_iload_n C.1 C.2.1 dX11_doAct_495 rfl (lv_at hl 2 rfl) ?_
    obtain ⟨hi, hM⟩ := ib_some hM
    refine h_iald C h tb_20 hi dX11_doAct_496 ?_
    refine lv_bipush (v := 8) C.1 C.2.1 dX11_doAct_497 (by decide) ?_
    refine lv_icmp_ne (tgt := 510) C.1 C.2.1 dX11_doAct_499 (by decide) (fun q => ?_) (fun q => ?_)
    · have hM := ite_f q hM
      refine lv_aload_n C.1 C.2.1 dX11_doAct_510 rfl (lv_at hl 0 rfl) ?_
      refine gt_11_34 C h tx0 fl_X11_100 dX11_doAct_511 ?_
      refine st_ref hb_20 ?_
      refine lv_iload_n C.1 C.2.1 dX11_doAct_514 rfl (lv_at hl 2 rfl) ?_
      obtain ⟨hi, hM⟩ := ib_some hM
      refine h_iald C h tb_20 hi dX11_doAct_515 ?_
      refine lv_bipush (v := 9) C.1 C.2.1 dX11_doAct_516 (by decide) ?_
      refine lv_icmp_ne (tgt := 529) C.1 C.2.1 dX11_doAct_518 (by decide) (fun q => ?_) (fun q => ?_)
      · have hM := ite_f q hM
        refine lv_iload C.1 C.2.1 dX11_doAct_529 (lv_at hl 4 rfl) ?_
        refine lv_iload C.1 C.2.1 dX11_doAct_531 (lv_at hl 3 rfl) ?_
        obtain ⟨hz, hM⟩ := nz_some hM
        refine lv_idiv C.1 C.2.1 dX11_doAct_533 hz ?_
        obtain ⟨hi, hM⟩ := ib_some hM
        refine h_iast C h tb_19 hi dX11_doAct_534 (fun H locs h => ?_)
        refine lv_aload_n C.1 C.2.1 dX11_doAct_535 rfl (lv_at hl 0 rfl) ?_
        refine gt_11_67 C h tx0 fl_X11_159 dX11_doAct_536 ?_
        obtain ⟨b_21, hb_21, hM⟩ := nb_some hM
        have tb_21 : Ty E G b_21 12 := (fun b hb => tyf h tx0 hb) _ hb_21
        refine st_ref hb_21 ?_
        refine lv_iload_n C.1 C.2.1 dX11_doAct_539 rfl (lv_at hl 1 rfl) ?_
        refine lv_dup2_11 C.1 C.2.1 dX11_doAct_540 rfl rfl ?_
        obtain ⟨hi, hM⟩ := ib_some hM
        refine h_iald C h tb_21 hi dX11_doAct_541 ?_
        refine lv_iconst (v := 1) C.1 C.2.1 dX11_doAct_542 (by decide) ?_
        refine lv_iadd C.1 C.2.1 dX11_doAct_543 ?_
        obtain ⟨hi, hM⟩ := ib_some hM
        refine h_iast C h tb_21 hi dX11_doAct_544 (fun H locs h => ?_)
        obtain ⟨rfl, rfl⟩ := so_inj hM
        exact h_vret C h dX11_doAct_545
      · have hM := ite_t q hM
        refine lv_iload C.1 C.2.1 dX11_doAct_521 (lv_at hl 4 rfl) ?_
        refine lv_iload C.1 C.2.1 dX11_doAct_523 (lv_at hl 3 rfl) ?_
        refine lv_imul C.1 C.2.1 dX11_doAct_525 ?_
        refine lv_goto (tgt := 534) C.1 C.2.1 dX11_doAct_526 (by decide) ?_
        obtain ⟨hi, hM⟩ := ib_some hM
        refine h_iast C h tb_19 hi dX11_doAct_534 (fun H locs h => ?_)
        refine lv_aload_n C.1 C.2.1 dX11_doAct_535 rfl (lv_at hl 0 rfl) ?_
        refine gt_11_67 C h tx0 fl_X11_159 dX11_doAct_536 ?_
        obtain ⟨b_22, hb_22, hM⟩ := nb_some hM
        have tb_22 : Ty E G b_22 12 := (fun b hb => tyf h tx0 hb) _ hb_22
        refine st_ref hb_22 ?_
        refine lv_iload_n C.1 C.2.1 dX11_doAct_539 rfl (lv_at hl 1 rfl) ?_
        refine lv_dup2_11 C.1 C.2.1 dX11_doAct_540 rfl rfl ?_
        obtain ⟨hi, hM⟩ := ib_some hM
        refine h_iald C h tb_22 hi dX11_doAct_541 ?_
        refine lv_iconst (v := 1) C.1 C.2.1 dX11_doAct_542 (by decide) ?_
        refine lv_iadd C.1 C.2.1 dX11_doAct_543 ?_
        obtain ⟨hi, hM⟩ := ib_some hM
        refine h_iast C h tb_22 hi dX11_doAct_544 (fun H locs h => ?_)
        obtain ⟨rfl, rfl⟩ := so_inj hM
        exact h_vret C h dX11_doAct_545
    · have hM := ite_t q hM
      refine lv_iload C.1 C.2.1 dX11_doAct_502 (lv_at hl 4 rfl) ?_
      refine lv_iload C.1 C.2.1 dX11_doAct_504 (lv_at hl 3 rfl) ?_
      refine lv_isub C.1 C.2.1 dX11_doAct_506 ?_
      refine lv_goto (tgt := 534) C.1 C.2.1 dX11_doAct_507 (by decide) ?_
      obtain ⟨hi, hM⟩ := ib_some hM
      refine h_iast C h tb_19 hi dX11_doAct_534 (fun H locs h => ?_)
      refine lv_aload_n C.1 C.2.1 dX11_doAct_535 rfl (lv_at hl 0 rfl) ?_
      refine gt_11_67 C h tx0 fl_X11_159 dX11_doAct_536 ?_
      obtain ⟨b_23, hb_23, hM⟩ := nb_some hM
      have tb_23 : Ty E G b_23 12 := (fun b hb => tyf h tx0 hb) _ hb_23
      refine st_ref hb_23 ?_
      refine lv_iload_n C.1 C.2.1 dX11_doAct_539 rfl (lv_at hl 1 rfl) ?_
      refine lv_dup2_11 C.1 C.2.1 dX11_doAct_540 rfl rfl ?_
      obtain ⟨hi, hM⟩ := ib_some hM
      refine h_iald C h tb_23 hi dX11_doAct_541 ?_
      refine lv_iconst (v := 1) C.1 C.2.1 dX11_doAct_542 (by decide) ?_
      refine lv_iadd C.1 C.2.1 dX11_doAct_543 ?_
      obtain ⟨hi, hM⟩ := ib_some hM
      refine h_iast C h tb_23 hi dX11_doAct_544 (fun H locs h => ?_)
      obtain ⟨rfl, rfl⟩ := so_inj hM
      exact h_vret C h dX11_doAct_545
  · have hM := ite_t q hM
    refine lv_iload C.1 C.2.1 dX11_doAct_483 (lv_at hl 4 rfl) ?_
    refine lv_iload C.1 C.2.1 dX11_doAct_485 (lv_at hl 3 rfl) ?_
    refine lv_iadd C.1 C.2.1 dX11_doAct_487 ?_
    refine lv_goto (tgt := 534) C.1 C.2.1 dX11_doAct_488 (by decide) ?_
    obtain ⟨hi, hM⟩ := ib_some hM
    refine h_iast C h tb_19 hi dX11_doAct_534 (fun H locs h => ?_)
    refine lv_aload_n C.1 C.2.1 dX11_doAct_535 rfl (lv_at hl 0 rfl) ?_
    refine gt_11_67 C h tx0 fl_X11_159 dX11_doAct_536 ?_
    obtain ⟨b_24, hb_24, hM⟩ := nb_some hM
    have tb_24 : Ty E G b_24 12 := (fun b hb => tyf h tx0 hb) _ hb_24
    refine st_ref hb_24 ?_
    refine lv_iload_n C.1 C.2.1 dX11_doAct_539 rfl (lv_at hl 1 rfl) ?_
    refine lv_dup2_11 C.1 C.2.1 dX11_doAct_540 rfl rfl ?_
    obtain ⟨hi, hM⟩ := ib_some hM
    refine h_iald C h tb_24 hi dX11_doAct_541 ?_
    refine lv_iconst (v := 1) C.1 C.2.1 dX11_doAct_542 (by decide) ?_
    refine lv_iadd C.1 C.2.1 dX11_doAct_543 ?_
    obtain ⟨hi, hM⟩ := ib_some hM
    refine h_iast C h tb_24 hi dX11_doAct_544 (fun H locs h => ?_)
    obtain ⟨rfl, rfl⟩ := so_inj hM
    exact h_vret C h dX11_doAct_545
def M_X11_doAct (G : GG) (x0 : Nat) (x1 : Int32) (x2 : Int32) (m : MM) : Option (Unit × MM) :=
  nb (gR m x0 65) fun b_25 =>
    ib x1 (G.2.2 b_25) <|
      nb (gR m x0 34) fun b_26 =>
        ib x2 (G.2.2 b_26) <|
          if (gI m b_26 x2.toNatClampNeg) = 1 then
            nb (gR m x0 35) fun b_27 =>
              ib x2 (G.2.2 b_27) <|
                bd (M_X11_push G x0 (gI m b_27 x2.toNatClampNeg) m) fun _ m_29 =>
                  nb (gR m_29 x0 67) fun b_30 =>
                    ib x1 (G.2.2 b_30) <|
                      ib x1 (G.2.2 b_30) <|
                        some ((), sI m_29 b_30 x1.toNatClampNeg ((gI m_29 b_30 x1.toNatClampNeg) + 1))
          else
            if (gI m b_26 x2.toNatClampNeg) = 2 then
              nb (gR m x0 35) fun b_31 =>
                ib x2 (G.2.2 b_31) <|
                  nb (gR m x0 56) fun b_32 =>
                    ib (gI m b_25 x1.toNatClampNeg) (G.2.2 b_32) <|
                      if (gI m b_32 ((gI m b_25 x1.toNatClampNeg).toNatClampNeg)) = 3 then
                        nb (gR m x0 59) fun b_33 =>
                          ib (gI m b_25 x1.toNatClampNeg) (G.2.2 b_33) <|
                            nb (gR m x0 9) fun b_34 =>
                              ib ((8 * (gI m x0 3)) + (gI m b_25 x1.toNatClampNeg)) (G.2.2 b_34) <|
                                ib x2 (G.2.2 b_31) <|
                                  if (gI m b_33 ((gI m b_25 x1.toNatClampNeg).toNatClampNeg)) ≤ ((gI m b_34 (((8 * (gI m x0 3)) + (gI m b_25 x1.toNatClampNeg)).toNatClampNeg)) + (gI m b_31 x2.toNatClampNeg)) then
                                    B_X11_doAct_151 G x0 x1 x2 (gI m b_25 x1.toNatClampNeg) ((6 * ((8 * (gI m x0 3)) + (gI m b_25 x1.toNatClampNeg))) + (gI m b_31 x2.toNatClampNeg)) 0 m
                                  else
                                    B_X11_doAct_146 G x0 x1 x2 (gI m b_25 x1.toNatClampNeg) ((6 * ((8 * (gI m x0 3)) + (gI m b_25 x1.toNatClampNeg))) + (gI m b_31 x2.toNatClampNeg)) m
                      else
                        B_X11_doAct_146 G x0 x1 x2 (gI m b_25 x1.toNatClampNeg) ((6 * ((8 * (gI m x0 3)) + (gI m b_25 x1.toNatClampNeg))) + (gI m b_31 x2.toNatClampNeg)) m
            else
              if (gI m b_26 x2.toNatClampNeg) = 3 then
                nb (gR m x0 35) fun b_35 =>
                  ib x2 (G.2.2 b_35) <|
                    nb (gR m x0 56) fun b_36 =>
                      ib ((gI m b_35 x2.toNatClampNeg) - (8 * (gI m x0 3))) (G.2.2 b_36) <|
                        if (gI m b_36 (((gI m b_35 x2.toNatClampNeg) - (8 * (gI m x0 3))).toNatClampNeg)) = 0 then
                          bd (M_X11_begin G x0 ((gI m b_35 x2.toNatClampNeg) - (8 * (gI m x0 3))) m) fun _ m_44 =>
                            some ((), m_44)
                        else
                          ib ((gI m b_35 x2.toNatClampNeg) - (8 * (gI m x0 3))) (G.2.2 b_36) <|
                            if (gI m b_36 (((gI m b_35 x2.toNatClampNeg) - (8 * (gI m x0 3))).toNatClampNeg)) = 2 then
                              bd (M_X11_fails G x0 6 m) fun _ m_42 =>
                                some ((), m_42)
                            else
                              ib ((gI m b_35 x2.toNatClampNeg) - (8 * (gI m x0 3))) (G.2.2 b_36) <|
                                if (gI m b_36 (((gI m b_35 x2.toNatClampNeg) - (8 * (gI m x0 3))).toNatClampNeg)) = 3 then
                                  nb (gR m x0 59) fun b_37 =>
                                    ib ((gI m b_35 x2.toNatClampNeg) - (8 * (gI m x0 3))) (G.2.2 b_37) <|
                                      nb (gR m x0 36) fun b_38 =>
                                        ib x2 (G.2.2 b_38) <|
                                          if (gI m b_38 x2.toNatClampNeg) < (gI m b_37 (((gI m b_35 x2.toNatClampNeg) - (8 * (gI m x0 3))).toNatClampNeg)) then
                                            B_X11_doAct_289 G x0 x1 x2 ((gI m b_35 x2.toNatClampNeg) - (8 * (gI m x0 3))) m
                                          else
                                            bd (M_X11_fails G x0 1 m) fun _ m_40 =>
                                              some ((), m_40)
                                else
                                  B_X11_doAct_289 G x0 x1 x2 ((gI m b_35 x2.toNatClampNeg) - (8 * (gI m x0 3))) m
              else
                if (gI m b_26 x2.toNatClampNeg) = 4 then
                  nb (gR m x0 16) fun b_45 =>
                    nb (gR m x0 66) fun b_46 =>
                      ib x1 (G.2.2 b_46) <|
                        ib ((12 * ((8 * (gI m x0 3)) + (gI m b_25 x1.toNatClampNeg))) + (gI m b_46 x1.toNatClampNeg)) (G.2.2 b_45) <|
                          bd (M_X11_push G x0 (gI m b_45 (((12 * ((8 * (gI m x0 3)) + (gI m b_25 x1.toNatClampNeg))) + (gI m b_46 x1.toNatClampNeg)).toNatClampNeg)) m) fun _ m_48 =>
                            nb (gR m_48 x0 67) fun b_49 =>
                              ib x1 (G.2.2 b_49) <|
                                ib x1 (G.2.2 b_49) <|
                                  some ((), sI m_48 b_49 x1.toNatClampNeg ((gI m_48 b_49 x1.toNatClampNeg) + 1))
                else
                  if (gI m b_26 x2.toNatClampNeg) = 5 then
                    nb (gR m x0 57) fun b_50 =>
                      nb (gR m x0 66) fun b_51 =>
                        ib x1 (G.2.2 b_51) <|
                          ib ((12 * (gI m b_25 x1.toNatClampNeg)) + (gI m b_51 x1.toNatClampNeg)) (G.2.2 b_50) <|
                            bd (M_X11_push G x0 (gI m b_50 (((12 * (gI m b_25 x1.toNatClampNeg)) + (gI m b_51 x1.toNatClampNeg)).toNatClampNeg)) m) fun _ m_53 =>
                              nb (gR m_53 x0 67) fun b_54 =>
                                ib x1 (G.2.2 b_54) <|
                                  ib x1 (G.2.2 b_54) <|
                                    some ((), sI m_53 b_54 x1.toNatClampNeg ((gI m_53 b_54 x1.toNatClampNeg) + 1))
                  else
                    if (gI m b_26 x2.toNatClampNeg) = 6 then
                      nb (gR m x0 66) fun b_55 =>
                        ib x1 (G.2.2 b_55) <|
                          bd (M_X11_push G x0 (gI m b_55 x1.toNatClampNeg) m) fun _ m_57 =>
                            nb (gR m_57 x0 67) fun b_58 =>
                              ib x1 (G.2.2 b_58) <|
                                ib x1 (G.2.2 b_58) <|
                                  some ((), sI m_57 b_58 x1.toNatClampNeg ((gI m_57 b_58 x1.toNatClampNeg) + 1))
                    else
                      if (gI m b_26 x2.toNatClampNeg) = 7 then
                        nb (gR (sI m x0 70 ((gI m x0 70) - 1)) x0 69) fun b_59 =>
                          ib (gI (sI m x0 70 ((gI m x0 70) - 1)) x0 70) (G.2.2 b_59) <|
                            ib ((gI (sI m x0 70 ((gI m x0 70) - 1)) x0 70) - 1) (G.2.2 b_59) <|
                              nb (gR (sI m x0 70 ((gI m x0 70) - 1)) x0 34) fun b_60 =>
                                ib x2 (G.2.2 b_60) <|
                                  if (gI (sI m x0 70 ((gI m x0 70) - 1)) b_60 x2.toNatClampNeg) = 10 then
                                    if (gI (sI m x0 70 ((gI m x0 70) - 1)) b_59 ((gI (sI m x0 70 ((gI m x0 70) - 1)) x0 70).toNatClampNeg)) = 0 then
                                      bd (M_X11_fails G x0 2 (sI m x0 70 ((gI m x0 70) - 1))) fun _ m_62 =>
                                        some ((), m_62)
                                    else
                                      B_X11_doAct_462 G x0 x1 x2 (gI (sI m x0 70 ((gI m x0 70) - 1)) b_59 ((gI (sI m x0 70 ((gI m x0 70) - 1)) x0 70).toNatClampNeg)) (gI (sI m x0 70 ((gI m x0 70) - 1)) b_59 (((gI (sI m x0 70 ((gI m x0 70) - 1)) x0 70) - 1).toNatClampNeg)) (sI m x0 70 ((gI m x0 70) - 1))
                                  else
                                    B_X11_doAct_462 G x0 x1 x2 (gI (sI m x0 70 ((gI m x0 70) - 1)) b_59 ((gI (sI m x0 70 ((gI m x0 70) - 1)) x0 70).toNatClampNeg)) (gI (sI m x0 70 ((gI m x0 70) - 1)) b_59 (((gI (sI m x0 70 ((gI m x0 70) - 1)) x0 70) - 1).toNatClampNeg)) (sI m x0 70 ((gI m x0 70) - 1))
                      else
                        if (gI m b_26 x2.toNatClampNeg) = 8 then
                          nb (gR (sI m x0 70 ((gI m x0 70) - 1)) x0 69) fun b_63 =>
                            ib (gI (sI m x0 70 ((gI m x0 70) - 1)) x0 70) (G.2.2 b_63) <|
                              ib ((gI (sI m x0 70 ((gI m x0 70) - 1)) x0 70) - 1) (G.2.2 b_63) <|
                                nb (gR (sI m x0 70 ((gI m x0 70) - 1)) x0 34) fun b_64 =>
                                  ib x2 (G.2.2 b_64) <|
                                    if (gI (sI m x0 70 ((gI m x0 70) - 1)) b_64 x2.toNatClampNeg) = 10 then
                                      if (gI (sI m x0 70 ((gI m x0 70) - 1)) b_63 ((gI (sI m x0 70 ((gI m x0 70) - 1)) x0 70).toNatClampNeg)) = 0 then
                                        bd (M_X11_fails G x0 2 (sI m x0 70 ((gI m x0 70) - 1))) fun _ m_66 =>
                                          some ((), m_66)
                                      else
                                        B_X11_doAct_462 G x0 x1 x2 (gI (sI m x0 70 ((gI m x0 70) - 1)) b_63 ((gI (sI m x0 70 ((gI m x0 70) - 1)) x0 70).toNatClampNeg)) (gI (sI m x0 70 ((gI m x0 70) - 1)) b_63 (((gI (sI m x0 70 ((gI m x0 70) - 1)) x0 70) - 1).toNatClampNeg)) (sI m x0 70 ((gI m x0 70) - 1))
                                    else
                                      B_X11_doAct_462 G x0 x1 x2 (gI (sI m x0 70 ((gI m x0 70) - 1)) b_63 ((gI (sI m x0 70 ((gI m x0 70) - 1)) x0 70).toNatClampNeg)) (gI (sI m x0 70 ((gI m x0 70) - 1)) b_63 (((gI (sI m x0 70 ((gI m x0 70) - 1)) x0 70) - 1).toNatClampNeg)) (sI m x0 70 ((gI m x0 70) - 1))
                        else
                          if (gI m b_26 x2.toNatClampNeg) = 9 then
                            nb (gR (sI m x0 70 ((gI m x0 70) - 1)) x0 69) fun b_67 =>
                              ib (gI (sI m x0 70 ((gI m x0 70) - 1)) x0 70) (G.2.2 b_67) <|
                                ib ((gI (sI m x0 70 ((gI m x0 70) - 1)) x0 70) - 1) (G.2.2 b_67) <|
                                  nb (gR (sI m x0 70 ((gI m x0 70) - 1)) x0 34) fun b_68 =>
                                    ib x2 (G.2.2 b_68) <|
                                      if (gI (sI m x0 70 ((gI m x0 70) - 1)) b_68 x2.toNatClampNeg) = 10 then
                                        if (gI (sI m x0 70 ((gI m x0 70) - 1)) b_67 ((gI (sI m x0 70 ((gI m x0 70) - 1)) x0 70).toNatClampNeg)) = 0 then
                                          bd (M_X11_fails G x0 2 (sI m x0 70 ((gI m x0 70) - 1))) fun _ m_70 =>
                                            some ((), m_70)
                                        else
                                          B_X11_doAct_462 G x0 x1 x2 (gI (sI m x0 70 ((gI m x0 70) - 1)) b_67 ((gI (sI m x0 70 ((gI m x0 70) - 1)) x0 70).toNatClampNeg)) (gI (sI m x0 70 ((gI m x0 70) - 1)) b_67 (((gI (sI m x0 70 ((gI m x0 70) - 1)) x0 70) - 1).toNatClampNeg)) (sI m x0 70 ((gI m x0 70) - 1))
                                      else
                                        B_X11_doAct_462 G x0 x1 x2 (gI (sI m x0 70 ((gI m x0 70) - 1)) b_67 ((gI (sI m x0 70 ((gI m x0 70) - 1)) x0 70).toNatClampNeg)) (gI (sI m x0 70 ((gI m x0 70) - 1)) b_67 (((gI (sI m x0 70 ((gI m x0 70) - 1)) x0 70) - 1).toNatClampNeg)) (sI m x0 70 ((gI m x0 70) - 1))
                          else
                            if (gI m b_26 x2.toNatClampNeg) = 10 then
                              nb (gR (sI m x0 70 ((gI m x0 70) - 1)) x0 69) fun b_71 =>
                                ib (gI (sI m x0 70 ((gI m x0 70) - 1)) x0 70) (G.2.2 b_71) <|
                                  ib ((gI (sI m x0 70 ((gI m x0 70) - 1)) x0 70) - 1) (G.2.2 b_71) <|
                                    nb (gR (sI m x0 70 ((gI m x0 70) - 1)) x0 34) fun b_72 =>
                                      ib x2 (G.2.2 b_72) <|
                                        if (gI (sI m x0 70 ((gI m x0 70) - 1)) b_72 x2.toNatClampNeg) = 10 then
                                          if (gI (sI m x0 70 ((gI m x0 70) - 1)) b_71 ((gI (sI m x0 70 ((gI m x0 70) - 1)) x0 70).toNatClampNeg)) = 0 then
                                            bd (M_X11_fails G x0 2 (sI m x0 70 ((gI m x0 70) - 1))) fun _ m_74 =>
                                              some ((), m_74)
                                          else
                                            B_X11_doAct_462 G x0 x1 x2 (gI (sI m x0 70 ((gI m x0 70) - 1)) b_71 ((gI (sI m x0 70 ((gI m x0 70) - 1)) x0 70).toNatClampNeg)) (gI (sI m x0 70 ((gI m x0 70) - 1)) b_71 (((gI (sI m x0 70 ((gI m x0 70) - 1)) x0 70) - 1).toNatClampNeg)) (sI m x0 70 ((gI m x0 70) - 1))
                                        else
                                          B_X11_doAct_462 G x0 x1 x2 (gI (sI m x0 70 ((gI m x0 70) - 1)) b_71 ((gI (sI m x0 70 ((gI m x0 70) - 1)) x0 70).toNatClampNeg)) (gI (sI m x0 70 ((gI m x0 70) - 1)) b_71 (((gI (sI m x0 70 ((gI m x0 70) - 1)) x0 70) - 1).toNatClampNeg)) (sI m x0 70 ((gI m x0 70) - 1))
                            else
                              if (gI m b_26 x2.toNatClampNeg) = 11 then
                                nb (gR m x0 69) fun b_75 =>
                                  ib ((gI m x0 70) - 1) (G.2.2 b_75) <|
                                    ib ((gI m x0 70) - 1) (G.2.2 b_75) <|
                                      nb (gR (sI m b_75 (((gI m x0 70) - 1).toNatClampNeg) (-(gI m b_75 (((gI m x0 70) - 1).toNatClampNeg)))) x0 67) fun b_76 =>
                                        ib x1 (G.2.2 b_76) <|
                                          ib x1 (G.2.2 b_76) <|
                                            some ((), sI (sI m b_75 (((gI m x0 70) - 1).toNatClampNeg) (-(gI m b_75 (((gI m x0 70) - 1).toNatClampNeg)))) b_76 x1.toNatClampNeg ((gI (sI m b_75 (((gI m x0 70) - 1).toNatClampNeg) (-(gI m b_75 (((gI m x0 70) - 1).toNatClampNeg)))) b_76 x1.toNatClampNeg) + 1))
                              else
                                nb (gR (sI m x0 70 ((gI m x0 70) - 1)) x0 69) fun b_77 =>
                                  ib (gI (sI m x0 70 ((gI m x0 70) - 1)) x0 70) (G.2.2 b_77) <|
                                    ib ((gI (sI m x0 70 ((gI m x0 70) - 1)) x0 70) - 1) (G.2.2 b_77) <|
                                      nb (gR (sI m x0 70 ((gI m x0 70) - 1)) x0 34) fun b_78 =>
                                        ib x2 (G.2.2 b_78) <|
                                          if (gI (sI m x0 70 ((gI m x0 70) - 1)) b_78 x2.toNatClampNeg) = 10 then
                                            if (gI (sI m x0 70 ((gI m x0 70) - 1)) b_77 ((gI (sI m x0 70 ((gI m x0 70) - 1)) x0 70).toNatClampNeg)) = 0 then
                                              bd (M_X11_fails G x0 2 (sI m x0 70 ((gI m x0 70) - 1))) fun _ m_80 =>
                                                some ((), m_80)
                                            else
                                              B_X11_doAct_462 G x0 x1 x2 (gI (sI m x0 70 ((gI m x0 70) - 1)) b_77 ((gI (sI m x0 70 ((gI m x0 70) - 1)) x0 70).toNatClampNeg)) (gI (sI m x0 70 ((gI m x0 70) - 1)) b_77 (((gI (sI m x0 70 ((gI m x0 70) - 1)) x0 70) - 1).toNatClampNeg)) (sI m x0 70 ((gI m x0 70) - 1))
                                          else
                                            B_X11_doAct_462 G x0 x1 x2 (gI (sI m x0 70 ((gI m x0 70) - 1)) b_77 ((gI (sI m x0 70 ((gI m x0 70) - 1)) x0 70).toNatClampNeg)) (gI (sI m x0 70 ((gI m x0 70) - 1)) b_77 (((gI (sI m x0 70 ((gI m x0 70) - 1)) x0 70) - 1).toNatClampNeg)) (sI m x0 70 ((gI m x0 70) - 1))
set_option maxRecDepth 100000 in
set_option maxHeartbeats 4000000 in
theorem cM_X11_doAct {p : Program} {l : Launch} {e : Env} {s : State} {mth : MethodId} {args : Array Value} {below : List Frame} {meth : Method} {c : Code} {E : EE} {G : GG} {r9 : Unit} {m9 : MM} (C : Cx E G p s mth args meth c cX11_doAct RX11 "doAct" 9 none) {x0 : Nat} {x1 : Int32} {x2 : Int32} {m : MM} (hM : M_X11_doAct G x0 x1 x2 m = some (r9, m9)) (tx0 : Ty E G x0 11) : ∀ (H : Heap) (locs : List Loc), Hp E G m s H locs → ∀ ls : Array Slot, lv_has ls 9 [(0, .ref x0), (1, .int x1), (2, .int x2)] → W p l e rmX11_doAct s mth args below meth c H locs 0 0 (MQ below (cQv E G m9) args s 0 0 (fun q => E.2.2.1 ≤ q)) (F0 mth 0 ls []) := by
  intro H locs h ls hl
  unfold M_X11_doAct at hM
  refine lv_aload_n C.1 C.2.1 dX11_doAct_0 rfl (lv_at hl 0 rfl) ?_
  refine gt_11_65 C h tx0 fl_X11_153 dX11_doAct_1 ?_
  obtain ⟨b_25, hb_25, hM⟩ := nb_some hM
  have tb_25 : Ty E G b_25 12 := (fun b hb => tyf h tx0 hb) _ hb_25
  refine st_ref hb_25 ?_
  refine lv_iload_n C.1 C.2.1 dX11_doAct_4 rfl (lv_at hl 1 rfl) ?_
  obtain ⟨hi, hM⟩ := ib_some hM
  refine h_iald C h tb_25 hi dX11_doAct_5 ?_
  refine lv_istore_n (lv' := [(3, .int (gI m b_25 x1.toNatClampNeg)), (0, .ref x0), (1, .int x1), (2, .int x2)]) C.1 C.2.1 dX11_doAct_6 rfl hl (by decide) rfl (fun ls hl => ?_)
  refine lv_aload_n C.1 C.2.1 dX11_doAct_7 rfl (lv_at hl 1 rfl) ?_
  refine gt_11_34 C h tx0 fl_X11_100 dX11_doAct_8 ?_
  obtain ⟨b_26, hb_26, hM⟩ := nb_some hM
  have tb_26 : Ty E G b_26 12 := (fun b hb => tyf h tx0 hb) _ hb_26
  refine st_ref hb_26 ?_
  refine lv_iload_n C.1 C.2.1 dX11_doAct_11 rfl (lv_at hl 3 rfl) ?_
  obtain ⟨hi, hM⟩ := ib_some hM
  refine h_iald C h tb_26 hi dX11_doAct_12 ?_
  by_cases q0 : (gI m b_26 x2.toNatClampNeg) = 1
  · have hM := ite_t q0 hM
    refine h_tabIn q0 (tgt := 72) C.1 C.2.1 dX11_doAct_13 (by decide) (by decide) rfl (by decide) ?_
    refine lv_aload_n C.1 C.2.1 dX11_doAct_72 rfl (lv_at hl 1 rfl) ?_
    refine lv_aload_n C.1 C.2.1 dX11_doAct_73 rfl (lv_at hl 1 rfl) ?_
    refine gt_11_35 C h tx0 fl_X11_103 dX11_doAct_74 ?_
    obtain ⟨b_27, hb_27, hM⟩ := nb_some hM
    have tb_27 : Ty E G b_27 12 := (fun b hb => tyf h tx0 hb) _ hb_27
    refine st_ref hb_27 ?_
    refine lv_iload_n C.1 C.2.1 dX11_doAct_77 rfl (lv_at hl 3 rfl) ?_
    obtain ⟨hi, hM⟩ := ib_some hM
    refine h_iald C h tb_27 hi dX11_doAct_78 ?_
    obtain ⟨r_28, m_29, hc_28, hM⟩ := bd_some hM
    refine h_callVv C h (As := [.int (gI m b_27 x2.toNatClampNeg)]) (rest := []) m_29 (c_X11_push hc_28 tx0) 11 rfl (by decide) tx0 im_yX11_push se_yX11_push cy_X11_push rfl ml_X11_380 ⟨by decide, by decide⟩ ⟨Nat.zero_le _, Nat.zero_le _⟩ hl.1 rfl (Nat.le_of_ble_eq_true rfl) dX11_doAct_79 (fun H locs h => ?_)
    refine lv_goto (tgt := 535) C.1 C.2.1 dX11_doAct_82 (by decide) ?_
    refine lv_aload_n C.1 C.2.1 dX11_doAct_535 rfl (lv_at hl 1 rfl) ?_
    refine gt_11_67 C h tx0 fl_X11_159 dX11_doAct_536 ?_
    obtain ⟨b_30, hb_30, hM⟩ := nb_some hM
    have tb_30 : Ty E G b_30 12 := (fun b hb => tyf h tx0 hb) _ hb_30
    refine st_ref hb_30 ?_
    refine lv_iload_n C.1 C.2.1 dX11_doAct_539 rfl (lv_at hl 2 rfl) ?_
    refine lv_dup2_11 C.1 C.2.1 dX11_doAct_540 rfl rfl ?_
    obtain ⟨hi, hM⟩ := ib_some hM
    refine h_iald C h tb_30 hi dX11_doAct_541 ?_
    refine lv_iconst (v := 1) C.1 C.2.1 dX11_doAct_542 (by decide) ?_
    refine lv_iadd C.1 C.2.1 dX11_doAct_543 ?_
    obtain ⟨hi, hM⟩ := ib_some hM
    refine h_iast C h tb_30 hi dX11_doAct_544 (fun H locs h => ?_)
    obtain ⟨rfl, rfl⟩ := so_inj hM
    exact h_vret C h dX11_doAct_545
  · have hM := ite_f q0 hM
    by_cases q1 : (gI m b_26 x2.toNatClampNeg) = 2
    · have hM := ite_t q1 hM
      refine h_tabIn q1 (tgt := 85) C.1 C.2.1 dX11_doAct_13 (by decide) (by decide) rfl (by decide) ?_
      refine lv_bipush (v := 6) C.1 C.2.1 dX11_doAct_85 (by decide) ?_
      refine lv_bipush (v := 8) C.1 C.2.1 dX11_doAct_87 (by decide) ?_
      refine lv_aload_n C.1 C.2.1 dX11_doAct_89 rfl (lv_at hl 1 rfl) ?_
      refine gt_11_3 C h tx0 fl_X11_334 dX11_doAct_90 ?_
      refine lv_imul C.1 C.2.1 dX11_doAct_93 ?_
      refine lv_iload_n C.1 C.2.1 dX11_doAct_94 rfl (lv_at hl 0 rfl) ?_
      refine lv_iadd C.1 C.2.1 dX11_doAct_95 ?_
      refine lv_imul C.1 C.2.1 dX11_doAct_96 ?_
      refine lv_aload_n C.1 C.2.1 dX11_doAct_97 rfl (lv_at hl 1 rfl) ?_
      refine gt_11_35 C h tx0 fl_X11_103 dX11_doAct_98 ?_
      obtain ⟨b_31, hb_31, hM⟩ := nb_some hM
      have tb_31 : Ty E G b_31 12 := (fun b hb => tyf h tx0 hb) _ hb_31
      refine st_ref hb_31 ?_
      refine lv_iload_n C.1 C.2.1 dX11_doAct_101 rfl (lv_at hl 3 rfl) ?_
      obtain ⟨hi, hM⟩ := ib_some hM
      refine h_iald C h tb_31 hi dX11_doAct_102 ?_
      refine lv_iadd C.1 C.2.1 dX11_doAct_103 ?_
      refine lv_istore (lv' := [(4, .int ((6 * ((8 * (gI m x0 3)) + (gI m b_25 x1.toNatClampNeg))) + (gI m b_31 x2.toNatClampNeg))), (3, .int (gI m b_25 x1.toNatClampNeg)), (0, .ref x0), (1, .int x1), (2, .int x2)]) C.1 C.2.1 dX11_doAct_104 hl (by decide) rfl (fun ls hl => ?_)
      refine lv_aload_n C.1 C.2.1 dX11_doAct_106 rfl (lv_at hl 2 rfl) ?_
      refine gt_11_56 C h tx0 fl_X11_138 dX11_doAct_107 ?_
      obtain ⟨b_32, hb_32, hM⟩ := nb_some hM
      have tb_32 : Ty E G b_32 12 := (fun b hb => tyf h tx0 hb) _ hb_32
      refine st_ref hb_32 ?_
      refine lv_iload_n C.1 C.2.1 dX11_doAct_110 rfl (lv_at hl 1 rfl) ?_
      obtain ⟨hi, hM⟩ := ib_some hM
      refine h_iald C h tb_32 hi dX11_doAct_111 ?_
      refine lv_iconst (v := 3) C.1 C.2.1 dX11_doAct_112 (by decide) ?_
      refine lv_icmp_ne (tgt := 146) C.1 C.2.1 dX11_doAct_113 (by decide) (fun q => ?_) (fun q => ?_)
      · have hM := ite_f q hM
        exact cB_X11_doAct_146 C hM tx0 _ _ h ls (lv_sub hl [2, 3, 4, 1, 0] rfl)
      · have hM := ite_t q hM
        refine lv_aload_n C.1 C.2.1 dX11_doAct_116 rfl (lv_at hl 2 rfl) ?_
        refine gt_11_59 C h tx0 fl_X11_147 dX11_doAct_117 ?_
        obtain ⟨b_33, hb_33, hM⟩ := nb_some hM
        have tb_33 : Ty E G b_33 12 := (fun b hb => tyf h tx0 hb) _ hb_33
        refine st_ref hb_33 ?_
        refine lv_iload_n C.1 C.2.1 dX11_doAct_120 rfl (lv_at hl 1 rfl) ?_
        obtain ⟨hi, hM⟩ := ib_some hM
        refine h_iald C h tb_33 hi dX11_doAct_121 ?_
        refine lv_aload_n C.1 C.2.1 dX11_doAct_122 rfl (lv_at hl 2 rfl) ?_
        refine gt_11_9 C h tx0 fl_X11_25 dX11_doAct_123 ?_
        obtain ⟨b_34, hb_34, hM⟩ := nb_some hM
        have tb_34 : Ty E G b_34 12 := (fun b hb => tyf h tx0 hb) _ hb_34
        refine st_ref hb_34 ?_
        refine lv_bipush (v := 8) C.1 C.2.1 dX11_doAct_126 (by decide) ?_
        refine lv_aload_n C.1 C.2.1 dX11_doAct_128 rfl (lv_at hl 2 rfl) ?_
        refine gt_11_3 C h tx0 fl_X11_334 dX11_doAct_129 ?_
        refine lv_imul C.1 C.2.1 dX11_doAct_132 ?_
        refine lv_iload_n C.1 C.2.1 dX11_doAct_133 rfl (lv_at hl 1 rfl) ?_
        refine lv_iadd C.1 C.2.1 dX11_doAct_134 ?_
        obtain ⟨hi, hM⟩ := ib_some hM
        refine h_iald C h tb_34 hi dX11_doAct_135 ?_
        refine lv_aload_n C.1 C.2.1 dX11_doAct_136 rfl (lv_at hl 2 rfl) ?_
        refine gt_11_35 C h tx0 fl_X11_103 dX11_doAct_137 ?_
        refine st_ref hb_31 ?_
        refine lv_iload_n C.1 C.2.1 dX11_doAct_140 rfl (lv_at hl 4 rfl) ?_
        obtain ⟨hi, hM⟩ := ib_some hM
        refine h_iald C h tb_31 hi dX11_doAct_141 ?_
        refine lv_iadd C.1 C.2.1 dX11_doAct_142 ?_
        refine lv_icmp_le (tgt := 150) C.1 C.2.1 dX11_doAct_143 (by decide) (fun q => ?_) (fun q => ?_)
        · have hM := ite_t q hM
          refine lv_iconst (v := 0) C.1 C.2.1 dX11_doAct_150 (by decide) ?_
          exact cB_X11_doAct_151 C hM tx0 _ _ h ls (lv_sub hl [2, 3, 4, 1, 0] rfl)
        · have hM := ite_f q hM
          exact cB_X11_doAct_146 C hM tx0 _ _ h ls (lv_sub hl [2, 3, 4, 1, 0] rfl)
    · have hM := ite_f q1 hM
      by_cases q2 : (gI m b_26 x2.toNatClampNeg) = 3
      · have hM := ite_t q2 hM
        refine h_tabIn q2 (tgt := 205) C.1 C.2.1 dX11_doAct_13 (by decide) (by decide) rfl (by decide) ?_
        refine lv_aload_n C.1 C.2.1 dX11_doAct_205 rfl (lv_at hl 1 rfl) ?_
        refine gt_11_35 C h tx0 fl_X11_103 dX11_doAct_206 ?_
        obtain ⟨b_35, hb_35, hM⟩ := nb_some hM
        have tb_35 : Ty E G b_35 12 := (fun b hb => tyf h tx0 hb) _ hb_35
        refine st_ref hb_35 ?_
        refine lv_iload_n C.1 C.2.1 dX11_doAct_209 rfl (lv_at hl 3 rfl) ?_
        obtain ⟨hi, hM⟩ := ib_some hM
        refine h_iald C h tb_35 hi dX11_doAct_210 ?_
        refine lv_bipush (v := 8) C.1 C.2.1 dX11_doAct_211 (by decide) ?_
        refine lv_aload_n C.1 C.2.1 dX11_doAct_213 rfl (lv_at hl 1 rfl) ?_
        refine gt_11_3 C h tx0 fl_X11_334 dX11_doAct_214 ?_
        refine lv_imul C.1 C.2.1 dX11_doAct_217 ?_
        refine lv_isub C.1 C.2.1 dX11_doAct_218 ?_
        refine lv_istore (lv' := [(6, .int ((gI m b_35 x2.toNatClampNeg) - (8 * (gI m x0 3)))), (3, .int (gI m b_25 x1.toNatClampNeg)), (0, .ref x0), (1, .int x1), (2, .int x2)]) C.1 C.2.1 dX11_doAct_219 hl (by decide) rfl (fun ls hl => ?_)
        refine lv_aload_n C.1 C.2.1 dX11_doAct_221 rfl (lv_at hl 2 rfl) ?_
        refine gt_11_56 C h tx0 fl_X11_138 dX11_doAct_222 ?_
        obtain ⟨b_36, hb_36, hM⟩ := nb_some hM
        have tb_36 : Ty E G b_36 12 := (fun b hb => tyf h tx0 hb) _ hb_36
        refine st_ref hb_36 ?_
        refine lv_iload C.1 C.2.1 dX11_doAct_225 (lv_at hl 0 rfl) ?_
        obtain ⟨hi, hM⟩ := ib_some hM
        refine h_iald C h tb_36 hi dX11_doAct_227 ?_
        refine lv_if_ne (tgt := 238) C.1 C.2.1 dX11_doAct_228 (by decide) (fun q => ?_) (fun q => ?_)
        · have hM := ite_f q hM
          refine lv_aload_n C.1 C.2.1 dX11_doAct_238 rfl (lv_at hl 2 rfl) ?_
          refine gt_11_56 C h tx0 fl_X11_138 dX11_doAct_239 ?_
          refine st_ref hb_36 ?_
          refine lv_iload C.1 C.2.1 dX11_doAct_242 (lv_at hl 0 rfl) ?_
          obtain ⟨hi, hM⟩ := ib_some hM
          refine h_iald C h tb_36 hi dX11_doAct_244 ?_
          refine lv_iconst (v := 2) C.1 C.2.1 dX11_doAct_245 (by decide) ?_
          refine lv_icmp_ne (tgt := 256) C.1 C.2.1 dX11_doAct_246 (by decide) (fun q => ?_) (fun q => ?_)
          · have hM := ite_f q hM
            refine lv_aload_n C.1 C.2.1 dX11_doAct_256 rfl (lv_at hl 2 rfl) ?_
            refine gt_11_56 C h tx0 fl_X11_138 dX11_doAct_257 ?_
            refine st_ref hb_36 ?_
            refine lv_iload C.1 C.2.1 dX11_doAct_260 (lv_at hl 0 rfl) ?_
            obtain ⟨hi, hM⟩ := ib_some hM
            refine h_iald C h tb_36 hi dX11_doAct_262 ?_
            refine lv_iconst (v := 3) C.1 C.2.1 dX11_doAct_263 (by decide) ?_
            refine lv_icmp_ne (tgt := 289) C.1 C.2.1 dX11_doAct_264 (by decide) (fun q => ?_) (fun q => ?_)
            · have hM := ite_f q hM
              exact cB_X11_doAct_289 C hM tx0 _ _ h ls (lv_sub hl [2, 3, 4, 0] rfl)
            · have hM := ite_t q hM
              refine lv_aload_n C.1 C.2.1 dX11_doAct_267 rfl (lv_at hl 2 rfl) ?_
              refine gt_11_59 C h tx0 fl_X11_147 dX11_doAct_268 ?_
              obtain ⟨b_37, hb_37, hM⟩ := nb_some hM
              have tb_37 : Ty E G b_37 12 := (fun b hb => tyf h tx0 hb) _ hb_37
              refine st_ref hb_37 ?_
              refine lv_iload C.1 C.2.1 dX11_doAct_271 (lv_at hl 0 rfl) ?_
              obtain ⟨hi, hM⟩ := ib_some hM
              refine h_iald C h tb_37 hi dX11_doAct_273 ?_
              refine lv_aload_n C.1 C.2.1 dX11_doAct_274 rfl (lv_at hl 2 rfl) ?_
              refine gt_11_36 C h tx0 fl_X11_106 dX11_doAct_275 ?_
              obtain ⟨b_38, hb_38, hM⟩ := nb_some hM
              have tb_38 : Ty E G b_38 12 := (fun b hb => tyf h tx0 hb) _ hb_38
              refine st_ref hb_38 ?_
              refine lv_iload_n C.1 C.2.1 dX11_doAct_278 rfl (lv_at hl 4 rfl) ?_
              obtain ⟨hi, hM⟩ := ib_some hM
              refine h_iald C h tb_38 hi dX11_doAct_279 ?_
              refine lv_icmp_gt (tgt := 289) C.1 C.2.1 dX11_doAct_280 (by decide) (fun q => ?_) (fun q => ?_)
              · have hM := ite_t q hM
                exact cB_X11_doAct_289 C hM tx0 _ _ h ls (lv_sub hl [2, 3, 4, 0] rfl)
              · have hM := ite_f q hM
                refine lv_aload_n C.1 C.2.1 dX11_doAct_283 rfl (lv_at hl 2 rfl) ?_
                refine lv_iconst (v := 1) C.1 C.2.1 dX11_doAct_284 (by decide) ?_
                obtain ⟨r_39, m_40, hc_39, hM⟩ := bd_some hM
                refine h_callVv C h (As := [.int 1]) (rest := []) m_40 (c_X11_fails hc_39 tx0) 11 rfl (by decide) tx0 im_yX11_fails se_yX11_fails cy_X11_fails rfl ml_X11_386 ⟨by decide, by decide⟩ ⟨Nat.zero_le _, Nat.zero_le _⟩ hl.1 rfl (Nat.le_of_ble_eq_true rfl) dX11_doAct_285 (fun H locs h => ?_)
                obtain ⟨rfl, rfl⟩ := so_inj hM
                exact h_vret C h dX11_doAct_288
          · have hM := ite_t q hM
            refine lv_aload_n C.1 C.2.1 dX11_doAct_249 rfl (lv_at hl 2 rfl) ?_
            refine lv_bipush (v := 6) C.1 C.2.1 dX11_doAct_250 (by decide) ?_
            obtain ⟨r_41, m_42, hc_41, hM⟩ := bd_some hM
            refine h_callVv C h (As := [.int 6]) (rest := []) m_42 (c_X11_fails hc_41 tx0) 11 rfl (by decide) tx0 im_yX11_fails se_yX11_fails cy_X11_fails rfl ml_X11_386 ⟨by decide, by decide⟩ ⟨Nat.zero_le _, Nat.zero_le _⟩ hl.1 rfl (Nat.le_of_ble_eq_true rfl) dX11_doAct_252 (fun H locs h => ?_)
            obtain ⟨rfl, rfl⟩ := so_inj hM
            exact h_vret C h dX11_doAct_255
        · have hM := ite_t q hM
          refine lv_aload_n C.1 C.2.1 dX11_doAct_231 rfl (lv_at hl 2 rfl) ?_
          refine lv_iload C.1 C.2.1 dX11_doAct_232 (lv_at hl 0 rfl) ?_
          obtain ⟨r_43, m_44, hc_43, hM⟩ := bd_some hM
          refine h_callVv C h (As := [.int ((gI m b_35 x2.toNatClampNeg) - (8 * (gI m x0 3)))]) (rest := []) m_44 (c_X11_begin hc_43 tx0) 11 rfl (by decide) tx0 im_yX11_begin se_yX11_begin cy_X11_begin rfl ml_X11_383 ⟨by decide, by decide⟩ ⟨Nat.zero_le _, Nat.zero_le _⟩ hl.1 rfl (Nat.le_of_ble_eq_true rfl) dX11_doAct_234 (fun H locs h => ?_)
          obtain ⟨rfl, rfl⟩ := so_inj hM
          exact h_vret C h dX11_doAct_237
      · have hM := ite_f q2 hM
        by_cases q3 : (gI m b_26 x2.toNatClampNeg) = 4
        · have hM := ite_t q3 hM
          refine h_tabIn q3 (tgt := 313) C.1 C.2.1 dX11_doAct_13 (by decide) (by decide) rfl (by decide) ?_
          refine lv_aload_n C.1 C.2.1 dX11_doAct_313 rfl (lv_at hl 1 rfl) ?_
          refine lv_aload_n C.1 C.2.1 dX11_doAct_314 rfl (lv_at hl 1 rfl) ?_
          refine gt_11_16 C h tx0 fl_X11_46 dX11_doAct_315 ?_
          obtain ⟨b_45, hb_45, hM⟩ := nb_some hM
          have tb_45 : Ty E G b_45 12 := (fun b hb => tyf h tx0 hb) _ hb_45
          refine st_ref hb_45 ?_
          refine lv_bipush (v := 12) C.1 C.2.1 dX11_doAct_318 (by decide) ?_
          refine lv_bipush (v := 8) C.1 C.2.1 dX11_doAct_320 (by decide) ?_
          refine lv_aload_n C.1 C.2.1 dX11_doAct_322 rfl (lv_at hl 1 rfl) ?_
          refine gt_11_3 C h tx0 fl_X11_334 dX11_doAct_323 ?_
          refine lv_imul C.1 C.2.1 dX11_doAct_326 ?_
          refine lv_iload_n C.1 C.2.1 dX11_doAct_327 rfl (lv_at hl 0 rfl) ?_
          refine lv_iadd C.1 C.2.1 dX11_doAct_328 ?_
          refine lv_imul C.1 C.2.1 dX11_doAct_329 ?_
          refine lv_aload_n C.1 C.2.1 dX11_doAct_330 rfl (lv_at hl 1 rfl) ?_
          refine gt_11_66 C h tx0 fl_X11_156 dX11_doAct_331 ?_
          obtain ⟨b_46, hb_46, hM⟩ := nb_some hM
          have tb_46 : Ty E G b_46 12 := (fun b hb => tyf h tx0 hb) _ hb_46
          refine st_ref hb_46 ?_
          refine lv_iload_n C.1 C.2.1 dX11_doAct_334 rfl (lv_at hl 2 rfl) ?_
          obtain ⟨hi, hM⟩ := ib_some hM
          refine h_iald C h tb_46 hi dX11_doAct_335 ?_
          refine lv_iadd C.1 C.2.1 dX11_doAct_336 ?_
          obtain ⟨hi, hM⟩ := ib_some hM
          refine h_iald C h tb_45 hi dX11_doAct_337 ?_
          obtain ⟨r_47, m_48, hc_47, hM⟩ := bd_some hM
          refine h_callVv C h (As := [.int (gI m b_45 (((12 * ((8 * (gI m x0 3)) + (gI m b_25 x1.toNatClampNeg))) + (gI m b_46 x1.toNatClampNeg)).toNatClampNeg))]) (rest := []) m_48 (c_X11_push hc_47 tx0) 11 rfl (by decide) tx0 im_yX11_push se_yX11_push cy_X11_push rfl ml_X11_380 ⟨by decide, by decide⟩ ⟨Nat.zero_le _, Nat.zero_le _⟩ hl.1 rfl (Nat.le_of_ble_eq_true rfl) dX11_doAct_338 (fun H locs h => ?_)
          refine lv_goto (tgt := 535) C.1 C.2.1 dX11_doAct_341 (by decide) ?_
          refine lv_aload_n C.1 C.2.1 dX11_doAct_535 rfl (lv_at hl 1 rfl) ?_
          refine gt_11_67 C h tx0 fl_X11_159 dX11_doAct_536 ?_
          obtain ⟨b_49, hb_49, hM⟩ := nb_some hM
          have tb_49 : Ty E G b_49 12 := (fun b hb => tyf h tx0 hb) _ hb_49
          refine st_ref hb_49 ?_
          refine lv_iload_n C.1 C.2.1 dX11_doAct_539 rfl (lv_at hl 2 rfl) ?_
          refine lv_dup2_11 C.1 C.2.1 dX11_doAct_540 rfl rfl ?_
          obtain ⟨hi, hM⟩ := ib_some hM
          refine h_iald C h tb_49 hi dX11_doAct_541 ?_
          refine lv_iconst (v := 1) C.1 C.2.1 dX11_doAct_542 (by decide) ?_
          refine lv_iadd C.1 C.2.1 dX11_doAct_543 ?_
          obtain ⟨hi, hM⟩ := ib_some hM
          refine h_iast C h tb_49 hi dX11_doAct_544 (fun H locs h => ?_)
          obtain ⟨rfl, rfl⟩ := so_inj hM
          exact h_vret C h dX11_doAct_545
        · have hM := ite_f q3 hM
          by_cases q4 : (gI m b_26 x2.toNatClampNeg) = 5
          · have hM := ite_t q4 hM
            refine h_tabIn q4 (tgt := 344) C.1 C.2.1 dX11_doAct_13 (by decide) (by decide) rfl (by decide) ?_
            refine lv_aload_n C.1 C.2.1 dX11_doAct_344 rfl (lv_at hl 1 rfl) ?_
            refine lv_aload_n C.1 C.2.1 dX11_doAct_345 rfl (lv_at hl 1 rfl) ?_
            refine gt_11_57 C h tx0 fl_X11_141 dX11_doAct_346 ?_
            obtain ⟨b_50, hb_50, hM⟩ := nb_some hM
            have tb_50 : Ty E G b_50 12 := (fun b hb => tyf h tx0 hb) _ hb_50
            refine st_ref hb_50 ?_
            refine lv_bipush (v := 12) C.1 C.2.1 dX11_doAct_349 (by decide) ?_
            refine lv_iload_n C.1 C.2.1 dX11_doAct_351 rfl (lv_at hl 0 rfl) ?_
            refine lv_imul C.1 C.2.1 dX11_doAct_352 ?_
            refine lv_aload_n C.1 C.2.1 dX11_doAct_353 rfl (lv_at hl 1 rfl) ?_
            refine gt_11_66 C h tx0 fl_X11_156 dX11_doAct_354 ?_
            obtain ⟨b_51, hb_51, hM⟩ := nb_some hM
            have tb_51 : Ty E G b_51 12 := (fun b hb => tyf h tx0 hb) _ hb_51
            refine st_ref hb_51 ?_
            refine lv_iload_n C.1 C.2.1 dX11_doAct_357 rfl (lv_at hl 2 rfl) ?_
            obtain ⟨hi, hM⟩ := ib_some hM
            refine h_iald C h tb_51 hi dX11_doAct_358 ?_
            refine lv_iadd C.1 C.2.1 dX11_doAct_359 ?_
            obtain ⟨hi, hM⟩ := ib_some hM
            refine h_iald C h tb_50 hi dX11_doAct_360 ?_
            obtain ⟨r_52, m_53, hc_52, hM⟩ := bd_some hM
            refine h_callVv C h (As := [.int (gI m b_50 (((12 * (gI m b_25 x1.toNatClampNeg)) + (gI m b_51 x1.toNatClampNeg)).toNatClampNeg))]) (rest := []) m_53 (c_X11_push hc_52 tx0) 11 rfl (by decide) tx0 im_yX11_push se_yX11_push cy_X11_push rfl ml_X11_380 ⟨by decide, by decide⟩ ⟨Nat.zero_le _, Nat.zero_le _⟩ hl.1 rfl (Nat.le_of_ble_eq_true rfl) dX11_doAct_361 (fun H locs h => ?_)
            refine lv_goto (tgt := 535) C.1 C.2.1 dX11_doAct_364 (by decide) ?_
            refine lv_aload_n C.1 C.2.1 dX11_doAct_535 rfl (lv_at hl 1 rfl) ?_
            refine gt_11_67 C h tx0 fl_X11_159 dX11_doAct_536 ?_
            obtain ⟨b_54, hb_54, hM⟩ := nb_some hM
            have tb_54 : Ty E G b_54 12 := (fun b hb => tyf h tx0 hb) _ hb_54
            refine st_ref hb_54 ?_
            refine lv_iload_n C.1 C.2.1 dX11_doAct_539 rfl (lv_at hl 2 rfl) ?_
            refine lv_dup2_11 C.1 C.2.1 dX11_doAct_540 rfl rfl ?_
            obtain ⟨hi, hM⟩ := ib_some hM
            refine h_iald C h tb_54 hi dX11_doAct_541 ?_
            refine lv_iconst (v := 1) C.1 C.2.1 dX11_doAct_542 (by decide) ?_
            refine lv_iadd C.1 C.2.1 dX11_doAct_543 ?_
            obtain ⟨hi, hM⟩ := ib_some hM
            refine h_iast C h tb_54 hi dX11_doAct_544 (fun H locs h => ?_)
            obtain ⟨rfl, rfl⟩ := so_inj hM
            exact h_vret C h dX11_doAct_545
          · have hM := ite_f q4 hM
            by_cases q5 : (gI m b_26 x2.toNatClampNeg) = 6
            · have hM := ite_t q5 hM
              refine h_tabIn q5 (tgt := 367) C.1 C.2.1 dX11_doAct_13 (by decide) (by decide) rfl (by decide) ?_
              refine lv_aload_n C.1 C.2.1 dX11_doAct_367 rfl (lv_at hl 1 rfl) ?_
              refine lv_aload_n C.1 C.2.1 dX11_doAct_368 rfl (lv_at hl 1 rfl) ?_
              refine gt_11_66 C h tx0 fl_X11_156 dX11_doAct_369 ?_
              obtain ⟨b_55, hb_55, hM⟩ := nb_some hM
              have tb_55 : Ty E G b_55 12 := (fun b hb => tyf h tx0 hb) _ hb_55
              refine st_ref hb_55 ?_
              refine lv_iload_n C.1 C.2.1 dX11_doAct_372 rfl (lv_at hl 2 rfl) ?_
              obtain ⟨hi, hM⟩ := ib_some hM
              refine h_iald C h tb_55 hi dX11_doAct_373 ?_
              obtain ⟨r_56, m_57, hc_56, hM⟩ := bd_some hM
              refine h_callVv C h (As := [.int (gI m b_55 x1.toNatClampNeg)]) (rest := []) m_57 (c_X11_push hc_56 tx0) 11 rfl (by decide) tx0 im_yX11_push se_yX11_push cy_X11_push rfl ml_X11_380 ⟨by decide, by decide⟩ ⟨Nat.zero_le _, Nat.zero_le _⟩ hl.1 rfl (Nat.le_of_ble_eq_true rfl) dX11_doAct_374 (fun H locs h => ?_)
              refine lv_goto (tgt := 535) C.1 C.2.1 dX11_doAct_377 (by decide) ?_
              refine lv_aload_n C.1 C.2.1 dX11_doAct_535 rfl (lv_at hl 1 rfl) ?_
              refine gt_11_67 C h tx0 fl_X11_159 dX11_doAct_536 ?_
              obtain ⟨b_58, hb_58, hM⟩ := nb_some hM
              have tb_58 : Ty E G b_58 12 := (fun b hb => tyf h tx0 hb) _ hb_58
              refine st_ref hb_58 ?_
              refine lv_iload_n C.1 C.2.1 dX11_doAct_539 rfl (lv_at hl 2 rfl) ?_
              refine lv_dup2_11 C.1 C.2.1 dX11_doAct_540 rfl rfl ?_
              obtain ⟨hi, hM⟩ := ib_some hM
              refine h_iald C h tb_58 hi dX11_doAct_541 ?_
              refine lv_iconst (v := 1) C.1 C.2.1 dX11_doAct_542 (by decide) ?_
              refine lv_iadd C.1 C.2.1 dX11_doAct_543 ?_
              obtain ⟨hi, hM⟩ := ib_some hM
              refine h_iast C h tb_58 hi dX11_doAct_544 (fun H locs h => ?_)
              obtain ⟨rfl, rfl⟩ := so_inj hM
              exact h_vret C h dX11_doAct_545
            · have hM := ite_f q5 hM
              by_cases q6 : (gI m b_26 x2.toNatClampNeg) = 7
              · have hM := ite_t q6 hM
                refine h_tabIn q6 (tgt := 406) C.1 C.2.1 dX11_doAct_13 (by decide) (by decide) rfl (by decide) ?_
                refine lv_aload_n C.1 C.2.1 dX11_doAct_406 rfl (lv_at hl 1 rfl) ?_
                refine lv_dup C.1 C.2.1 dX11_doAct_407 rfl ?_
                refine gt_11_70 C h tx0 fl_X11_368 dX11_doAct_408 ?_
                refine lv_iconst (v := 1) C.1 C.2.1 dX11_doAct_411 (by decide) ?_
                refine lv_isub C.1 C.2.1 dX11_doAct_412 ?_
                refine pt_11_70 C h tx0 fl_X11_368 dX11_doAct_413 (fun H locs h => ?_)
                refine lv_aload_n C.1 C.2.1 dX11_doAct_416 rfl (lv_at hl 1 rfl) ?_
                refine gt_11_69 C h tx0 fl_X11_165 dX11_doAct_417 ?_
                obtain ⟨b_59, hb_59, hM⟩ := nb_some hM
                have tb_59 : Ty E G b_59 12 := (fun b hb => tyf h tx0 hb) _ hb_59
                refine st_ref hb_59 ?_
                refine lv_aload_n C.1 C.2.1 dX11_doAct_420 rfl (lv_at hl 1 rfl) ?_
                refine gt_11_70 C h tx0 fl_X11_368 dX11_doAct_421 ?_
                obtain ⟨hi, hM⟩ := ib_some hM
                refine h_iald C h tb_59 hi dX11_doAct_424 ?_
                refine lv_istore (lv' := [(7, .int (gI (sI m x0 70 ((gI m x0 70) - 1)) b_59 ((gI (sI m x0 70 ((gI m x0 70) - 1)) x0 70).toNatClampNeg))), (3, .int (gI m b_25 x1.toNatClampNeg)), (0, .ref x0), (1, .int x1), (2, .int x2)]) C.1 C.2.1 dX11_doAct_425 hl (by decide) rfl (fun ls hl => ?_)
                refine lv_aload_n C.1 C.2.1 dX11_doAct_427 rfl (lv_at hl 2 rfl) ?_
                refine gt_11_69 C h tx0 fl_X11_165 dX11_doAct_428 ?_
                refine st_ref hb_59 ?_
                refine lv_aload_n C.1 C.2.1 dX11_doAct_431 rfl (lv_at hl 2 rfl) ?_
                refine gt_11_70 C h tx0 fl_X11_368 dX11_doAct_432 ?_
                refine lv_iconst (v := 1) C.1 C.2.1 dX11_doAct_435 (by decide) ?_
                refine lv_isub C.1 C.2.1 dX11_doAct_436 ?_
                obtain ⟨hi, hM⟩ := ib_some hM
                refine h_iald C h tb_59 hi dX11_doAct_437 ?_
                refine lv_istore (lv' := [(8, .int (gI (sI m x0 70 ((gI m x0 70) - 1)) b_59 (((gI (sI m x0 70 ((gI m x0 70) - 1)) x0 70) - 1).toNatClampNeg))), (7, .int (gI (sI m x0 70 ((gI m x0 70) - 1)) b_59 ((gI (sI m x0 70 ((gI m x0 70) - 1)) x0 70).toNatClampNeg))), (3, .int (gI m b_25 x1.toNatClampNeg)), (0, .ref x0), (1, .int x1), (2, .int x2)]) C.1 C.2.1 dX11_doAct_438 hl (by decide) rfl (fun ls hl => ?_)
                refine lv_aload_n C.1 C.2.1 dX11_doAct_440 rfl (lv_at hl 3 rfl) ?_
                refine gt_11_34 C h tx0 fl_X11_100 dX11_doAct_441 ?_
                obtain ⟨b_60, hb_60, hM⟩ := nb_some hM
                have tb_60 : Ty E G b_60 12 := (fun b hb => tyf h tx0 hb) _ hb_60
                refine st_ref hb_60 ?_
                refine lv_iload_n C.1 C.2.1 dX11_doAct_444 rfl (lv_at hl 5 rfl) ?_
                obtain ⟨hi, hM⟩ := ib_some hM
                refine h_iald C h tb_60 hi dX11_doAct_445 ?_
                refine lv_bipush (v := 10) C.1 C.2.1 dX11_doAct_446 (by decide) ?_
                refine lv_icmp_ne (tgt := 462) C.1 C.2.1 dX11_doAct_448 (by decide) (fun q => ?_) (fun q => ?_)
                · have hM := ite_f q hM
                  exact cB_X11_doAct_462 C hM tx0 _ _ h ls (lv_sub hl [3, 4, 5, 1, 0] rfl)
                · have hM := ite_t q hM
                  refine lv_iload C.1 C.2.1 dX11_doAct_451 (lv_at hl 1 rfl) ?_
                  refine lv_if_ne (tgt := 462) C.1 C.2.1 dX11_doAct_453 (by decide) (fun q => ?_) (fun q => ?_)
                  · have hM := ite_f q hM
                    exact cB_X11_doAct_462 C hM tx0 _ _ h ls (lv_sub hl [3, 4, 5, 1, 0] rfl)
                  · have hM := ite_t q hM
                    refine lv_aload_n C.1 C.2.1 dX11_doAct_456 rfl (lv_at hl 3 rfl) ?_
                    refine lv_iconst (v := 2) C.1 C.2.1 dX11_doAct_457 (by decide) ?_
                    obtain ⟨r_61, m_62, hc_61, hM⟩ := bd_some hM
                    refine h_callVv C h (As := [.int 2]) (rest := []) m_62 (c_X11_fails hc_61 tx0) 11 rfl (by decide) tx0 im_yX11_fails se_yX11_fails cy_X11_fails rfl ml_X11_386 ⟨by decide, by decide⟩ ⟨Nat.zero_le _, Nat.zero_le _⟩ hl.1 rfl (Nat.le_of_ble_eq_true rfl) dX11_doAct_458 (fun H locs h => ?_)
                    obtain ⟨rfl, rfl⟩ := so_inj hM
                    exact h_vret C h dX11_doAct_461
              · have hM := ite_f q6 hM
                by_cases q7 : (gI m b_26 x2.toNatClampNeg) = 8
                · have hM := ite_t q7 hM
                  refine h_tabIn q7 (tgt := 406) C.1 C.2.1 dX11_doAct_13 (by decide) (by decide) rfl (by decide) ?_
                  refine lv_aload_n C.1 C.2.1 dX11_doAct_406 rfl (lv_at hl 1 rfl) ?_
                  refine lv_dup C.1 C.2.1 dX11_doAct_407 rfl ?_
                  refine gt_11_70 C h tx0 fl_X11_368 dX11_doAct_408 ?_
                  refine lv_iconst (v := 1) C.1 C.2.1 dX11_doAct_411 (by decide) ?_
                  refine lv_isub C.1 C.2.1 dX11_doAct_412 ?_
                  refine pt_11_70 C h tx0 fl_X11_368 dX11_doAct_413 (fun H locs h => ?_)
                  refine lv_aload_n C.1 C.2.1 dX11_doAct_416 rfl (lv_at hl 1 rfl) ?_
                  refine gt_11_69 C h tx0 fl_X11_165 dX11_doAct_417 ?_
                  obtain ⟨b_63, hb_63, hM⟩ := nb_some hM
                  have tb_63 : Ty E G b_63 12 := (fun b hb => tyf h tx0 hb) _ hb_63
                  refine st_ref hb_63 ?_
                  refine lv_aload_n C.1 C.2.1 dX11_doAct_420 rfl (lv_at hl 1 rfl) ?_
                  refine gt_11_70 C h tx0 fl_X11_368 dX11_doAct_421 ?_
                  obtain ⟨hi, hM⟩ := ib_some hM
                  refine h_iald C h tb_63 hi dX11_doAct_424 ?_
                  refine lv_istore (lv' := [(7, .int (gI (sI m x0 70 ((gI m x0 70) - 1)) b_63 ((gI (sI m x0 70 ((gI m x0 70) - 1)) x0 70).toNatClampNeg))), (3, .int (gI m b_25 x1.toNatClampNeg)), (0, .ref x0), (1, .int x1), (2, .int x2)]) C.1 C.2.1 dX11_doAct_425 hl (by decide) rfl (fun ls hl => ?_)
                  refine lv_aload_n C.1 C.2.1 dX11_doAct_427 rfl (lv_at hl 2 rfl) ?_
                  refine gt_11_69 C h tx0 fl_X11_165 dX11_doAct_428 ?_
                  refine st_ref hb_63 ?_
                  refine lv_aload_n C.1 C.2.1 dX11_doAct_431 rfl (lv_at hl 2 rfl) ?_
                  refine gt_11_70 C h tx0 fl_X11_368 dX11_doAct_432 ?_
                  refine lv_iconst (v := 1) C.1 C.2.1 dX11_doAct_435 (by decide) ?_
                  refine lv_isub C.1 C.2.1 dX11_doAct_436 ?_
                  obtain ⟨hi, hM⟩ := ib_some hM
                  refine h_iald C h tb_63 hi dX11_doAct_437 ?_
                  refine lv_istore (lv' := [(8, .int (gI (sI m x0 70 ((gI m x0 70) - 1)) b_63 (((gI (sI m x0 70 ((gI m x0 70) - 1)) x0 70) - 1).toNatClampNeg))), (7, .int (gI (sI m x0 70 ((gI m x0 70) - 1)) b_63 ((gI (sI m x0 70 ((gI m x0 70) - 1)) x0 70).toNatClampNeg))), (3, .int (gI m b_25 x1.toNatClampNeg)), (0, .ref x0), (1, .int x1), (2, .int x2)]) C.1 C.2.1 dX11_doAct_438 hl (by decide) rfl (fun ls hl => ?_)
                  refine lv_aload_n C.1 C.2.1 dX11_doAct_440 rfl (lv_at hl 3 rfl) ?_
                  refine gt_11_34 C h tx0 fl_X11_100 dX11_doAct_441 ?_
                  obtain ⟨b_64, hb_64, hM⟩ := nb_some hM
                  have tb_64 : Ty E G b_64 12 := (fun b hb => tyf h tx0 hb) _ hb_64
                  refine st_ref hb_64 ?_
                  refine lv_iload_n C.1 C.2.1 dX11_doAct_444 rfl (lv_at hl 5 rfl) ?_
                  obtain ⟨hi, hM⟩ := ib_some hM
                  refine h_iald C h tb_64 hi dX11_doAct_445 ?_
                  refine lv_bipush (v := 10) C.1 C.2.1 dX11_doAct_446 (by decide) ?_
                  refine lv_icmp_ne (tgt := 462) C.1 C.2.1 dX11_doAct_448 (by decide) (fun q => ?_) (fun q => ?_)
                  · have hM := ite_f q hM
                    exact cB_X11_doAct_462 C hM tx0 _ _ h ls (lv_sub hl [3, 4, 5, 1, 0] rfl)
                  · have hM := ite_t q hM
                    refine lv_iload C.1 C.2.1 dX11_doAct_451 (lv_at hl 1 rfl) ?_
                    refine lv_if_ne (tgt := 462) C.1 C.2.1 dX11_doAct_453 (by decide) (fun q => ?_) (fun q => ?_)
                    · have hM := ite_f q hM
                      exact cB_X11_doAct_462 C hM tx0 _ _ h ls (lv_sub hl [3, 4, 5, 1, 0] rfl)
                    · have hM := ite_t q hM
                      refine lv_aload_n C.1 C.2.1 dX11_doAct_456 rfl (lv_at hl 3 rfl) ?_
                      refine lv_iconst (v := 2) C.1 C.2.1 dX11_doAct_457 (by decide) ?_
                      obtain ⟨r_65, m_66, hc_65, hM⟩ := bd_some hM
                      refine h_callVv C h (As := [.int 2]) (rest := []) m_66 (c_X11_fails hc_65 tx0) 11 rfl (by decide) tx0 im_yX11_fails se_yX11_fails cy_X11_fails rfl ml_X11_386 ⟨by decide, by decide⟩ ⟨Nat.zero_le _, Nat.zero_le _⟩ hl.1 rfl (Nat.le_of_ble_eq_true rfl) dX11_doAct_458 (fun H locs h => ?_)
                      obtain ⟨rfl, rfl⟩ := so_inj hM
                      exact h_vret C h dX11_doAct_461
                · have hM := ite_f q7 hM
                  by_cases q8 : (gI m b_26 x2.toNatClampNeg) = 9
                  · have hM := ite_t q8 hM
                    refine h_tabIn q8 (tgt := 406) C.1 C.2.1 dX11_doAct_13 (by decide) (by decide) rfl (by decide) ?_
                    refine lv_aload_n C.1 C.2.1 dX11_doAct_406 rfl (lv_at hl 1 rfl) ?_
                    refine lv_dup C.1 C.2.1 dX11_doAct_407 rfl ?_
                    refine gt_11_70 C h tx0 fl_X11_368 dX11_doAct_408 ?_
                    refine lv_iconst (v := 1) C.1 C.2.1 dX11_doAct_411 (by decide) ?_
                    refine lv_isub C.1 C.2.1 dX11_doAct_412 ?_
                    refine pt_11_70 C h tx0 fl_X11_368 dX11_doAct_413 (fun H locs h => ?_)
                    refine lv_aload_n C.1 C.2.1 dX11_doAct_416 rfl (lv_at hl 1 rfl) ?_
                    refine gt_11_69 C h tx0 fl_X11_165 dX11_doAct_417 ?_
                    obtain ⟨b_67, hb_67, hM⟩ := nb_some hM
                    have tb_67 : Ty E G b_67 12 := (fun b hb => tyf h tx0 hb) _ hb_67
                    refine st_ref hb_67 ?_
                    refine lv_aload_n C.1 C.2.1 dX11_doAct_420 rfl (lv_at hl 1 rfl) ?_
                    refine gt_11_70 C h tx0 fl_X11_368 dX11_doAct_421 ?_
                    obtain ⟨hi, hM⟩ := ib_some hM
                    refine h_iald C h tb_67 hi dX11_doAct_424 ?_
                    refine lv_istore (lv' := [(7, .int (gI (sI m x0 70 ((gI m x0 70) - 1)) b_67 ((gI (sI m x0 70 ((gI m x0 70) - 1)) x0 70).toNatClampNeg))), (3, .int (gI m b_25 x1.toNatClampNeg)), (0, .ref x0), (1, .int x1), (2, .int x2)]) C.1 C.2.1 dX11_doAct_425 hl (by decide) rfl (fun ls hl => ?_)
                    refine lv_aload_n C.1 C.2.1 dX11_doAct_427 rfl (lv_at hl 2 rfl) ?_
                    refine gt_11_69 C h tx0 fl_X11_165 dX11_doAct_428 ?_
                    refine st_ref hb_67 ?_
                    refine lv_aload_n C.1 C.2.1 dX11_doAct_431 rfl (lv_at hl 2 rfl) ?_
                    refine gt_11_70 C h tx0 fl_X11_368 dX11_doAct_432 ?_
                    refine lv_iconst (v := 1) C.1 C.2.1 dX11_doAct_435 (by decide) ?_
                    refine lv_isub C.1 C.2.1 dX11_doAct_436 ?_
                    obtain ⟨hi, hM⟩ := ib_some hM
                    refine h_iald C h tb_67 hi dX11_doAct_437 ?_
                    refine lv_istore (lv' := [(8, .int (gI (sI m x0 70 ((gI m x0 70) - 1)) b_67 (((gI (sI m x0 70 ((gI m x0 70) - 1)) x0 70) - 1).toNatClampNeg))), (7, .int (gI (sI m x0 70 ((gI m x0 70) - 1)) b_67 ((gI (sI m x0 70 ((gI m x0 70) - 1)) x0 70).toNatClampNeg))), (3, .int (gI m b_25 x1.toNatClampNeg)), (0, .ref x0), (1, .int x1), (2, .int x2)]) C.1 C.2.1 dX11_doAct_438 hl (by decide) rfl (fun ls hl => ?_)
                    refine lv_aload_n C.1 C.2.1 dX11_doAct_440 rfl (lv_at hl 3 rfl) ?_
                    refine gt_11_34 C h tx0 fl_X11_100 dX11_doAct_441 ?_
                    obtain ⟨b_68, hb_68, hM⟩ := nb_some hM
                    have tb_68 : Ty E G b_68 12 := (fun b hb => tyf h tx0 hb) _ hb_68
                    refine st_ref hb_68 ?_
                    refine lv_iload_n C.1 C.2.1 dX11_doAct_444 rfl (lv_at hl 5 rfl) ?_
                    obtain ⟨hi, hM⟩ := ib_some hM
                    refine h_iald C h tb_68 hi dX11_doAct_445 ?_
                    refine lv_bipush (v := 10) C.1 C.2.1 dX11_doAct_446 (by decide) ?_
                    refine lv_icmp_ne (tgt := 462) C.1 C.2.1 dX11_doAct_448 (by decide) (fun q => ?_) (fun q => ?_)
                    · have hM := ite_f q hM
                      exact cB_X11_doAct_462 C hM tx0 _ _ h ls (lv_sub hl [3, 4, 5, 1, 0] rfl)
                    · have hM := ite_t q hM
                      refine lv_iload C.1 C.2.1 dX11_doAct_451 (lv_at hl 1 rfl) ?_
                      refine lv_if_ne (tgt := 462) C.1 C.2.1 dX11_doAct_453 (by decide) (fun q => ?_) (fun q => ?_)
                      · have hM := ite_f q hM
                        exact cB_X11_doAct_462 C hM tx0 _ _ h ls (lv_sub hl [3, 4, 5, 1, 0] rfl)
                      · have hM := ite_t q hM
                        refine lv_aload_n C.1 C.2.1 dX11_doAct_456 rfl (lv_at hl 3 rfl) ?_
                        refine lv_iconst (v := 2) C.1 C.2.1 dX11_doAct_457 (by decide) ?_
                        obtain ⟨r_69, m_70, hc_69, hM⟩ := bd_some hM
                        refine h_callVv C h (As := [.int 2]) (rest := []) m_70 (c_X11_fails hc_69 tx0) 11 rfl (by decide) tx0 im_yX11_fails se_yX11_fails cy_X11_fails rfl ml_X11_386 ⟨by decide, by decide⟩ ⟨Nat.zero_le _, Nat.zero_le _⟩ hl.1 rfl (Nat.le_of_ble_eq_true rfl) dX11_doAct_458 (fun H locs h => ?_)
                        obtain ⟨rfl, rfl⟩ := so_inj hM
                        exact h_vret C h dX11_doAct_461
                  · have hM := ite_f q8 hM
                    by_cases q9 : (gI m b_26 x2.toNatClampNeg) = 10
                    · have hM := ite_t q9 hM
                      refine h_tabIn q9 (tgt := 406) C.1 C.2.1 dX11_doAct_13 (by decide) (by decide) rfl (by decide) ?_
                      refine lv_aload_n C.1 C.2.1 dX11_doAct_406 rfl (lv_at hl 1 rfl) ?_
                      refine lv_dup C.1 C.2.1 dX11_doAct_407 rfl ?_
                      refine gt_11_70 C h tx0 fl_X11_368 dX11_doAct_408 ?_
                      refine lv_iconst (v := 1) C.1 C.2.1 dX11_doAct_411 (by decide) ?_
                      refine lv_isub C.1 C.2.1 dX11_doAct_412 ?_
                      refine pt_11_70 C h tx0 fl_X11_368 dX11_doAct_413 (fun H locs h => ?_)
                      refine lv_aload_n C.1 C.2.1 dX11_doAct_416 rfl (lv_at hl 1 rfl) ?_
                      refine gt_11_69 C h tx0 fl_X11_165 dX11_doAct_417 ?_
                      obtain ⟨b_71, hb_71, hM⟩ := nb_some hM
                      have tb_71 : Ty E G b_71 12 := (fun b hb => tyf h tx0 hb) _ hb_71
                      refine st_ref hb_71 ?_
                      refine lv_aload_n C.1 C.2.1 dX11_doAct_420 rfl (lv_at hl 1 rfl) ?_
                      refine gt_11_70 C h tx0 fl_X11_368 dX11_doAct_421 ?_
                      obtain ⟨hi, hM⟩ := ib_some hM
                      refine h_iald C h tb_71 hi dX11_doAct_424 ?_
                      refine lv_istore (lv' := [(7, .int (gI (sI m x0 70 ((gI m x0 70) - 1)) b_71 ((gI (sI m x0 70 ((gI m x0 70) - 1)) x0 70).toNatClampNeg))), (3, .int (gI m b_25 x1.toNatClampNeg)), (0, .ref x0), (1, .int x1), (2, .int x2)]) C.1 C.2.1 dX11_doAct_425 hl (by decide) rfl (fun ls hl => ?_)
                      refine lv_aload_n C.1 C.2.1 dX11_doAct_427 rfl (lv_at hl 2 rfl) ?_
                      refine gt_11_69 C h tx0 fl_X11_165 dX11_doAct_428 ?_
                      refine st_ref hb_71 ?_
                      refine lv_aload_n C.1 C.2.1 dX11_doAct_431 rfl (lv_at hl 2 rfl) ?_
                      refine gt_11_70 C h tx0 fl_X11_368 dX11_doAct_432 ?_
                      refine lv_iconst (v := 1) C.1 C.2.1 dX11_doAct_435 (by decide) ?_
                      refine lv_isub C.1 C.2.1 dX11_doAct_436 ?_
                      obtain ⟨hi, hM⟩ := ib_some hM
                      refine h_iald C h tb_71 hi dX11_doAct_437 ?_
                      refine lv_istore (lv' := [(8, .int (gI (sI m x0 70 ((gI m x0 70) - 1)) b_71 (((gI (sI m x0 70 ((gI m x0 70) - 1)) x0 70) - 1).toNatClampNeg))), (7, .int (gI (sI m x0 70 ((gI m x0 70) - 1)) b_71 ((gI (sI m x0 70 ((gI m x0 70) - 1)) x0 70).toNatClampNeg))), (3, .int (gI m b_25 x1.toNatClampNeg)), (0, .ref x0), (1, .int x1), (2, .int x2)]) C.1 C.2.1 dX11_doAct_438 hl (by decide) rfl (fun ls hl => ?_)
                      refine lv_aload_n C.1 C.2.1 dX11_doAct_440 rfl (lv_at hl 3 rfl) ?_
                      refine gt_11_34 C h tx0 fl_X11_100 dX11_doAct_441 ?_
                      obtain ⟨b_72, hb_72, hM⟩ := nb_some hM
                      have tb_72 : Ty E G b_72 12 := (fun b hb => tyf h tx0 hb) _ hb_72
                      refine st_ref hb_72 ?_
                      refine lv_iload_n C.1 C.2.1 dX11_doAct_444 rfl (lv_at hl 5 rfl) ?_
                      obtain ⟨hi, hM⟩ := ib_some hM
                      refine h_iald C h tb_72 hi dX11_doAct_445 ?_
                      refine lv_bipush (v := 10) C.1 C.2.1 dX11_doAct_446 (by decide) ?_
                      refine lv_icmp_ne (tgt := 462) C.1 C.2.1 dX11_doAct_448 (by decide) (fun q => ?_) (fun q => ?_)
                      · have hM := ite_f q hM
                        exact cB_X11_doAct_462 C hM tx0 _ _ h ls (lv_sub hl [3, 4, 5, 1, 0] rfl)
                      · have hM := ite_t q hM
                        refine lv_iload C.1 C.2.1 dX11_doAct_451 (lv_at hl 1 rfl) ?_
                        refine lv_if_ne (tgt := 462) C.1 C.2.1 dX11_doAct_453 (by decide) (fun q => ?_) (fun q => ?_)
                        · have hM := ite_f q hM
                          exact cB_X11_doAct_462 C hM tx0 _ _ h ls (lv_sub hl [3, 4, 5, 1, 0] rfl)
                        · have hM := ite_t q hM
                          refine lv_aload_n C.1 C.2.1 dX11_doAct_456 rfl (lv_at hl 3 rfl) ?_
                          refine lv_iconst (v := 2) C.1 C.2.1 dX11_doAct_457 (by decide) ?_
                          obtain ⟨r_73, m_74, hc_73, hM⟩ := bd_some hM
                          refine h_callVv C h (As := [.int 2]) (rest := []) m_74 (c_X11_fails hc_73 tx0) 11 rfl (by decide) tx0 im_yX11_fails se_yX11_fails cy_X11_fails rfl ml_X11_386 ⟨by decide, by decide⟩ ⟨Nat.zero_le _, Nat.zero_le _⟩ hl.1 rfl (Nat.le_of_ble_eq_true rfl) dX11_doAct_458 (fun H locs h => ?_)
                          obtain ⟨rfl, rfl⟩ := so_inj hM
                          exact h_vret C h dX11_doAct_461
                    · have hM := ite_f q9 hM
                      by_cases q10 : (gI m b_26 x2.toNatClampNeg) = 11
                      · have hM := ite_t q10 hM
                        refine h_tabIn q10 (tgt := 380) C.1 C.2.1 dX11_doAct_13 (by decide) (by decide) rfl (by decide) ?_
                        refine lv_aload_n C.1 C.2.1 dX11_doAct_380 rfl (lv_at hl 1 rfl) ?_
                        refine gt_11_69 C h tx0 fl_X11_165 dX11_doAct_381 ?_
                        obtain ⟨b_75, hb_75, hM⟩ := nb_some hM
                        have tb_75 : Ty E G b_75 12 := (fun b hb => tyf h tx0 hb) _ hb_75
                        refine st_ref hb_75 ?_
                        refine lv_aload_n C.1 C.2.1 dX11_doAct_384 rfl (lv_at hl 1 rfl) ?_
                        refine gt_11_70 C h tx0 fl_X11_368 dX11_doAct_385 ?_
                        refine lv_iconst (v := 1) C.1 C.2.1 dX11_doAct_388 (by decide) ?_
                        refine lv_isub C.1 C.2.1 dX11_doAct_389 ?_
                        refine lv_aload_n C.1 C.2.1 dX11_doAct_390 rfl (lv_at hl 1 rfl) ?_
                        refine gt_11_69 C h tx0 fl_X11_165 dX11_doAct_391 ?_
                        refine st_ref hb_75 ?_
                        refine lv_aload_n C.1 C.2.1 dX11_doAct_394 rfl (lv_at hl 1 rfl) ?_
                        refine gt_11_70 C h tx0 fl_X11_368 dX11_doAct_395 ?_
                        refine lv_iconst (v := 1) C.1 C.2.1 dX11_doAct_398 (by decide) ?_
                        refine lv_isub C.1 C.2.1 dX11_doAct_399 ?_
                        obtain ⟨hi, hM⟩ := ib_some hM
                        refine h_iald C h tb_75 hi dX11_doAct_400 ?_
                        refine lv_ineg C.1 C.2.1 dX11_doAct_401 ?_
                        obtain ⟨hi, hM⟩ := ib_some hM
                        refine h_iast C h tb_75 hi dX11_doAct_402 (fun H locs h => ?_)
                        refine lv_goto (tgt := 535) C.1 C.2.1 dX11_doAct_403 (by decide) ?_
                        refine lv_aload_n C.1 C.2.1 dX11_doAct_535 rfl (lv_at hl 1 rfl) ?_
                        refine gt_11_67 C h tx0 fl_X11_159 dX11_doAct_536 ?_
                        obtain ⟨b_76, hb_76, hM⟩ := nb_some hM
                        have tb_76 : Ty E G b_76 12 := (fun b hb => tyf h tx0 hb) _ hb_76
                        refine st_ref hb_76 ?_
                        refine lv_iload_n C.1 C.2.1 dX11_doAct_539 rfl (lv_at hl 2 rfl) ?_
                        refine lv_dup2_11 C.1 C.2.1 dX11_doAct_540 rfl rfl ?_
                        obtain ⟨hi, hM⟩ := ib_some hM
                        refine h_iald C h tb_76 hi dX11_doAct_541 ?_
                        refine lv_iconst (v := 1) C.1 C.2.1 dX11_doAct_542 (by decide) ?_
                        refine lv_iadd C.1 C.2.1 dX11_doAct_543 ?_
                        obtain ⟨hi, hM⟩ := ib_some hM
                        refine h_iast C h tb_76 hi dX11_doAct_544 (fun H locs h => ?_)
                        obtain ⟨rfl, rfl⟩ := so_inj hM
                        exact h_vret C h dX11_doAct_545
                      · have hM := ite_f q10 hM
                        refine h_tabOut (tgt := 406) (lo := 1) (n := 11) C.1 C.2.1 dX11_doAct_13 (by decide) (by decide) (by decide) (fun k hk => ?_) ?_
                        · match k, hk with
                          | 0, _ => exact q0
                          | 1, _ => exact q1
                          | 2, _ => exact q2
                          | 3, _ => exact q3
                          | 4, _ => exact q4
                          | 5, _ => exact q5
                          | 6, _ => exact q6
                          | 7, _ => exact q7
                          | 8, _ => exact q8
                          | 9, _ => exact q9
                          | 10, _ => exact q10
                          | k + 11, hk => exact absurd hk (by omega)
                        · refine lv_aload_n C.1 C.2.1 dX11_doAct_406 rfl (lv_at hl 1 rfl) ?_
                          refine lv_dup C.1 C.2.1 dX11_doAct_407 rfl ?_
                          refine gt_11_70 C h tx0 fl_X11_368 dX11_doAct_408 ?_
                          refine lv_iconst (v := 1) C.1 C.2.1 dX11_doAct_411 (by decide) ?_
                          refine lv_isub C.1 C.2.1 dX11_doAct_412 ?_
                          refine pt_11_70 C h tx0 fl_X11_368 dX11_doAct_413 (fun H locs h => ?_)
                          refine lv_aload_n C.1 C.2.1 dX11_doAct_416 rfl (lv_at hl 1 rfl) ?_
                          refine gt_11_69 C h tx0 fl_X11_165 dX11_doAct_417 ?_
                          obtain ⟨b_77, hb_77, hM⟩ := nb_some hM
                          have tb_77 : Ty E G b_77 12 := (fun b hb => tyf h tx0 hb) _ hb_77
                          refine st_ref hb_77 ?_
                          refine lv_aload_n C.1 C.2.1 dX11_doAct_420 rfl (lv_at hl 1 rfl) ?_
                          refine gt_11_70 C h tx0 fl_X11_368 dX11_doAct_421 ?_
                          obtain ⟨hi, hM⟩ := ib_some hM
                          refine h_iald C h tb_77 hi dX11_doAct_424 ?_
                          refine lv_istore (lv' := [(7, .int (gI (sI m x0 70 ((gI m x0 70) - 1)) b_77 ((gI (sI m x0 70 ((gI m x0 70) - 1)) x0 70).toNatClampNeg))), (3, .int (gI m b_25 x1.toNatClampNeg)), (0, .ref x0), (1, .int x1), (2, .int x2)]) C.1 C.2.1 dX11_doAct_425 hl (by decide) rfl (fun ls hl => ?_)
                          refine lv_aload_n C.1 C.2.1 dX11_doAct_427 rfl (lv_at hl 2 rfl) ?_
                          refine gt_11_69 C h tx0 fl_X11_165 dX11_doAct_428 ?_
                          refine st_ref hb_77 ?_
                          refine lv_aload_n C.1 C.2.1 dX11_doAct_431 rfl (lv_at hl 2 rfl) ?_
                          refine gt_11_70 C h tx0 fl_X11_368 dX11_doAct_432 ?_
                          refine lv_iconst (v := 1) C.1 C.2.1 dX11_doAct_435 (by decide) ?_
                          refine lv_isub C.1 C.2.1 dX11_doAct_436 ?_
                          obtain ⟨hi, hM⟩ := ib_some hM
                          refine h_iald C h tb_77 hi dX11_doAct_437 ?_
                          refine lv_istore (lv' := [(8, .int (gI (sI m x0 70 ((gI m x0 70) - 1)) b_77 (((gI (sI m x0 70 ((gI m x0 70) - 1)) x0 70) - 1).toNatClampNeg))), (7, .int (gI (sI m x0 70 ((gI m x0 70) - 1)) b_77 ((gI (sI m x0 70 ((gI m x0 70) - 1)) x0 70).toNatClampNeg))), (3, .int (gI m b_25 x1.toNatClampNeg)), (0, .ref x0), (1, .int x1), (2, .int x2)]) C.1 C.2.1 dX11_doAct_438 hl (by decide) rfl (fun ls hl => ?_)
                          refine lv_aload_n C.1 C.2.1 dX11_doAct_440 rfl (lv_at hl 3 rfl) ?_
                          refine gt_11_34 C h tx0 fl_X11_100 dX11_doAct_441 ?_
                          obtain ⟨b_78, hb_78, hM⟩ := nb_some hM
                          have tb_78 : Ty E G b_78 12 := (fun b hb => tyf h tx0 hb) _ hb_78
                          refine st_ref hb_78 ?_
                          refine lv_iload_n C.1 C.2.1 dX11_doAct_444 rfl (lv_at hl 5 rfl) ?_
                          obtain ⟨hi, hM⟩ := ib_some hM
                          refine h_iald C h tb_78 hi dX11_doAct_445 ?_
                          refine lv_bipush (v := 10) C.1 C.2.1 dX11_doAct_446 (by decide) ?_
                          refine lv_icmp_ne (tgt := 462) C.1 C.2.1 dX11_doAct_448 (by decide) (fun q => ?_) (fun q => ?_)
                          · have hM := ite_f q hM
                            exact cB_X11_doAct_462 C hM tx0 _ _ h ls (lv_sub hl [3, 4, 5, 1, 0] rfl)
                          · have hM := ite_t q hM
                            refine lv_iload C.1 C.2.1 dX11_doAct_451 (lv_at hl 1 rfl) ?_
                            refine lv_if_ne (tgt := 462) C.1 C.2.1 dX11_doAct_453 (by decide) (fun q => ?_) (fun q => ?_)
                            · have hM := ite_f q hM
                              exact cB_X11_doAct_462 C hM tx0 _ _ h ls (lv_sub hl [3, 4, 5, 1, 0] rfl)
                            · have hM := ite_t q hM
                              refine lv_aload_n C.1 C.2.1 dX11_doAct_456 rfl (lv_at hl 3 rfl) ?_
                              refine lv_iconst (v := 2) C.1 C.2.1 dX11_doAct_457 (by decide) ?_
                              obtain ⟨r_79, m_80, hc_79, hM⟩ := bd_some hM
                              refine h_callVv C h (As := [.int 2]) (rest := []) m_80 (c_X11_fails hc_79 tx0) 11 rfl (by decide) tx0 im_yX11_fails se_yX11_fails cy_X11_fails rfl ml_X11_386 ⟨by decide, by decide⟩ ⟨Nat.zero_le _, Nat.zero_le _⟩ hl.1 rfl (Nat.le_of_ble_eq_true rfl) dX11_doAct_458 (fun H locs h => ?_)
                              obtain ⟨rfl, rfl⟩ := so_inj hM
                              exact h_vret C h dX11_doAct_461
theorem cy_X11_doAct : Cy yX11_doAct cX11_doAct 9 none 2 := ⟨cd_yX11_doAct, ii_X11, by decide, by decide, by decide +kernel⟩
set_option maxRecDepth 100000 in
theorem c_X11_doAct {l : Launch} {E : EE} {G : GG} {x0 : Nat} {x1 : Int32} {x2 : Int32} {m m9 : MM} {r9 : Unit} (hM : M_X11_doAct G x0 x1 x2 m = some (r9, m9)) (tx0 : Ty E G x0 11) : Mc l E yX11_doAct cX11_doAct 9 none rmX11_doAct [.ref x0, .int x1, .int x2] G m (cQv E G m9) := M_of (by decide) (Nat.le_of_ble_eq_true rfl) (fun p e s mth below meth c C h ls hl => cM_X11_doAct C hM tx0 _ _ h ls hl)
abbrev rmX11_work : Room := { frames := 3, cells := 0, slots := 0, locals := 73 }
def B_X11_work_0 (G : GG) : Nat → Nat → MM → Option (Unit × MM)
  | 0, _, _ => none
  | fu + 1, x0, m =>
    if (gI m x0 64) ≤ 0 then
      some ((), m)
    else
      nb (gR m x0 67) fun b_1 =>
        ib ((gI m x0 64) - 1) (G.2.2 b_1) <|
          if 0 ≤ (gI m b_1 (((gI m x0 64) - 1).toNatClampNeg)) then
            ib ((gI m x0 64) - 1) (G.2.2 b_1) <|
              nb (gR m x0 68) fun b_2 =>
                ib ((gI m x0 64) - 1) (G.2.2 b_2) <|
                  if (gI m b_2 (((gI m x0 64) - 1).toNatClampNeg)) ≤ (gI m b_1 (((gI m x0 64) - 1).toNatClampNeg)) then
                    if (gI (sI m x0 64 ((gI m x0 64) - 1)) x0 64) ≤ 0 then
                      B_X11_work_0 G fu x0 (sI m x0 64 ((gI m x0 64) - 1))
                    else
                      nb (gR (sI (sI m x0 64 ((gI m x0 64) - 1)) x0 70 ((gI (sI m x0 64 ((gI m x0 64) - 1)) x0 70) - 1)) x0 65) fun b_3 =>
                        ib ((gI (sI (sI m x0 64 ((gI m x0 64) - 1)) x0 70 ((gI (sI m x0 64 ((gI m x0 64) - 1)) x0 70) - 1)) x0 64) - 1) (G.2.2 b_3) <|
                          nb (gR (sI (sI m x0 64 ((gI m x0 64) - 1)) x0 70 ((gI (sI m x0 64 ((gI m x0 64) - 1)) x0 70) - 1)) x0 69) fun b_4 =>
                            ib (gI (sI (sI m x0 64 ((gI m x0 64) - 1)) x0 70 ((gI (sI m x0 64 ((gI m x0 64) - 1)) x0 70) - 1)) x0 70) (G.2.2 b_4) <|
                              bd (M_X11_made G x0 (gI (sI (sI m x0 64 ((gI m x0 64) - 1)) x0 70 ((gI (sI m x0 64 ((gI m x0 64) - 1)) x0 70) - 1)) b_3 (((gI (sI (sI m x0 64 ((gI m x0 64) - 1)) x0 70 ((gI (sI m x0 64 ((gI m x0 64) - 1)) x0 70) - 1)) x0 64) - 1).toNatClampNeg)) (gI (sI (sI m x0 64 ((gI m x0 64) - 1)) x0 70 ((gI (sI m x0 64 ((gI m x0 64) - 1)) x0 70) - 1)) b_4 ((gI (sI (sI m x0 64 ((gI m x0 64) - 1)) x0 70 ((gI (sI m x0 64 ((gI m x0 64) - 1)) x0 70) - 1)) x0 70).toNatClampNeg)) (sI (sI m x0 64 ((gI m x0 64) - 1)) x0 70 ((gI (sI m x0 64 ((gI m x0 64) - 1)) x0 70) - 1))) fun _ m_6 =>
                                B_X11_work_0 G fu x0 m_6
                  else
                    ib ((gI m x0 64) - 1) (G.2.2 b_1) <|
                      bd (M_X11_doAct G x0 ((gI m x0 64) - 1) ((2100 * (gI m x0 3)) + (gI m b_1 (((gI m x0 64) - 1).toNatClampNeg))) m) fun _ m_8 =>
                        B_X11_work_0 G fu x0 m_8
          else
            nb (gR m x0 65) fun b_9 =>
              ib ((gI m x0 64) - 1) (G.2.2 b_9) <|
                bd (M_X11_goOn G x0 (gI m b_9 (((gI m x0 64) - 1).toNatClampNeg)) m) fun _ m_11 =>
                  B_X11_work_0 G fu x0 m_11
set_option maxRecDepth 100000 in
set_option maxHeartbeats 4000000 in
theorem cB_X11_work_0 {p : Program} {l : Launch} {e : Env} {s : State} {mth : MethodId} {args : Array Value} {below : List Frame} {meth : Method} {c : Code} {E : EE} {G : GG} {r9 : Unit} {m9 : MM} (C : Cx E G p s mth args meth c cX11_work RX11 "work" 2 none) : ∀ (fu : Nat) (x0 : Nat) (m : MM), B_X11_work_0 G fu x0 m = some (r9, m9) → (Ty E G x0 11) → ∀ (H : Heap) (locs : List Loc), Hp E G m s H locs → ∀ ls : Array Slot, lv_has ls 2 [(0, .ref x0)] → W p l e rmX11_work s mth args below meth c H locs 0 0 (MQ below (cQv E G m9) args s 0 0 (fun q => E.2.2.1 ≤ q)) (F0 mth 0 ls []) := by
  intro fu
  induction fu with
  | zero =>
    intro x0 m hM
    rw [B_X11_work_0] at hM
    cases hM
  | succ fu ih =>
    intro x0 m hM tx0 H locs h ls hl
    rw [B_X11_work_0] at hM
    refine lv_aload_n C.1 C.2.1 dX11_work_0 rfl (lv_at hl 0 rfl) ?_
    refine gt_11_64 C h tx0 fl_X11_352 dX11_work_1 ?_
    refine lv_if_le (tgt := 128) C.1 C.2.1 dX11_work_4 (by decide) (fun q => ?_) (fun q => ?_)
    · have hM := ite_t q hM
      obtain ⟨rfl, rfl⟩ := so_inj hM
      exact h_vret C h dX11_work_128
    · have hM := ite_f q hM
      refine lv_aload_n C.1 C.2.1 dX11_work_7 rfl (lv_at hl 0 rfl) ?_
      refine gt_11_64 C h tx0 fl_X11_352 dX11_work_8 ?_
      refine lv_iconst (v := 1) C.1 C.2.1 dX11_work_11 (by decide) ?_
      refine lv_isub C.1 C.2.1 dX11_work_12 ?_
      refine lv_istore_n (lv' := [(1, .int ((gI m x0 64) - 1)), (0, .ref x0)]) C.1 C.2.1 dX11_work_13 rfl hl (by decide) rfl (fun ls hl => ?_)
      refine lv_aload_n C.1 C.2.1 dX11_work_14 rfl (lv_at hl 1 rfl) ?_
      refine gt_11_67 C h tx0 fl_X11_159 dX11_work_15 ?_
      obtain ⟨b_1, hb_1, hM⟩ := nb_some hM
      have tb_1 : Ty E G b_1 12 := (fun b hb => tyf h tx0 hb) _ hb_1
      refine st_ref hb_1 ?_
      refine lv_iload_n C.1 C.2.1 dX11_work_18 rfl (lv_at hl 0 rfl) ?_
      obtain ⟨hi, hM⟩ := ib_some hM
      refine h_iald C h tb_1 hi dX11_work_19 ?_
      refine lv_if_ge (tgt := 36) C.1 C.2.1 dX11_work_20 (by decide) (fun q => ?_) (fun q => ?_)
      · have hM := ite_t q hM
        refine lv_aload_n C.1 C.2.1 dX11_work_36 rfl (lv_at hl 1 rfl) ?_
        refine gt_11_67 C h tx0 fl_X11_159 dX11_work_37 ?_
        refine st_ref hb_1 ?_
        refine lv_iload_n C.1 C.2.1 dX11_work_40 rfl (lv_at hl 0 rfl) ?_
        obtain ⟨hi, hM⟩ := ib_some hM
        refine h_iald C h tb_1 hi dX11_work_41 ?_
        refine lv_aload_n C.1 C.2.1 dX11_work_42 rfl (lv_at hl 1 rfl) ?_
        refine gt_11_68 C h tx0 fl_X11_162 dX11_work_43 ?_
        obtain ⟨b_2, hb_2, hM⟩ := nb_some hM
        have tb_2 : Ty E G b_2 12 := (fun b hb => tyf h tx0 hb) _ hb_2
        refine st_ref hb_2 ?_
        refine lv_iload_n C.1 C.2.1 dX11_work_46 rfl (lv_at hl 0 rfl) ?_
        obtain ⟨hi, hM⟩ := ib_some hM
        refine h_iald C h tb_2 hi dX11_work_47 ?_
        refine lv_icmp_ge (tgt := 74) C.1 C.2.1 dX11_work_48 (by decide) (fun q => ?_) (fun q => ?_)
        · have hM := ite_t q hM
          refine lv_aload_n C.1 C.2.1 dX11_work_74 rfl (lv_at hl 1 rfl) ?_
          refine lv_dup C.1 C.2.1 dX11_work_75 rfl ?_
          refine gt_11_64 C h tx0 fl_X11_352 dX11_work_76 ?_
          refine lv_iconst (v := 1) C.1 C.2.1 dX11_work_79 (by decide) ?_
          refine lv_isub C.1 C.2.1 dX11_work_80 ?_
          refine pt_11_64 C h tx0 fl_X11_352 dX11_work_81 (fun H locs h => ?_)
          refine lv_aload_n C.1 C.2.1 dX11_work_84 rfl (lv_at hl 1 rfl) ?_
          refine gt_11_64 C h tx0 fl_X11_352 dX11_work_85 ?_
          refine lv_if_le (tgt := 125) C.1 C.2.1 dX11_work_88 (by decide) (fun q => ?_) (fun q => ?_)
          · have hM := ite_t q hM
            refine lv_goto (tgt := 0) C.1 C.2.1 dX11_work_125 (by decide) ?_
            exact ih _ _ hM tx0 _ _ h ls (lv_sub hl [1] rfl)
          · have hM := ite_f q hM
            refine lv_aload_n C.1 C.2.1 dX11_work_91 rfl (lv_at hl 1 rfl) ?_
            refine lv_dup C.1 C.2.1 dX11_work_92 rfl ?_
            refine gt_11_70 C h tx0 fl_X11_368 dX11_work_93 ?_
            refine lv_iconst (v := 1) C.1 C.2.1 dX11_work_96 (by decide) ?_
            refine lv_isub C.1 C.2.1 dX11_work_97 ?_
            refine pt_11_70 C h tx0 fl_X11_368 dX11_work_98 (fun H locs h => ?_)
            refine lv_aload_n C.1 C.2.1 dX11_work_101 rfl (lv_at hl 1 rfl) ?_
            refine lv_aload_n C.1 C.2.1 dX11_work_102 rfl (lv_at hl 1 rfl) ?_
            refine gt_11_65 C h tx0 fl_X11_153 dX11_work_103 ?_
            obtain ⟨b_3, hb_3, hM⟩ := nb_some hM
            have tb_3 : Ty E G b_3 12 := (fun b hb => tyf h tx0 hb) _ hb_3
            refine st_ref hb_3 ?_
            refine lv_aload_n C.1 C.2.1 dX11_work_106 rfl (lv_at hl 1 rfl) ?_
            refine gt_11_64 C h tx0 fl_X11_352 dX11_work_107 ?_
            refine lv_iconst (v := 1) C.1 C.2.1 dX11_work_110 (by decide) ?_
            refine lv_isub C.1 C.2.1 dX11_work_111 ?_
            obtain ⟨hi, hM⟩ := ib_some hM
            refine h_iald C h tb_3 hi dX11_work_112 ?_
            refine lv_aload_n C.1 C.2.1 dX11_work_113 rfl (lv_at hl 1 rfl) ?_
            refine gt_11_69 C h tx0 fl_X11_165 dX11_work_114 ?_
            obtain ⟨b_4, hb_4, hM⟩ := nb_some hM
            have tb_4 : Ty E G b_4 12 := (fun b hb => tyf h tx0 hb) _ hb_4
            refine st_ref hb_4 ?_
            refine lv_aload_n C.1 C.2.1 dX11_work_117 rfl (lv_at hl 1 rfl) ?_
            refine gt_11_70 C h tx0 fl_X11_368 dX11_work_118 ?_
            obtain ⟨hi, hM⟩ := ib_some hM
            refine h_iald C h tb_4 hi dX11_work_121 ?_
            obtain ⟨r_5, m_6, hc_5, hM⟩ := bd_some hM
            refine h_callVv C h (As := [.int (gI (sI (sI m x0 64 ((gI m x0 64) - 1)) x0 70 ((gI (sI m x0 64 ((gI m x0 64) - 1)) x0 70) - 1)) b_3 (((gI (sI (sI m x0 64 ((gI m x0 64) - 1)) x0 70 ((gI (sI m x0 64 ((gI m x0 64) - 1)) x0 70) - 1)) x0 64) - 1).toNatClampNeg)), .int (gI (sI (sI m x0 64 ((gI m x0 64) - 1)) x0 70 ((gI (sI m x0 64 ((gI m x0 64) - 1)) x0 70) - 1)) b_4 ((gI (sI (sI m x0 64 ((gI m x0 64) - 1)) x0 70 ((gI (sI m x0 64 ((gI m x0 64) - 1)) x0 70) - 1)) x0 70).toNatClampNeg))]) (rest := []) m_6 (c_X11_made hc_5 tx0) 11 rfl (by decide) tx0 im_yX11_made se_yX11_made cy_X11_made rfl ml_X11_377 ⟨by decide, by decide⟩ ⟨Nat.zero_le _, Nat.zero_le _⟩ hl.1 rfl (Nat.le_of_ble_eq_true rfl) dX11_work_122 (fun H locs h => ?_)
            refine lv_goto (tgt := 0) C.1 C.2.1 dX11_work_125 (by decide) ?_
            exact ih _ _ hM tx0 _ _ h ls (lv_sub hl [1] rfl)
        · have hM := ite_f q hM
          refine lv_aload_n C.1 C.2.1 dX11_work_51 rfl (lv_at hl 1 rfl) ?_
          refine lv_iload_n C.1 C.2.1 dX11_work_52 rfl (lv_at hl 0 rfl) ?_
          refine lv_sipush (v := 2100) C.1 C.2.1 dX11_work_53 (by decide) ?_
          refine lv_aload_n C.1 C.2.1 dX11_work_56 rfl (lv_at hl 1 rfl) ?_
          refine gt_11_3 C h tx0 fl_X11_334 dX11_work_57 ?_
          refine lv_imul C.1 C.2.1 dX11_work_60 ?_
          refine lv_aload_n C.1 C.2.1 dX11_work_61 rfl (lv_at hl 1 rfl) ?_
          refine gt_11_67 C h tx0 fl_X11_159 dX11_work_62 ?_
          refine st_ref hb_1 ?_
          refine lv_iload_n C.1 C.2.1 dX11_work_65 rfl (lv_at hl 0 rfl) ?_
          obtain ⟨hi, hM⟩ := ib_some hM
          refine h_iald C h tb_1 hi dX11_work_66 ?_
          refine lv_iadd C.1 C.2.1 dX11_work_67 ?_
          obtain ⟨r_7, m_8, hc_7, hM⟩ := bd_some hM
          refine h_callVv C h (As := [.int ((gI m x0 64) - 1), .int ((2100 * (gI m x0 3)) + (gI m b_1 (((gI m x0 64) - 1).toNatClampNeg)))]) (rest := []) m_8 (c_X11_doAct hc_7 tx0) 11 rfl (by decide) tx0 im_yX11_doAct se_yX11_doAct cy_X11_doAct rfl ml_X11_374 ⟨by decide, by decide⟩ ⟨Nat.zero_le _, Nat.zero_le _⟩ hl.1 rfl (Nat.le_of_ble_eq_true rfl) dX11_work_68 (fun H locs h => ?_)
          refine lv_goto (tgt := 125) C.1 C.2.1 dX11_work_71 (by decide) ?_
          refine lv_goto (tgt := 0) C.1 C.2.1 dX11_work_125 (by decide) ?_
          exact ih _ _ hM tx0 _ _ h ls (lv_sub hl [1] rfl)
      · have hM := ite_f q hM
        refine lv_aload_n C.1 C.2.1 dX11_work_23 rfl (lv_at hl 1 rfl) ?_
        refine lv_aload_n C.1 C.2.1 dX11_work_24 rfl (lv_at hl 1 rfl) ?_
        refine gt_11_65 C h tx0 fl_X11_153 dX11_work_25 ?_
        obtain ⟨b_9, hb_9, hM⟩ := nb_some hM
        have tb_9 : Ty E G b_9 12 := (fun b hb => tyf h tx0 hb) _ hb_9
        refine st_ref hb_9 ?_
        refine lv_iload_n C.1 C.2.1 dX11_work_28 rfl (lv_at hl 0 rfl) ?_
        obtain ⟨hi, hM⟩ := ib_some hM
        refine h_iald C h tb_9 hi dX11_work_29 ?_
        obtain ⟨r_10, m_11, hc_10, hM⟩ := bd_some hM
        refine h_callVv C h (As := [.int (gI m b_9 (((gI m x0 64) - 1).toNatClampNeg))]) (rest := []) m_11 (c_X11_goOn hc_10 tx0) 11 rfl (by decide) tx0 im_yX11_goOn se_yX11_goOn cy_X11_goOn rfl ml_X11_371 ⟨by decide, by decide⟩ ⟨Nat.zero_le _, Nat.zero_le _⟩ hl.1 rfl (Nat.le_of_ble_eq_true rfl) dX11_work_30 (fun H locs h => ?_)
        refine lv_goto (tgt := 125) C.1 C.2.1 dX11_work_33 (by decide) ?_
        refine lv_goto (tgt := 0) C.1 C.2.1 dX11_work_125 (by decide) ?_
        exact ih _ _ hM tx0 _ _ h ls (lv_sub hl [1] rfl)
def M_X11_work (G : GG) (x0 : Nat) (m : MM) : Option (Unit × MM) := B_X11_work_0 G FU x0 m
theorem cM_X11_work {p : Program} {l : Launch} {e : Env} {s : State} {mth : MethodId} {args : Array Value} {below : List Frame} {meth : Method} {c : Code} {E : EE} {G : GG} {r9 : Unit} {m9 : MM} (C : Cx E G p s mth args meth c cX11_work RX11 "work" 2 none) {x0 : Nat} {m : MM} (hM : M_X11_work G x0 m = some (r9, m9)) (tx0 : Ty E G x0 11) : ∀ (H : Heap) (locs : List Loc), Hp E G m s H locs → ∀ ls : Array Slot, lv_has ls 2 [(0, .ref x0)] → W p l e rmX11_work s mth args below meth c H locs 0 0 (MQ below (cQv E G m9) args s 0 0 (fun q => E.2.2.1 ≤ q)) (F0 mth 0 ls []) := fun H locs h ls hl => cB_X11_work_0 C FU x0 m hM tx0 H locs h ls hl
theorem cy_X11_work : Cy yX11_work cX11_work 2 none 0 := ⟨cd_yX11_work, ii_X11, by decide, by decide, by decide +kernel⟩
set_option maxRecDepth 100000 in
theorem c_X11_work {l : Launch} {E : EE} {G : GG} {x0 : Nat} {m m9 : MM} {r9 : Unit} (hM : M_X11_work G x0 m = some (r9, m9)) (tx0 : Ty E G x0 11) : Mc l E yX11_work cX11_work 2 none rmX11_work [.ref x0] G m (cQv E G m9) := M_of (by decide) (Nat.le_of_ble_eq_true rfl) (fun p e s mth below meth c C h ls hl => cM_X11_work C hM tx0 _ _ h ls hl)
abbrev rmX11_want : Room := { frames := 4, cells := 0, slots := 0, locals := 94 }
def B_X11_want_57 (G : GG) (x0 : Nat) (m : MM) : Option (Bool × MM) :=
  if (gI m x0 62) = 0 then
    some (true, m)
  else
    some (false, m)
set_option maxRecDepth 100000 in
set_option maxHeartbeats 4000000 in
theorem cB_X11_want_57 {p : Program} {l : Launch} {e : Env} {s : State} {mth : MethodId} {args : Array Value} {below : List Frame} {meth : Method} {c : Code} {E : EE} {G : GG} {r9 : Bool} {m9 : MM} (C : Cx E G p s mth args meth c cX11_want RX11 "want" 2 (some .boolean)) {x0 : Nat} {m : MM} (hM : B_X11_want_57 G x0 m = some (r9, m9)) (tx0 : Ty E G x0 11) : ∀ (H : Heap) (locs : List Loc), Hp E G m s H locs → ∀ ls : Array Slot, lv_has ls 2 [(0, .ref x0)] → W p l e rmX11_want s mth args below meth c H locs 0 0 (MQ below (cQi E (bz r9) G m9) args s 0 0 (fun q => E.2.2.1 ≤ q)) (F0 mth 57 ls []) := by
  intro H locs h ls hl
  unfold B_X11_want_57 at hM
  refine lv_aload_n C.1 C.2.1 dX11_want_57 rfl (lv_at hl 0 rfl) ?_
  refine gt_11_62 C h tx0 fl_X11_362 dX11_want_58 ?_
  refine lv_if_ne (tgt := 68) C.1 C.2.1 dX11_want_61 (by decide) (fun q => ?_) (fun q => ?_)
  · have hM := ite_f q hM
    refine lv_iconst (v := 0) C.1 C.2.1 dX11_want_68 (by decide) ?_
    obtain ⟨rfl, rfl⟩ := so_inj hM
    exact h_zret C h (bz_ok _).1 dX11_want_69
  · have hM := ite_t q hM
    refine lv_iconst (v := 1) C.1 C.2.1 dX11_want_64 (by decide) ?_
    refine lv_goto (tgt := 69) C.1 C.2.1 dX11_want_65 (by decide) ?_
    obtain ⟨rfl, rfl⟩ := so_inj hM
    exact h_zret C h (bz_ok _).1 dX11_want_69
def M_X11_want (G : GG) (x0 : Nat) (x1 : Int32) (m : MM) : Option (Bool × MM) :=
  nb (gR (sI (sI m x0 64 0) x0 70 0) x0 56) fun b_1 =>
    ib x1 (G.2.2 b_1) <|
      if (gI (sI (sI m x0 64 0) x0 70 0) b_1 x1.toNatClampNeg) = 0 then
        bd (M_X11_begin G x0 x1 (sI (sI m x0 64 0) x0 70 0)) fun _ m_5 =>
          bd (M_X11_work G x0 m_5) fun _ m_7 =>
            if (gI m_7 x0 62) = 0 then
              some (true, m_7)
            else
              some (false, m_7)
      else
        ib x1 (G.2.2 b_1) <|
          if (gI (sI (sI m x0 64 0) x0 70 0) b_1 x1.toNatClampNeg) = 2 then
            bd (M_X11_fails G x0 6 (sI (sI m x0 64 0) x0 70 0)) fun _ m_3 =>
              B_X11_want_57 G x0 m_3
          else
            B_X11_want_57 G x0 (sI (sI m x0 64 0) x0 70 0)
set_option maxRecDepth 100000 in
set_option maxHeartbeats 4000000 in
theorem cM_X11_want {p : Program} {l : Launch} {e : Env} {s : State} {mth : MethodId} {args : Array Value} {below : List Frame} {meth : Method} {c : Code} {E : EE} {G : GG} {r9 : Bool} {m9 : MM} (C : Cx E G p s mth args meth c cX11_want RX11 "want" 2 (some .boolean)) {x0 : Nat} {x1 : Int32} {m : MM} (hM : M_X11_want G x0 x1 m = some (r9, m9)) (tx0 : Ty E G x0 11) : ∀ (H : Heap) (locs : List Loc), Hp E G m s H locs → ∀ ls : Array Slot, lv_has ls 2 [(0, .ref x0), (1, .int x1)] → W p l e rmX11_want s mth args below meth c H locs 0 0 (MQ below (cQi E (bz r9) G m9) args s 0 0 (fun q => E.2.2.1 ≤ q)) (F0 mth 0 ls []) := by
  intro H locs h ls hl
  unfold M_X11_want at hM
  refine lv_aload_n C.1 C.2.1 dX11_want_0 rfl (lv_at hl 0 rfl) ?_
  refine lv_iconst (v := 0) C.1 C.2.1 dX11_want_1 (by decide) ?_
  refine pt_11_64 C h tx0 fl_X11_352 dX11_want_2 (fun H locs h => ?_)
  refine lv_aload_n C.1 C.2.1 dX11_want_5 rfl (lv_at hl 0 rfl) ?_
  refine lv_iconst (v := 0) C.1 C.2.1 dX11_want_6 (by decide) ?_
  refine pt_11_70 C h tx0 fl_X11_368 dX11_want_7 (fun H locs h => ?_)
  refine lv_aload_n C.1 C.2.1 dX11_want_10 rfl (lv_at hl 0 rfl) ?_
  refine gt_11_56 C h tx0 fl_X11_138 dX11_want_11 ?_
  obtain ⟨b_1, hb_1, hM⟩ := nb_some hM
  have tb_1 : Ty E G b_1 12 := (fun b hb => tyf h tx0 hb) _ hb_1
  refine st_ref hb_1 ?_
  refine lv_iload_n C.1 C.2.1 dX11_want_14 rfl (lv_at hl 1 rfl) ?_
  obtain ⟨hi, hM⟩ := ib_some hM
  refine h_iald C h tb_1 hi dX11_want_15 ?_
  refine lv_if_ne (tgt := 41) C.1 C.2.1 dX11_want_16 (by decide) (fun q => ?_) (fun q => ?_)
  · have hM := ite_f q hM
    refine lv_aload_n C.1 C.2.1 dX11_want_41 rfl (lv_at hl 0 rfl) ?_
    refine gt_11_56 C h tx0 fl_X11_138 dX11_want_42 ?_
    refine st_ref hb_1 ?_
    refine lv_iload_n C.1 C.2.1 dX11_want_45 rfl (lv_at hl 1 rfl) ?_
    obtain ⟨hi, hM⟩ := ib_some hM
    refine h_iald C h tb_1 hi dX11_want_46 ?_
    refine lv_iconst (v := 2) C.1 C.2.1 dX11_want_47 (by decide) ?_
    refine lv_icmp_ne (tgt := 57) C.1 C.2.1 dX11_want_48 (by decide) (fun q => ?_) (fun q => ?_)
    · have hM := ite_f q hM
      exact cB_X11_want_57 C hM tx0 _ _ h ls (lv_sub hl [0] rfl)
    · have hM := ite_t q hM
      refine lv_aload_n C.1 C.2.1 dX11_want_51 rfl (lv_at hl 0 rfl) ?_
      refine lv_bipush (v := 6) C.1 C.2.1 dX11_want_52 (by decide) ?_
      obtain ⟨r_2, m_3, hc_2, hM⟩ := bd_some hM
      refine h_callVv C h (As := [.int 6]) (rest := []) m_3 (c_X11_fails hc_2 tx0) 11 rfl (by decide) tx0 im_yX11_fails se_yX11_fails cy_X11_fails rfl ml_X11_386 ⟨by decide, by decide⟩ ⟨Nat.zero_le _, Nat.zero_le _⟩ hl.1 rfl (Nat.le_of_ble_eq_true rfl) dX11_want_54 (fun H locs h => ?_)
      exact cB_X11_want_57 C hM tx0 _ _ h ls (lv_sub hl [0] rfl)
  · have hM := ite_t q hM
    refine lv_aload_n C.1 C.2.1 dX11_want_19 rfl (lv_at hl 0 rfl) ?_
    refine lv_iload_n C.1 C.2.1 dX11_want_20 rfl (lv_at hl 1 rfl) ?_
    obtain ⟨r_4, m_5, hc_4, hM⟩ := bd_some hM
    refine h_callVv C h (As := [.int x1]) (rest := []) m_5 (c_X11_begin hc_4 tx0) 11 rfl (by decide) tx0 im_yX11_begin se_yX11_begin cy_X11_begin rfl ml_X11_383 ⟨by decide, by decide⟩ ⟨Nat.zero_le _, Nat.zero_le _⟩ hl.1 rfl (Nat.le_of_ble_eq_true rfl) dX11_want_21 (fun H locs h => ?_)
    refine lv_aload_n C.1 C.2.1 dX11_want_24 rfl (lv_at hl 0 rfl) ?_
    obtain ⟨r_6, m_7, hc_6, hM⟩ := bd_some hM
    refine h_callVv C h (As := []) (rest := []) m_7 (c_X11_work hc_6 tx0) 11 rfl (by decide) tx0 im_yX11_work se_yX11_work cy_X11_work rfl ml_X11_389 ⟨by decide, by decide⟩ ⟨Nat.zero_le _, Nat.zero_le _⟩ hl.1 rfl (Nat.le_of_ble_eq_true rfl) dX11_want_25 (fun H locs h => ?_)
    refine lv_aload_n C.1 C.2.1 dX11_want_28 rfl (lv_at hl 0 rfl) ?_
    refine gt_11_62 C h tx0 fl_X11_362 dX11_want_29 ?_
    refine lv_if_ne (tgt := 39) C.1 C.2.1 dX11_want_32 (by decide) (fun q => ?_) (fun q => ?_)
    · have hM := ite_f q hM
      refine lv_iconst (v := 0) C.1 C.2.1 dX11_want_39 (by decide) ?_
      obtain ⟨rfl, rfl⟩ := so_inj hM
      exact h_zret C h (bz_ok _).1 dX11_want_40
    · have hM := ite_t q hM
      refine lv_iconst (v := 1) C.1 C.2.1 dX11_want_35 (by decide) ?_
      refine lv_goto (tgt := 40) C.1 C.2.1 dX11_want_36 (by decide) ?_
      obtain ⟨rfl, rfl⟩ := so_inj hM
      exact h_zret C h (bz_ok _).1 dX11_want_40
theorem cy_X11_want : Cy yX11_want cX11_want 2 (some .boolean) 1 := ⟨cd_yX11_want, ii_X11, by decide, by decide, by decide +kernel⟩
set_option maxRecDepth 100000 in
theorem c_X11_want {l : Launch} {E : EE} {G : GG} {x0 : Nat} {x1 : Int32} {m m9 : MM} {r9 : Bool} (hM : M_X11_want G x0 x1 m = some (r9, m9)) (tx0 : Ty E G x0 11) : Mc l E yX11_want cX11_want 2 (some .boolean) rmX11_want [.ref x0, .int x1] G m (cQi E (bz r9) G m9) := M_of (by decide) (Nat.le_of_ble_eq_true rfl) (fun p e s mth below meth c C h ls hl => cM_X11_want C hM tx0 _ _ h ls hl)
abbrev rmX11_isEnum : Room := { frames := 1, cells := 0, slots := 0, locals := 22 }
def M_X11_isEnum (G : GG) (x0 : Nat) (x1 : Int32) (m : MM) : Option (Bool × MM) :=
  nb (gR m x0 6) fun b_1 =>
    ib (gI m x0 3) (G.2.2 b_1) <|
      bd (M_X11_in G x1 0 ((gI m b_1 ((gI m x0 3).toNatClampNeg)) - 1) m) fun r_2 m_3 =>
        some (r_2, m_3)
set_option maxRecDepth 100000 in
set_option maxHeartbeats 4000000 in
theorem cM_X11_isEnum {p : Program} {l : Launch} {e : Env} {s : State} {mth : MethodId} {args : Array Value} {below : List Frame} {meth : Method} {c : Code} {E : EE} {G : GG} {r9 : Bool} {m9 : MM} (C : Cx E G p s mth args meth c cX11_isEnum RX11 "isEnum" 2 (some .boolean)) {x0 : Nat} {x1 : Int32} {m : MM} (hM : M_X11_isEnum G x0 x1 m = some (r9, m9)) (tx0 : Ty E G x0 11) : ∀ (H : Heap) (locs : List Loc), Hp E G m s H locs → ∀ ls : Array Slot, lv_has ls 2 [(0, .ref x0), (1, .int x1)] → W p l e rmX11_isEnum s mth args below meth c H locs 0 0 (MQ below (cQi E (bz r9) G m9) args s 0 0 (fun q => E.2.2.1 ≤ q)) (F0 mth 0 ls []) := by
  intro H locs h ls hl
  unfold M_X11_isEnum at hM
  refine lv_iload_n C.1 C.2.1 dX11_isEnum_0 rfl (lv_at hl 1 rfl) ?_
  refine lv_iconst (v := 0) C.1 C.2.1 dX11_isEnum_1 (by decide) ?_
  refine lv_aload_n C.1 C.2.1 dX11_isEnum_2 rfl (lv_at hl 0 rfl) ?_
  refine gt_11_6 C h tx0 fl_X11_16 dX11_isEnum_3 ?_
  obtain ⟨b_1, hb_1, hM⟩ := nb_some hM
  have tb_1 : Ty E G b_1 12 := (fun b hb => tyf h tx0 hb) _ hb_1
  refine st_ref hb_1 ?_
  refine lv_aload_n C.1 C.2.1 dX11_isEnum_6 rfl (lv_at hl 0 rfl) ?_
  refine gt_11_3 C h tx0 fl_X11_334 dX11_isEnum_7 ?_
  obtain ⟨hi, hM⟩ := ib_some hM
  refine h_iald C h tb_1 hi dX11_isEnum_10 ?_
  refine lv_iconst (v := 1) C.1 C.2.1 dX11_isEnum_11 (by decide) ?_
  refine lv_isub C.1 C.2.1 dX11_isEnum_12 ?_
  obtain ⟨r_2, m_3, hc_2, hM⟩ := bd_some hM
  refine h_callSi C h (As := [.int x1, .int 0, .int ((gI m b_1 ((gI m x0 3).toNatClampNeg)) - 1)]) (rest := []) (bz r_2) m_3 (c_X11_in hc_2 ) st_yX11_in cy_X11_in rfl ml_X11_175 ⟨by decide, by decide⟩ ⟨Nat.zero_le _, Nat.zero_le _⟩ hl.1 rfl (Nat.le_of_ble_eq_true rfl) dX11_isEnum_13 (fun H locs h => ?_)
  obtain ⟨rfl, rfl⟩ := so_inj hM
  exact h_zret C h (bz_ok _).1 dX11_isEnum_16
theorem cy_X11_isEnum : Cy yX11_isEnum cX11_isEnum 2 (some .boolean) 1 := ⟨cd_yX11_isEnum, ii_X11, by decide, by decide, by decide +kernel⟩
set_option maxRecDepth 100000 in
theorem c_X11_isEnum {l : Launch} {E : EE} {G : GG} {x0 : Nat} {x1 : Int32} {m m9 : MM} {r9 : Bool} (hM : M_X11_isEnum G x0 x1 m = some (r9, m9)) (tx0 : Ty E G x0 11) : Mc l E yX11_isEnum cX11_isEnum 2 (some .boolean) rmX11_isEnum [.ref x0, .int x1] G m (cQi E (bz r9) G m9) := M_of (by decide) (Nat.le_of_ble_eq_true rfl) (fun p e s mth below meth c C h ls hl => cM_X11_isEnum C hM tx0 _ _ h ls hl)
abbrev rmX11_isConst : Room := { frames := 2, cells := 0, slots := 0, locals := 43 }
def M_X11_isConst (G : GG) (x0 : Nat) (x1 : Int32) (x2 : Int32) (m : MM) : Option (Bool × MM) :=
  bd (M_X11_isEnum G x0 x1 m) fun r_1 m_2 =>
    if r_1 = true then
      nb (gR m_2 x0 9) fun b_3 =>
        ib ((8 * (gI m_2 x0 3)) + x1) (G.2.2 b_3) <|
          bd (M_X11_in G x2 0 ((gI m_2 b_3 (((8 * (gI m_2 x0 3)) + x1).toNatClampNeg)) - 1) m_2) fun r_4 m_5 =>
            if r_4 = true then
              some (true, m_5)
            else
              some (false, m_5)
    else
      some (false, m_2)
set_option maxRecDepth 100000 in
set_option maxHeartbeats 4000000 in
theorem cM_X11_isConst {p : Program} {l : Launch} {e : Env} {s : State} {mth : MethodId} {args : Array Value} {below : List Frame} {meth : Method} {c : Code} {E : EE} {G : GG} {r9 : Bool} {m9 : MM} (C : Cx E G p s mth args meth c cX11_isConst RX11 "isConst" 3 (some .boolean)) {x0 : Nat} {x1 : Int32} {x2 : Int32} {m : MM} (hM : M_X11_isConst G x0 x1 x2 m = some (r9, m9)) (tx0 : Ty E G x0 11) : ∀ (H : Heap) (locs : List Loc), Hp E G m s H locs → ∀ ls : Array Slot, lv_has ls 3 [(0, .ref x0), (1, .int x1), (2, .int x2)] → W p l e rmX11_isConst s mth args below meth c H locs 0 0 (MQ below (cQi E (bz r9) G m9) args s 0 0 (fun q => E.2.2.1 ≤ q)) (F0 mth 0 ls []) := by
  intro H locs h ls hl
  unfold M_X11_isConst at hM
  refine lv_aload_n C.1 C.2.1 dX11_isConst_0 rfl (lv_at hl 0 rfl) ?_
  refine lv_iload_n C.1 C.2.1 dX11_isConst_1 rfl (lv_at hl 1 rfl) ?_
  obtain ⟨r_1, m_2, hc_1, hM⟩ := bd_some hM
  refine h_callVi C h (As := [.int x1]) (rest := []) (bz r_1) m_2 (c_X11_isEnum hc_1 tx0) 11 rfl (by decide) tx0 im_yX11_isEnum se_yX11_isEnum cy_X11_isEnum rfl ml_X11_392 ⟨by decide, by decide⟩ ⟨Nat.zero_le _, Nat.zero_le _⟩ hl.1 rfl (Nat.le_of_ble_eq_true rfl) dX11_isConst_2 (fun H locs h => ?_)
  refine h_ifz (tgt := 36) C.1 C.2.1 dX11_isConst_5 (by decide) (fun q => ?_) (fun q => ?_)
  · have hM := ite_f q hM
    refine lv_iconst (v := 0) C.1 C.2.1 dX11_isConst_36 (by decide) ?_
    obtain ⟨rfl, rfl⟩ := so_inj hM
    exact h_zret C h (bz_ok _).1 dX11_isConst_37
  · have hM := ite_t q hM
    refine lv_iload_n C.1 C.2.1 dX11_isConst_8 rfl (lv_at hl 2 rfl) ?_
    refine lv_iconst (v := 0) C.1 C.2.1 dX11_isConst_9 (by decide) ?_
    refine lv_aload_n C.1 C.2.1 dX11_isConst_10 rfl (lv_at hl 0 rfl) ?_
    refine gt_11_9 C h tx0 fl_X11_25 dX11_isConst_11 ?_
    obtain ⟨b_3, hb_3, hM⟩ := nb_some hM
    have tb_3 : Ty E G b_3 12 := (fun b hb => tyf h tx0 hb) _ hb_3
    refine st_ref hb_3 ?_
    refine lv_bipush (v := 8) C.1 C.2.1 dX11_isConst_14 (by decide) ?_
    refine lv_aload_n C.1 C.2.1 dX11_isConst_16 rfl (lv_at hl 0 rfl) ?_
    refine gt_11_3 C h tx0 fl_X11_334 dX11_isConst_17 ?_
    refine lv_imul C.1 C.2.1 dX11_isConst_20 ?_
    refine lv_iload_n C.1 C.2.1 dX11_isConst_21 rfl (lv_at hl 1 rfl) ?_
    refine lv_iadd C.1 C.2.1 dX11_isConst_22 ?_
    obtain ⟨hi, hM⟩ := ib_some hM
    refine h_iald C h tb_3 hi dX11_isConst_23 ?_
    refine lv_iconst (v := 1) C.1 C.2.1 dX11_isConst_24 (by decide) ?_
    refine lv_isub C.1 C.2.1 dX11_isConst_25 ?_
    obtain ⟨r_4, m_5, hc_4, hM⟩ := bd_some hM
    refine h_callSi C h (As := [.int x2, .int 0, .int ((gI m_2 b_3 (((8 * (gI m_2 x0 3)) + x1).toNatClampNeg)) - 1)]) (rest := []) (bz r_4) m_5 (c_X11_in hc_4 ) st_yX11_in cy_X11_in rfl ml_X11_175 ⟨by decide, by decide⟩ ⟨Nat.zero_le _, Nat.zero_le _⟩ hl.1 rfl (Nat.le_of_ble_eq_true rfl) dX11_isConst_26 (fun H locs h => ?_)
    refine h_ifz (tgt := 36) C.1 C.2.1 dX11_isConst_29 (by decide) (fun q => ?_) (fun q => ?_)
    · have hM := ite_f q hM
      refine lv_iconst (v := 0) C.1 C.2.1 dX11_isConst_36 (by decide) ?_
      obtain ⟨rfl, rfl⟩ := so_inj hM
      exact h_zret C h (bz_ok _).1 dX11_isConst_37
    · have hM := ite_t q hM
      refine lv_iconst (v := 1) C.1 C.2.1 dX11_isConst_32 (by decide) ?_
      refine lv_goto (tgt := 37) C.1 C.2.1 dX11_isConst_33 (by decide) ?_
      obtain ⟨rfl, rfl⟩ := so_inj hM
      exact h_zret C h (bz_ok _).1 dX11_isConst_37
theorem cy_X11_isConst : Cy yX11_isConst cX11_isConst 3 (some .boolean) 2 := ⟨cd_yX11_isConst, ii_X11, by decide, by decide, by decide +kernel⟩
set_option maxRecDepth 100000 in
theorem c_X11_isConst {l : Launch} {E : EE} {G : GG} {x0 : Nat} {x1 : Int32} {x2 : Int32} {m m9 : MM} {r9 : Bool} (hM : M_X11_isConst G x0 x1 x2 m = some (r9, m9)) (tx0 : Ty E G x0 11) : Mc l E yX11_isConst cX11_isConst 3 (some .boolean) rmX11_isConst [.ref x0, .int x1, .int x2] G m (cQi E (bz r9) G m9) := M_of (by decide) (Nat.le_of_ble_eq_true rfl) (fun p e s mth below meth c C h ls hl => cM_X11_isConst C hM tx0 _ _ h ls hl)
abbrev rmX11_cause : Room := { frames := 0, cells := 0, slots := 0, locals := 0 }
def M_X11_cause (G : GG) (x0 : Nat) (m : MM) : Option (Int32 × MM) :=
  some (gI m x0 62, m)
set_option maxRecDepth 100000 in
set_option maxHeartbeats 4000000 in
theorem cM_X11_cause {p : Program} {l : Launch} {e : Env} {s : State} {mth : MethodId} {args : Array Value} {below : List Frame} {meth : Method} {c : Code} {E : EE} {G : GG} {r9 : Int32} {m9 : MM} (C : Cx E G p s mth args meth c cX11_cause RX11 "cause" 1 (some .int)) {x0 : Nat} {m : MM} (hM : M_X11_cause G x0 m = some (r9, m9)) (tx0 : Ty E G x0 11) : ∀ (H : Heap) (locs : List Loc), Hp E G m s H locs → ∀ ls : Array Slot, lv_has ls 1 [(0, .ref x0)] → W p l e rmX11_cause s mth args below meth c H locs 0 0 (MQ below (cQi E r9 G m9) args s 0 0 (fun q => E.2.2.1 ≤ q)) (F0 mth 0 ls []) := by
  intro H locs h ls hl
  unfold M_X11_cause at hM
  refine lv_aload_n C.1 C.2.1 dX11_cause_0 rfl (lv_at hl 0 rfl) ?_
  refine gt_11_62 C h tx0 fl_X11_362 dX11_cause_1 ?_
  obtain ⟨rfl, rfl⟩ := so_inj hM
  exact h_iret C h dX11_cause_4
theorem cy_X11_cause : Cy yX11_cause cX11_cause 1 (some .int) 0 := ⟨cd_yX11_cause, ii_X11, by decide, by decide, by decide +kernel⟩
set_option maxRecDepth 100000 in
theorem c_X11_cause {l : Launch} {E : EE} {G : GG} {x0 : Nat} {m m9 : MM} {r9 : Int32} (hM : M_X11_cause G x0 m = some (r9, m9)) (tx0 : Ty E G x0 11) : Mc l E yX11_cause cX11_cause 1 (some .int) rmX11_cause [.ref x0] G m (cQi E r9 G m9) := M_of (by decide) (Nat.le_of_ble_eq_true rfl) (fun p e s mth below meth c C h ls hl => cM_X11_cause C hM tx0 _ _ h ls hl)
abbrev rmX11_told : Room := { frames := 2, cells := 0, slots := 0, locals := 43 }
def B_X11_told_17 (G : GG) : Nat → Nat → Int32 → Int32 → Int32 → Int32 → MM → Option (Int32 × MM)
  | 0, _, _, _, _, _, _ => none
  | fu + 1, x0, x1, x2, x3, x4, m =>
    nb (gR m x0 11) fun b_1 =>
      ib ((8 * (gI m x0 3)) + x1) (G.2.2 b_1) <|
        if (gI m b_1 (((8 * (gI m x0 3)) + x1).toNatClampNeg)) ≤ x4 then
          if x2 = 0 then
            nb (gR m x0 9) fun b_2 =>
              ib ((8 * (gI m x0 3)) + x1) (G.2.2 b_2) <|
                some (gI m b_2 (((8 * (gI m x0 3)) + x1).toNatClampNeg), m)
          else
            if x2 = 1 then
              nb (gR m x0 10) fun b_3 =>
                ib ((8 * (gI m x0 3)) + x1) (G.2.2 b_3) <|
                  some (gI m b_3 (((8 * (gI m x0 3)) + x1).toNatClampNeg), m)
            else
              if x2 = 2 then
                ib ((8 * (gI m x0 3)) + x1) (G.2.2 b_1) <|
                  some ((gI m b_1 (((8 * (gI m x0 3)) + x1).toNatClampNeg)) - x3, m)
              else
                if x2 = 3 then
                  some (x3, m)
                else
                  if x2 = 4 then
                    nb (gR m x0 56) fun b_4 =>
                      ib x1 (G.2.2 b_4) <|
                        some (gI m b_4 x1.toNatClampNeg, m)
                  else
                    some ((-1000002), m)
        else
          nb (gR m x0 25) fun b_5 =>
            ib ((6 * ((8 * (gI m x0 3)) + x1)) + x4) (G.2.2 b_5) <|
              if 0 ≤ (gI m b_5 (((6 * ((8 * (gI m x0 3)) + x1)) + x4).toNatClampNeg)) then
                B_X11_told_17 G fu x0 x1 x2 (x3 + 0) (x4 + 1) m
              else
                B_X11_told_17 G fu x0 x1 x2 (x3 + 1) (x4 + 1) m
set_option maxRecDepth 100000 in
set_option maxHeartbeats 4000000 in
theorem cB_X11_told_17 {p : Program} {l : Launch} {e : Env} {s : State} {mth : MethodId} {args : Array Value} {below : List Frame} {meth : Method} {c : Code} {E : EE} {G : GG} {r9 : Int32} {m9 : MM} (C : Cx E G p s mth args meth c cX11_told RX11 "told" 5 (some .int)) : ∀ (fu : Nat) (x0 : Nat) (x1 : Int32) (x2 : Int32) (x3 : Int32) (x4 : Int32) (m : MM), B_X11_told_17 G fu x0 x1 x2 x3 x4 m = some (r9, m9) → (Ty E G x0 11) → ∀ (H : Heap) (locs : List Loc), Hp E G m s H locs → ∀ ls : Array Slot, lv_has ls 5 [(0, .ref x0), (1, .int x1), (2, .int x2), (3, .int x3), (4, .int x4)] → W p l e rmX11_told s mth args below meth c H locs 0 0 (MQ below (cQi E r9 G m9) args s 0 0 (fun q => E.2.2.1 ≤ q)) (F0 mth 17 ls []) := by
  intro fu
  induction fu with
  | zero =>
    intro x0 x1 x2 x3 x4 m hM
    rw [B_X11_told_17] at hM
    cases hM
  | succ fu ih =>
    intro x0 x1 x2 x3 x4 m hM tx0 H locs h ls hl
    rw [B_X11_told_17] at hM
    refine lv_iload C.1 C.2.1 dX11_told_17 (lv_at hl 4 rfl) ?_
    refine lv_aload_n C.1 C.2.1 dX11_told_19 rfl (lv_at hl 0 rfl) ?_
    refine gt_11_11 C h tx0 fl_X11_31 dX11_told_20 ?_
    obtain ⟨b_1, hb_1, hM⟩ := nb_some hM
    have tb_1 : Ty E G b_1 12 := (fun b hb => tyf h tx0 hb) _ hb_1
    refine st_ref hb_1 ?_
    refine lv_bipush (v := 8) C.1 C.2.1 dX11_told_23 (by decide) ?_
    refine lv_aload_n C.1 C.2.1 dX11_told_25 rfl (lv_at hl 0 rfl) ?_
    refine gt_11_3 C h tx0 fl_X11_334 dX11_told_26 ?_
    refine lv_imul C.1 C.2.1 dX11_told_29 ?_
    refine lv_iload_n C.1 C.2.1 dX11_told_30 rfl (lv_at hl 1 rfl) ?_
    refine lv_iadd C.1 C.2.1 dX11_told_31 ?_
    obtain ⟨hi, hM⟩ := ib_some hM
    refine h_iald C h tb_1 hi dX11_told_32 ?_
    refine lv_icmp_ge (tgt := 73) C.1 C.2.1 dX11_told_33 (by decide) (fun q => ?_) (fun q => ?_)
    · have hM := ite_t q hM
      refine lv_iload_n C.1 C.2.1 dX11_told_73 rfl (lv_at hl 2 rfl) ?_
      by_cases q0 : x2 = 0
      · have hM := ite_t q0 hM
        refine h_tabIn q0 (tgt := 108) C.1 C.2.1 dX11_told_74 (by decide) (by decide) rfl (by decide) ?_
        refine lv_aload_n C.1 C.2.1 dX11_told_108 rfl (lv_at hl 0 rfl) ?_
        refine gt_11_9 C h tx0 fl_X11_25 dX11_told_109 ?_
        obtain ⟨b_2, hb_2, hM⟩ := nb_some hM
        have tb_2 : Ty E G b_2 12 := (fun b hb => tyf h tx0 hb) _ hb_2
        refine st_ref hb_2 ?_
        refine lv_bipush (v := 8) C.1 C.2.1 dX11_told_112 (by decide) ?_
        refine lv_aload_n C.1 C.2.1 dX11_told_114 rfl (lv_at hl 0 rfl) ?_
        refine gt_11_3 C h tx0 fl_X11_334 dX11_told_115 ?_
        refine lv_imul C.1 C.2.1 dX11_told_118 ?_
        refine lv_iload_n C.1 C.2.1 dX11_told_119 rfl (lv_at hl 1 rfl) ?_
        refine lv_iadd C.1 C.2.1 dX11_told_120 ?_
        obtain ⟨hi, hM⟩ := ib_some hM
        refine h_iald C h tb_2 hi dX11_told_121 ?_
        obtain ⟨rfl, rfl⟩ := so_inj hM
        exact h_iret C h dX11_told_122
      · have hM := ite_f q0 hM
        by_cases q1 : x2 = 1
        · have hM := ite_t q1 hM
          refine h_tabIn q1 (tgt := 123) C.1 C.2.1 dX11_told_74 (by decide) (by decide) rfl (by decide) ?_
          refine lv_aload_n C.1 C.2.1 dX11_told_123 rfl (lv_at hl 0 rfl) ?_
          refine gt_11_10 C h tx0 fl_X11_28 dX11_told_124 ?_
          obtain ⟨b_3, hb_3, hM⟩ := nb_some hM
          have tb_3 : Ty E G b_3 12 := (fun b hb => tyf h tx0 hb) _ hb_3
          refine st_ref hb_3 ?_
          refine lv_bipush (v := 8) C.1 C.2.1 dX11_told_127 (by decide) ?_
          refine lv_aload_n C.1 C.2.1 dX11_told_129 rfl (lv_at hl 0 rfl) ?_
          refine gt_11_3 C h tx0 fl_X11_334 dX11_told_130 ?_
          refine lv_imul C.1 C.2.1 dX11_told_133 ?_
          refine lv_iload_n C.1 C.2.1 dX11_told_134 rfl (lv_at hl 1 rfl) ?_
          refine lv_iadd C.1 C.2.1 dX11_told_135 ?_
          obtain ⟨hi, hM⟩ := ib_some hM
          refine h_iald C h tb_3 hi dX11_told_136 ?_
          obtain ⟨rfl, rfl⟩ := so_inj hM
          exact h_iret C h dX11_told_137
        · have hM := ite_f q1 hM
          by_cases q2 : x2 = 2
          · have hM := ite_t q2 hM
            refine h_tabIn q2 (tgt := 138) C.1 C.2.1 dX11_told_74 (by decide) (by decide) rfl (by decide) ?_
            refine lv_aload_n C.1 C.2.1 dX11_told_138 rfl (lv_at hl 0 rfl) ?_
            refine gt_11_11 C h tx0 fl_X11_31 dX11_told_139 ?_
            refine st_ref hb_1 ?_
            refine lv_bipush (v := 8) C.1 C.2.1 dX11_told_142 (by decide) ?_
            refine lv_aload_n C.1 C.2.1 dX11_told_144 rfl (lv_at hl 0 rfl) ?_
            refine gt_11_3 C h tx0 fl_X11_334 dX11_told_145 ?_
            refine lv_imul C.1 C.2.1 dX11_told_148 ?_
            refine lv_iload_n C.1 C.2.1 dX11_told_149 rfl (lv_at hl 1 rfl) ?_
            refine lv_iadd C.1 C.2.1 dX11_told_150 ?_
            obtain ⟨hi, hM⟩ := ib_some hM
            refine h_iald C h tb_1 hi dX11_told_151 ?_
            refine lv_iload_n C.1 C.2.1 dX11_told_152 rfl (lv_at hl 3 rfl) ?_
            refine lv_isub C.1 C.2.1 dX11_told_153 ?_
            obtain ⟨rfl, rfl⟩ := so_inj hM
            exact h_iret C h dX11_told_154
          · have hM := ite_f q2 hM
            by_cases q3 : x2 = 3
            · have hM := ite_t q3 hM
              refine h_tabIn q3 (tgt := 155) C.1 C.2.1 dX11_told_74 (by decide) (by decide) rfl (by decide) ?_
              refine lv_iload_n C.1 C.2.1 dX11_told_155 rfl (lv_at hl 3 rfl) ?_
              obtain ⟨rfl, rfl⟩ := so_inj hM
              exact h_iret C h dX11_told_156
            · have hM := ite_f q3 hM
              by_cases q4 : x2 = 4
              · have hM := ite_t q4 hM
                refine h_tabIn q4 (tgt := 157) C.1 C.2.1 dX11_told_74 (by decide) (by decide) rfl (by decide) ?_
                refine lv_aload_n C.1 C.2.1 dX11_told_157 rfl (lv_at hl 0 rfl) ?_
                refine gt_11_56 C h tx0 fl_X11_138 dX11_told_158 ?_
                obtain ⟨b_4, hb_4, hM⟩ := nb_some hM
                have tb_4 : Ty E G b_4 12 := (fun b hb => tyf h tx0 hb) _ hb_4
                refine st_ref hb_4 ?_
                refine lv_iload_n C.1 C.2.1 dX11_told_161 rfl (lv_at hl 1 rfl) ?_
                obtain ⟨hi, hM⟩ := ib_some hM
                refine h_iald C h tb_4 hi dX11_told_162 ?_
                obtain ⟨rfl, rfl⟩ := so_inj hM
                exact h_iret C h dX11_told_163
              · have hM := ite_f q4 hM
                refine h_tabOut (tgt := 164) (lo := 0) (n := 5) C.1 C.2.1 dX11_told_74 (by decide) (by decide) (by decide) (fun k hk => ?_) ?_
                · match k, hk with
                  | 0, _ => exact q0
                  | 1, _ => exact q1
                  | 2, _ => exact q2
                  | 3, _ => exact q3
                  | 4, _ => exact q4
                  | k + 5, hk => exact absurd hk (by omega)
                · refine lv_ldc C.1 C.2.1 C.2.2.2.1 (C.2.2.2.2.1 _ co_X11_179) dX11_told_164 ?_
                  obtain ⟨rfl, rfl⟩ := so_inj hM
                  exact h_iret C h dX11_told_166
    · have hM := ite_f q hM
      refine lv_iload_n C.1 C.2.1 dX11_told_36 rfl (lv_at hl 3 rfl) ?_
      refine lv_aload_n C.1 C.2.1 dX11_told_37 rfl (lv_at hl 0 rfl) ?_
      refine gt_11_25 C h tx0 fl_X11_73 dX11_told_38 ?_
      obtain ⟨b_5, hb_5, hM⟩ := nb_some hM
      have tb_5 : Ty E G b_5 12 := (fun b hb => tyf h tx0 hb) _ hb_5
      refine st_ref hb_5 ?_
      refine lv_bipush (v := 6) C.1 C.2.1 dX11_told_41 (by decide) ?_
      refine lv_bipush (v := 8) C.1 C.2.1 dX11_told_43 (by decide) ?_
      refine lv_aload_n C.1 C.2.1 dX11_told_45 rfl (lv_at hl 0 rfl) ?_
      refine gt_11_3 C h tx0 fl_X11_334 dX11_told_46 ?_
      refine lv_imul C.1 C.2.1 dX11_told_49 ?_
      refine lv_iload_n C.1 C.2.1 dX11_told_50 rfl (lv_at hl 1 rfl) ?_
      refine lv_iadd C.1 C.2.1 dX11_told_51 ?_
      refine lv_imul C.1 C.2.1 dX11_told_52 ?_
      refine lv_iload C.1 C.2.1 dX11_told_53 (lv_at hl 4 rfl) ?_
      refine lv_iadd C.1 C.2.1 dX11_told_55 ?_
      obtain ⟨hi, hM⟩ := ib_some hM
      refine h_iald C h tb_5 hi dX11_told_56 ?_
      refine lv_if_ge (tgt := 64) C.1 C.2.1 dX11_told_57 (by decide) (fun q => ?_) (fun q => ?_)
      · have hM := ite_t q hM
        refine lv_iconst (v := 0) C.1 C.2.1 dX11_told_64 (by decide) ?_
        refine lv_iadd C.1 C.2.1 dX11_told_65 ?_
        refine lv_istore_n (lv' := [(3, .int (x3 + 0)), (0, .ref x0), (1, .int x1), (2, .int x2), (4, .int x4)]) C.1 C.2.1 dX11_told_66 rfl hl (by decide) rfl (fun ls hl => ?_)
        refine lv_iinc (v := x4 + 1) (lv' := [(4, .int (x4 + 1)), (3, .int (x3 + 0)), (0, .ref x0), (1, .int x1), (2, .int x2)]) C.1 C.2.1 dX11_told_67 hl (k := 4) rfl rfl (by decide) rfl (fun ls hl => ?_)
        refine lv_goto (tgt := 17) C.1 C.2.1 dX11_told_70 (by decide) ?_
        exact ih _ _ _ _ _ _ hM tx0 _ _ h ls (lv_sub hl [2, 3, 4, 1, 0] rfl)
      · have hM := ite_f q hM
        refine lv_iconst (v := 1) C.1 C.2.1 dX11_told_60 (by decide) ?_
        refine lv_goto (tgt := 65) C.1 C.2.1 dX11_told_61 (by decide) ?_
        refine lv_iadd C.1 C.2.1 dX11_told_65 ?_
        refine lv_istore_n (lv' := [(3, .int (x3 + 1)), (0, .ref x0), (1, .int x1), (2, .int x2), (4, .int x4)]) C.1 C.2.1 dX11_told_66 rfl hl (by decide) rfl (fun ls hl => ?_)
        refine lv_iinc (v := x4 + 1) (lv' := [(4, .int (x4 + 1)), (3, .int (x3 + 1)), (0, .ref x0), (1, .int x1), (2, .int x2)]) C.1 C.2.1 dX11_told_67 hl (k := 4) rfl rfl (by decide) rfl (fun ls hl => ?_)
        refine lv_goto (tgt := 17) C.1 C.2.1 dX11_told_70 (by decide) ?_
        exact ih _ _ _ _ _ _ hM tx0 _ _ h ls (lv_sub hl [2, 3, 4, 1, 0] rfl)
def M_X11_told (G : GG) (x0 : Nat) (x1 : Int32) (x2 : Int32) (m : MM) : Option (Int32 × MM) :=
  bd (M_X11_isEnum G x0 x1 m) fun r_6 m_7 =>
    if r_6 = true then
      B_X11_told_17 G FU x0 x1 x2 0 0 m_7
    else
      some ((-1000001), m_7)
set_option maxRecDepth 100000 in
set_option maxHeartbeats 4000000 in
theorem cM_X11_told {p : Program} {l : Launch} {e : Env} {s : State} {mth : MethodId} {args : Array Value} {below : List Frame} {meth : Method} {c : Code} {E : EE} {G : GG} {r9 : Int32} {m9 : MM} (C : Cx E G p s mth args meth c cX11_told RX11 "told" 5 (some .int)) {x0 : Nat} {x1 : Int32} {x2 : Int32} {m : MM} (hM : M_X11_told G x0 x1 x2 m = some (r9, m9)) (tx0 : Ty E G x0 11) : ∀ (H : Heap) (locs : List Loc), Hp E G m s H locs → ∀ ls : Array Slot, lv_has ls 5 [(0, .ref x0), (1, .int x1), (2, .int x2)] → W p l e rmX11_told s mth args below meth c H locs 0 0 (MQ below (cQi E r9 G m9) args s 0 0 (fun q => E.2.2.1 ≤ q)) (F0 mth 0 ls []) := by
  intro H locs h ls hl
  unfold M_X11_told at hM
  refine lv_aload_n C.1 C.2.1 dX11_told_0 rfl (lv_at hl 0 rfl) ?_
  refine lv_iload_n C.1 C.2.1 dX11_told_1 rfl (lv_at hl 1 rfl) ?_
  obtain ⟨r_6, m_7, hc_6, hM⟩ := bd_some hM
  refine h_callVi C h (As := [.int x1]) (rest := []) (bz r_6) m_7 (c_X11_isEnum hc_6 tx0) 11 rfl (by decide) tx0 im_yX11_isEnum se_yX11_isEnum cy_X11_isEnum rfl ml_X11_392 ⟨by decide, by decide⟩ ⟨Nat.zero_le _, Nat.zero_le _⟩ hl.1 rfl (Nat.le_of_ble_eq_true rfl) dX11_told_2 (fun H locs h => ?_)
  refine h_ifnz (tgt := 12) C.1 C.2.1 dX11_told_5 (by decide) (fun q => ?_) (fun q => ?_)
  · have hM := ite_t q hM
    refine lv_iconst (v := 0) C.1 C.2.1 dX11_told_12 (by decide) ?_
    refine lv_istore_n (lv' := [(3, .int 0), (0, .ref x0), (1, .int x1), (2, .int x2)]) C.1 C.2.1 dX11_told_13 rfl hl (by decide) rfl (fun ls hl => ?_)
    refine lv_iconst (v := 0) C.1 C.2.1 dX11_told_14 (by decide) ?_
    refine lv_istore (lv' := [(4, .int 0), (3, .int 0), (0, .ref x0), (1, .int x1), (2, .int x2)]) C.1 C.2.1 dX11_told_15 hl (by decide) rfl (fun ls hl => ?_)
    exact cB_X11_told_17 C _ _ _ _ _ _ _ hM tx0 _ _ h ls (lv_sub hl [2, 3, 4, 1, 0] rfl)
  · have hM := ite_f q hM
    refine lv_ldcw C.1 C.2.1 C.2.2.2.1 (C.2.2.2.2.1 _ co_X11_395) dX11_told_8 ?_
    obtain ⟨rfl, rfl⟩ := so_inj hM
    exact h_iret C h dX11_told_11
theorem cy_X11_told : Cy yX11_told cX11_told 5 (some .int) 2 := ⟨cd_yX11_told, ii_X11, by decide, by decide, by decide +kernel⟩
set_option maxRecDepth 100000 in
theorem c_X11_told {l : Launch} {E : EE} {G : GG} {x0 : Nat} {x1 : Int32} {x2 : Int32} {m m9 : MM} {r9 : Int32} (hM : M_X11_told G x0 x1 x2 m = some (r9, m9)) (tx0 : Ty E G x0 11) : Mc l E yX11_told cX11_told 5 (some .int) rmX11_told [.ref x0, .int x1, .int x2] G m (cQi E r9 G m9) := M_of (by decide) (Nat.le_of_ble_eq_true rfl) (fun p e s mth below meth c C h ls hl => cM_X11_told C hM tx0 _ _ h ls hl)
abbrev rmX11_hasBody : Room := { frames := 3, cells := 0, slots := 0, locals := 65 }
def M_X11_hasBody (G : GG) (x0 : Nat) (x1 : Int32) (x2 : Int32) (m : MM) : Option (Int32 × MM) :=
  bd (M_X11_isConst G x0 x1 x2 m) fun r_1 m_2 =>
    if r_1 = true then
      nb (gR m_2 x0 17) fun b_3 =>
        ib ((12 * ((8 * (gI m_2 x0 3)) + x1)) + x2) (G.2.2 b_3) <|
          some (gI m_2 b_3 (((12 * ((8 * (gI m_2 x0 3)) + x1)) + x2).toNatClampNeg), m_2)
    else
      some ((-1000001), m_2)
set_option maxRecDepth 100000 in
set_option maxHeartbeats 4000000 in
theorem cM_X11_hasBody {p : Program} {l : Launch} {e : Env} {s : State} {mth : MethodId} {args : Array Value} {below : List Frame} {meth : Method} {c : Code} {E : EE} {G : GG} {r9 : Int32} {m9 : MM} (C : Cx E G p s mth args meth c cX11_hasBody RX11 "hasBody" 3 (some .int)) {x0 : Nat} {x1 : Int32} {x2 : Int32} {m : MM} (hM : M_X11_hasBody G x0 x1 x2 m = some (r9, m9)) (tx0 : Ty E G x0 11) : ∀ (H : Heap) (locs : List Loc), Hp E G m s H locs → ∀ ls : Array Slot, lv_has ls 3 [(0, .ref x0), (1, .int x1), (2, .int x2)] → W p l e rmX11_hasBody s mth args below meth c H locs 0 0 (MQ below (cQi E r9 G m9) args s 0 0 (fun q => E.2.2.1 ≤ q)) (F0 mth 0 ls []) := by
  intro H locs h ls hl
  unfold M_X11_hasBody at hM
  refine lv_aload_n C.1 C.2.1 dX11_hasBody_0 rfl (lv_at hl 0 rfl) ?_
  refine lv_iload_n C.1 C.2.1 dX11_hasBody_1 rfl (lv_at hl 1 rfl) ?_
  refine lv_iload_n C.1 C.2.1 dX11_hasBody_2 rfl (lv_at hl 2 rfl) ?_
  obtain ⟨r_1, m_2, hc_1, hM⟩ := bd_some hM
  refine h_callVi C h (As := [.int x1, .int x2]) (rest := []) (bz r_1) m_2 (c_X11_isConst hc_1 tx0) 11 rfl (by decide) tx0 im_yX11_isConst se_yX11_isConst cy_X11_isConst rfl ml_X11_396 ⟨by decide, by decide⟩ ⟨Nat.zero_le _, Nat.zero_le _⟩ hl.1 rfl (Nat.le_of_ble_eq_true rfl) dX11_hasBody_3 (fun H locs h => ?_)
  refine h_ifz (tgt := 31) C.1 C.2.1 dX11_hasBody_6 (by decide) (fun q => ?_) (fun q => ?_)
  · have hM := ite_f q hM
    refine lv_ldcw C.1 C.2.1 C.2.2.2.1 (C.2.2.2.2.1 _ co_X11_395) dX11_hasBody_31 ?_
    obtain ⟨rfl, rfl⟩ := so_inj hM
    exact h_iret C h dX11_hasBody_34
  · have hM := ite_t q hM
    refine lv_aload_n C.1 C.2.1 dX11_hasBody_9 rfl (lv_at hl 0 rfl) ?_
    refine gt_11_17 C h tx0 fl_X11_49 dX11_hasBody_10 ?_
    obtain ⟨b_3, hb_3, hM⟩ := nb_some hM
    have tb_3 : Ty E G b_3 12 := (fun b hb => tyf h tx0 hb) _ hb_3
    refine st_ref hb_3 ?_
    refine lv_bipush (v := 12) C.1 C.2.1 dX11_hasBody_13 (by decide) ?_
    refine lv_bipush (v := 8) C.1 C.2.1 dX11_hasBody_15 (by decide) ?_
    refine lv_aload_n C.1 C.2.1 dX11_hasBody_17 rfl (lv_at hl 0 rfl) ?_
    refine gt_11_3 C h tx0 fl_X11_334 dX11_hasBody_18 ?_
    refine lv_imul C.1 C.2.1 dX11_hasBody_21 ?_
    refine lv_iload_n C.1 C.2.1 dX11_hasBody_22 rfl (lv_at hl 1 rfl) ?_
    refine lv_iadd C.1 C.2.1 dX11_hasBody_23 ?_
    refine lv_imul C.1 C.2.1 dX11_hasBody_24 ?_
    refine lv_iload_n C.1 C.2.1 dX11_hasBody_25 rfl (lv_at hl 2 rfl) ?_
    refine lv_iadd C.1 C.2.1 dX11_hasBody_26 ?_
    obtain ⟨hi, hM⟩ := ib_some hM
    refine h_iald C h tb_3 hi dX11_hasBody_27 ?_
    refine lv_goto (tgt := 34) C.1 C.2.1 dX11_hasBody_28 (by decide) ?_
    obtain ⟨rfl, rfl⟩ := so_inj hM
    exact h_iret C h dX11_hasBody_34
theorem cy_X11_hasBody : Cy yX11_hasBody cX11_hasBody 3 (some .int) 2 := ⟨cd_yX11_hasBody, ii_X11, by decide, by decide, by decide +kernel⟩
set_option maxRecDepth 100000 in
theorem c_X11_hasBody {l : Launch} {E : EE} {G : GG} {x0 : Nat} {x1 : Int32} {x2 : Int32} {m m9 : MM} {r9 : Int32} (hM : M_X11_hasBody G x0 x1 x2 m = some (r9, m9)) (tx0 : Ty E G x0 11) : Mc l E yX11_hasBody cX11_hasBody 3 (some .int) rmX11_hasBody [.ref x0, .int x1, .int x2] G m (cQi E r9 G m9) := M_of (by decide) (Nat.le_of_ble_eq_true rfl) (fun p e s mth below meth c C h ls hl => cM_X11_hasBody C hM tx0 _ _ h ls hl)
abbrev rmX11_value : Room := { frames := 5, cells := 0, slots := 0, locals := 115 }
def M_X11_value (G : GG) (x0 : Nat) (x1 : Int32) (x2 : Int32) (m : MM) : Option (Int32 × MM) :=
  bd (M_X11_isConst G x0 x1 x2 m) fun r_1 m_2 =>
    if r_1 = true then
      bd (M_X11_want G x0 x1 (sI m_2 x0 62 0)) fun r_3 m_4 =>
        if r_3 = true then
          nb (gR m_4 x0 57) fun b_5 =>
            ib ((12 * x1) + x2) (G.2.2 b_5) <|
              some (gI m_4 b_5 (((12 * x1) + x2).toNatClampNeg), m_4)
        else
          some (0, m_4)
    else
      some ((-1000001), m_2)
set_option maxRecDepth 100000 in
set_option maxHeartbeats 4000000 in
theorem cM_X11_value {p : Program} {l : Launch} {e : Env} {s : State} {mth : MethodId} {args : Array Value} {below : List Frame} {meth : Method} {c : Code} {E : EE} {G : GG} {r9 : Int32} {m9 : MM} (C : Cx E G p s mth args meth c cX11_value RX11 "value" 3 (some .int)) {x0 : Nat} {x1 : Int32} {x2 : Int32} {m : MM} (hM : M_X11_value G x0 x1 x2 m = some (r9, m9)) (tx0 : Ty E G x0 11) : ∀ (H : Heap) (locs : List Loc), Hp E G m s H locs → ∀ ls : Array Slot, lv_has ls 3 [(0, .ref x0), (1, .int x1), (2, .int x2)] → W p l e rmX11_value s mth args below meth c H locs 0 0 (MQ below (cQi E r9 G m9) args s 0 0 (fun q => E.2.2.1 ≤ q)) (F0 mth 0 ls []) := by
  intro H locs h ls hl
  unfold M_X11_value at hM
  refine lv_aload_n C.1 C.2.1 dX11_value_0 rfl (lv_at hl 0 rfl) ?_
  refine lv_iload_n C.1 C.2.1 dX11_value_1 rfl (lv_at hl 1 rfl) ?_
  refine lv_iload_n C.1 C.2.1 dX11_value_2 rfl (lv_at hl 2 rfl) ?_
  obtain ⟨r_1, m_2, hc_1, hM⟩ := bd_some hM
  refine h_callVi C h (As := [.int x1, .int x2]) (rest := []) (bz r_1) m_2 (c_X11_isConst hc_1 tx0) 11 rfl (by decide) tx0 im_yX11_isConst se_yX11_isConst cy_X11_isConst rfl ml_X11_396 ⟨by decide, by decide⟩ ⟨Nat.zero_le _, Nat.zero_le _⟩ hl.1 rfl (Nat.le_of_ble_eq_true rfl) dX11_value_3 (fun H locs h => ?_)
  refine h_ifnz (tgt := 13) C.1 C.2.1 dX11_value_6 (by decide) (fun q => ?_) (fun q => ?_)
  · have hM := ite_t q hM
    refine lv_aload_n C.1 C.2.1 dX11_value_13 rfl (lv_at hl 0 rfl) ?_
    refine lv_iconst (v := 0) C.1 C.2.1 dX11_value_14 (by decide) ?_
    refine pt_11_62 C h tx0 fl_X11_362 dX11_value_15 (fun H locs h => ?_)
    refine lv_aload_n C.1 C.2.1 dX11_value_18 rfl (lv_at hl 0 rfl) ?_
    refine lv_iload_n C.1 C.2.1 dX11_value_19 rfl (lv_at hl 1 rfl) ?_
    obtain ⟨r_3, m_4, hc_3, hM⟩ := bd_some hM
    refine h_callVi C h (As := [.int x1]) (rest := []) (bz r_3) m_4 (c_X11_want hc_3 tx0) 11 rfl (by decide) tx0 im_yX11_want se_yX11_want cy_X11_want rfl ml_X11_400 ⟨by decide, by decide⟩ ⟨Nat.zero_le _, Nat.zero_le _⟩ hl.1 rfl (Nat.le_of_ble_eq_true rfl) dX11_value_20 (fun H locs h => ?_)
    refine h_ifz (tgt := 40) C.1 C.2.1 dX11_value_23 (by decide) (fun q => ?_) (fun q => ?_)
    · have hM := ite_f q hM
      refine lv_iconst (v := 0) C.1 C.2.1 dX11_value_40 (by decide) ?_
      obtain ⟨rfl, rfl⟩ := so_inj hM
      exact h_iret C h dX11_value_41
    · have hM := ite_t q hM
      refine lv_aload_n C.1 C.2.1 dX11_value_26 rfl (lv_at hl 0 rfl) ?_
      refine gt_11_57 C h tx0 fl_X11_141 dX11_value_27 ?_
      obtain ⟨b_5, hb_5, hM⟩ := nb_some hM
      have tb_5 : Ty E G b_5 12 := (fun b hb => tyf h tx0 hb) _ hb_5
      refine st_ref hb_5 ?_
      refine lv_bipush (v := 12) C.1 C.2.1 dX11_value_30 (by decide) ?_
      refine lv_iload_n C.1 C.2.1 dX11_value_32 rfl (lv_at hl 1 rfl) ?_
      refine lv_imul C.1 C.2.1 dX11_value_33 ?_
      refine lv_iload_n C.1 C.2.1 dX11_value_34 rfl (lv_at hl 2 rfl) ?_
      refine lv_iadd C.1 C.2.1 dX11_value_35 ?_
      obtain ⟨hi, hM⟩ := ib_some hM
      refine h_iald C h tb_5 hi dX11_value_36 ?_
      refine lv_goto (tgt := 41) C.1 C.2.1 dX11_value_37 (by decide) ?_
      obtain ⟨rfl, rfl⟩ := so_inj hM
      exact h_iret C h dX11_value_41
  · have hM := ite_f q hM
    refine lv_ldcw C.1 C.2.1 C.2.2.2.1 (C.2.2.2.2.1 _ co_X11_395) dX11_value_9 ?_
    obtain ⟨rfl, rfl⟩ := so_inj hM
    exact h_iret C h dX11_value_12
theorem cy_X11_value : Cy yX11_value cX11_value 3 (some .int) 2 := ⟨cd_yX11_value, ii_X11, by decide, by decide, by decide +kernel⟩
set_option maxRecDepth 100000 in
theorem c_X11_value {l : Launch} {E : EE} {G : GG} {x0 : Nat} {x1 : Int32} {x2 : Int32} {m m9 : MM} {r9 : Int32} (hM : M_X11_value G x0 x1 x2 m = some (r9, m9)) (tx0 : Ty E G x0 11) : Mc l E yX11_value cX11_value 3 (some .int) rmX11_value [.ref x0, .int x1, .int x2] G m (cQi E r9 G m9) := M_of (by decide) (Nat.le_of_ble_eq_true rfl) (fun p e s mth below meth c C h ls hl => cM_X11_value C hM tx0 _ _ h ls hl)
abbrev rmX11_call : Room := { frames := 5, cells := 0, slots := 0, locals := 115 }
def B_X11_call_157 (G : GG) (x0 : Nat) (s0 : Nat) (s1 : Int32) (s2 : Int32) (s3 : Int32) (s4 : Int32) (m : MM) : Option (Int32 × MM) :=
  bd (M_X11_pushFrame G s0 s1 s2 s3 s4 m) fun _ m_2 =>
    bd (M_X11_work G x0 m_2) fun _ m_4 =>
      if (gI m_4 x0 62) = 0 then
        nb (gR m_4 x0 69) fun b_5 =>
          ib 0 (G.2.2 b_5) <|
            some (gI m_4 b_5 ((0 : Int32).toNatClampNeg), m_4)
      else
        some (0, m_4)
set_option maxRecDepth 100000 in
set_option maxHeartbeats 4000000 in
theorem cB_X11_call_157 {p : Program} {l : Launch} {e : Env} {s : State} {mth : MethodId} {args : Array Value} {below : List Frame} {meth : Method} {c : Code} {E : EE} {G : GG} {r9 : Int32} {m9 : MM} (C : Cx E G p s mth args meth c cX11_call RX11 "call" 6 (some .int)) {x0 : Nat} {s0 : Nat} {s1 : Int32} {s2 : Int32} {s3 : Int32} {s4 : Int32} {m : MM} (hM : B_X11_call_157 G x0 s0 s1 s2 s3 s4 m = some (r9, m9)) (tx0 : Ty E G x0 11) (ts0 : Ty E G s0 11) : ∀ (H : Heap) (locs : List Loc), Hp E G m s H locs → ∀ ls : Array Slot, lv_has ls 6 [(0, .ref x0)] → W p l e rmX11_call s mth args below meth c H locs 0 0 (MQ below (cQi E r9 G m9) args s 0 0 (fun q => E.2.2.1 ≤ q)) (F0 mth 157 ls [.int s4, .int s3, .int s2, .int s1, .ref s0]) := by
  intro H locs h ls hl
  unfold B_X11_call_157 at hM
  obtain ⟨r_1, m_2, hc_1, hM⟩ := bd_some hM
  refine h_callVv C h (As := [.int s1, .int s2, .int s3, .int s4]) (rest := []) m_2 (c_X11_pushFrame hc_1 ts0) 11 rfl (by decide) ts0 im_yX11_pushFrame se_yX11_pushFrame cy_X11_pushFrame rfl ml_X11_358 ⟨by decide, by decide⟩ ⟨Nat.zero_le _, Nat.zero_le _⟩ hl.1 rfl (Nat.le_of_ble_eq_true rfl) dX11_call_157 (fun H locs h => ?_)
  refine lv_aload_n C.1 C.2.1 dX11_call_160 rfl (lv_at hl 0 rfl) ?_
  obtain ⟨r_3, m_4, hc_3, hM⟩ := bd_some hM
  refine h_callVv C h (As := []) (rest := []) m_4 (c_X11_work hc_3 tx0) 11 rfl (by decide) tx0 im_yX11_work se_yX11_work cy_X11_work rfl ml_X11_389 ⟨by decide, by decide⟩ ⟨Nat.zero_le _, Nat.zero_le _⟩ hl.1 rfl (Nat.le_of_ble_eq_true rfl) dX11_call_161 (fun H locs h => ?_)
  refine lv_aload_n C.1 C.2.1 dX11_call_164 rfl (lv_at hl 0 rfl) ?_
  refine gt_11_62 C h tx0 fl_X11_362 dX11_call_165 ?_
  refine lv_if_ne (tgt := 180) C.1 C.2.1 dX11_call_168 (by decide) (fun q => ?_) (fun q => ?_)
  · have hM := ite_f q hM
    refine lv_iconst (v := 0) C.1 C.2.1 dX11_call_180 (by decide) ?_
    obtain ⟨rfl, rfl⟩ := so_inj hM
    exact h_iret C h dX11_call_181
  · have hM := ite_t q hM
    refine lv_aload_n C.1 C.2.1 dX11_call_171 rfl (lv_at hl 0 rfl) ?_
    refine gt_11_69 C h tx0 fl_X11_165 dX11_call_172 ?_
    obtain ⟨b_5, hb_5, hM⟩ := nb_some hM
    have tb_5 : Ty E G b_5 12 := (fun b hb => tyf h tx0 hb) _ hb_5
    refine st_ref hb_5 ?_
    refine lv_iconst (v := 0) C.1 C.2.1 dX11_call_175 (by decide) ?_
    obtain ⟨hi, hM⟩ := ib_some hM
    refine h_iald C h tb_5 hi dX11_call_176 ?_
    refine lv_goto (tgt := 181) C.1 C.2.1 dX11_call_177 (by decide) ?_
    obtain ⟨rfl, rfl⟩ := so_inj hM
    exact h_iret C h dX11_call_181
def B_X11_call_135 (G : GG) (x0 : Nat) (x4 : Int32) (x5 : Int32) (s0 : Nat) (s1 : Int32) (s2 : Int32) (s3 : Int32) (m : MM) : Option (Int32 × MM) :=
  if 0 ≤ x5 then
    nb (gR m x0 32) fun b_6 =>
      ib x5 (G.2.2 b_6) <|
        B_X11_call_157 G x0 s0 s1 s2 s3 (gI m b_6 x5.toNatClampNeg) m
  else
    nb (gR m x0 21) fun b_7 =>
      ib x4 (G.2.2 b_7) <|
        B_X11_call_157 G x0 s0 s1 s2 s3 (gI m b_7 x4.toNatClampNeg) m
set_option maxRecDepth 100000 in
set_option maxHeartbeats 4000000 in
theorem cB_X11_call_135 {p : Program} {l : Launch} {e : Env} {s : State} {mth : MethodId} {args : Array Value} {below : List Frame} {meth : Method} {c : Code} {E : EE} {G : GG} {r9 : Int32} {m9 : MM} (C : Cx E G p s mth args meth c cX11_call RX11 "call" 6 (some .int)) {x0 : Nat} {x4 : Int32} {x5 : Int32} {s0 : Nat} {s1 : Int32} {s2 : Int32} {s3 : Int32} {m : MM} (hM : B_X11_call_135 G x0 x4 x5 s0 s1 s2 s3 m = some (r9, m9)) (tx0 : Ty E G x0 11) (ts0 : Ty E G s0 11) : ∀ (H : Heap) (locs : List Loc), Hp E G m s H locs → ∀ ls : Array Slot, lv_has ls 6 [(0, .ref x0), (4, .int x4), (5, .int x5)] → W p l e rmX11_call s mth args below meth c H locs 0 0 (MQ below (cQi E r9 G m9) args s 0 0 (fun q => E.2.2.1 ≤ q)) (F0 mth 135 ls [.int s3, .int s2, .int s1, .ref s0]) := by
  intro H locs h ls hl
  unfold B_X11_call_135 at hM
  refine lv_iload C.1 C.2.1 dX11_call_135 (lv_at hl 2 rfl) ?_
  refine lv_if_ge (tgt := 150) C.1 C.2.1 dX11_call_137 (by decide) (fun q => ?_) (fun q => ?_)
  · have hM := ite_t q hM
    refine lv_aload_n C.1 C.2.1 dX11_call_150 rfl (lv_at hl 0 rfl) ?_
    refine gt_11_32 C h tx0 fl_X11_94 dX11_call_151 ?_
    obtain ⟨b_6, hb_6, hM⟩ := nb_some hM
    have tb_6 : Ty E G b_6 12 := (fun b hb => tyf h tx0 hb) _ hb_6
    refine st_ref hb_6 ?_
    refine lv_iload C.1 C.2.1 dX11_call_154 (lv_at hl 2 rfl) ?_
    obtain ⟨hi, hM⟩ := ib_some hM
    refine h_iald C h tb_6 hi dX11_call_156 ?_
    exact cB_X11_call_157 C hM tx0 ts0 _ _ h ls (lv_sub hl [0] rfl)
  · have hM := ite_f q hM
    refine lv_aload_n C.1 C.2.1 dX11_call_140 rfl (lv_at hl 0 rfl) ?_
    refine gt_11_21 C h tx0 fl_X11_61 dX11_call_141 ?_
    obtain ⟨b_7, hb_7, hM⟩ := nb_some hM
    have tb_7 : Ty E G b_7 12 := (fun b hb => tyf h tx0 hb) _ hb_7
    refine st_ref hb_7 ?_
    refine lv_iload C.1 C.2.1 dX11_call_144 (lv_at hl 1 rfl) ?_
    obtain ⟨hi, hM⟩ := ib_some hM
    refine h_iald C h tb_7 hi dX11_call_146 ?_
    refine lv_goto (tgt := 157) C.1 C.2.1 dX11_call_147 (by decide) ?_
    exact cB_X11_call_157 C hM tx0 ts0 _ _ h ls (lv_sub hl [0] rfl)
def M_X11_call (G : GG) (x0 : Nat) (x1 : Int32) (x2 : Int32) (x3 : Int32) (m : MM) : Option (Int32 × MM) :=
  bd (M_X11_isConst G x0 x1 x2 m) fun r_8 m_9 =>
    if r_8 = true then
      nb (gR m_9 x0 10) fun b_10 =>
        ib ((8 * (gI m_9 x0 3)) + x1) (G.2.2 b_10) <|
          bd (M_X11_in G x3 0 ((gI m_9 b_10 (((8 * (gI m_9 x0 3)) + x1).toNatClampNeg)) - 1) m_9) fun r_11 m_12 =>
            if r_11 = true then
              bd (M_X11_want G x0 x1 (sI m_12 x0 62 0)) fun r_13 m_14 =>
                if r_13 = true then
                  nb (gR (sI m_14 x0 4 (gI m_14 x0 3)) x0 18) fun b_15 =>
                    ib ((8 * ((8 * (gI (sI m_14 x0 4 (gI m_14 x0 3)) x0 3)) + x1)) + x3) (G.2.2 b_15) <|
                      nb (gR (sI m_14 x0 4 (gI m_14 x0 3)) x0 19) fun b_16 =>
                        ib ((8 * ((8 * (gI (sI m_14 x0 4 (gI m_14 x0 3)) x0 3)) + x1)) + x3) (G.2.2 b_16) <|
                          bd (M_X11_giveBy G x0 ((12 * ((8 * (gI (sI m_14 x0 4 (gI m_14 x0 3)) x0 3)) + x1)) + x2) (gI (sI m_14 x0 4 (gI m_14 x0 3)) b_15 (((8 * ((8 * (gI (sI m_14 x0 4 (gI m_14 x0 3)) x0 3)) + x1)) + x3).toNatClampNeg)) (gI (sI m_14 x0 4 (gI m_14 x0 3)) b_16 (((8 * ((8 * (gI (sI m_14 x0 4 (gI m_14 x0 3)) x0 3)) + x1)) + x3).toNatClampNeg)) (sI m_14 x0 4 (gI m_14 x0 3))) fun r_17 m_18 =>
                            if 0 ≤ r_17 then
                              nb (gR m_18 x0 31) fun b_19 =>
                                ib r_17 (G.2.2 b_19) <|
                                  B_X11_call_135 G x0 ((8 * ((8 * (gI (sI m_14 x0 4 (gI m_14 x0 3)) x0 3)) + x1)) + x3) r_17 x0 x1 x2 (gI m_18 b_19 r_17.toNatClampNeg) m_18
                            else
                              nb (gR m_18 x0 20) fun b_20 =>
                                ib ((8 * ((8 * (gI (sI m_14 x0 4 (gI m_14 x0 3)) x0 3)) + x1)) + x3) (G.2.2 b_20) <|
                                  B_X11_call_135 G x0 ((8 * ((8 * (gI (sI m_14 x0 4 (gI m_14 x0 3)) x0 3)) + x1)) + x3) r_17 x0 x1 x2 (gI m_18 b_20 (((8 * ((8 * (gI (sI m_14 x0 4 (gI m_14 x0 3)) x0 3)) + x1)) + x3).toNatClampNeg)) m_18
                else
                  some (0, m_14)
            else
              some ((-1000001), m_12)
    else
      some ((-1000001), m_9)
set_option maxRecDepth 100000 in
set_option maxHeartbeats 4000000 in
theorem cM_X11_call {p : Program} {l : Launch} {e : Env} {s : State} {mth : MethodId} {args : Array Value} {below : List Frame} {meth : Method} {c : Code} {E : EE} {G : GG} {r9 : Int32} {m9 : MM} (C : Cx E G p s mth args meth c cX11_call RX11 "call" 6 (some .int)) {x0 : Nat} {x1 : Int32} {x2 : Int32} {x3 : Int32} {m : MM} (hM : M_X11_call G x0 x1 x2 x3 m = some (r9, m9)) (tx0 : Ty E G x0 11) : ∀ (H : Heap) (locs : List Loc), Hp E G m s H locs → ∀ ls : Array Slot, lv_has ls 6 [(0, .ref x0), (1, .int x1), (2, .int x2), (3, .int x3)] → W p l e rmX11_call s mth args below meth c H locs 0 0 (MQ below (cQi E r9 G m9) args s 0 0 (fun q => E.2.2.1 ≤ q)) (F0 mth 0 ls []) := by
  intro H locs h ls hl
  unfold M_X11_call at hM
  refine lv_aload_n C.1 C.2.1 dX11_call_0 rfl (lv_at hl 0 rfl) ?_
  refine lv_iload_n C.1 C.2.1 dX11_call_1 rfl (lv_at hl 1 rfl) ?_
  refine lv_iload_n C.1 C.2.1 dX11_call_2 rfl (lv_at hl 2 rfl) ?_
  obtain ⟨r_8, m_9, hc_8, hM⟩ := bd_some hM
  refine h_callVi C h (As := [.int x1, .int x2]) (rest := []) (bz r_8) m_9 (c_X11_isConst hc_8 tx0) 11 rfl (by decide) tx0 im_yX11_isConst se_yX11_isConst cy_X11_isConst rfl ml_X11_396 ⟨by decide, by decide⟩ ⟨Nat.zero_le _, Nat.zero_le _⟩ hl.1 rfl (Nat.le_of_ble_eq_true rfl) dX11_call_3 (fun H locs h => ?_)
  refine h_ifz (tgt := 33) C.1 C.2.1 dX11_call_6 (by decide) (fun q => ?_) (fun q => ?_)
  · have hM := ite_f q hM
    refine lv_ldcw C.1 C.2.1 C.2.2.2.1 (C.2.2.2.2.1 _ co_X11_395) dX11_call_33 ?_
    obtain ⟨rfl, rfl⟩ := so_inj hM
    exact h_iret C h dX11_call_36
  · have hM := ite_t q hM
    refine lv_iload_n C.1 C.2.1 dX11_call_9 rfl (lv_at hl 3 rfl) ?_
    refine lv_iconst (v := 0) C.1 C.2.1 dX11_call_10 (by decide) ?_
    refine lv_aload_n C.1 C.2.1 dX11_call_11 rfl (lv_at hl 0 rfl) ?_
    refine gt_11_10 C h tx0 fl_X11_28 dX11_call_12 ?_
    obtain ⟨b_10, hb_10, hM⟩ := nb_some hM
    have tb_10 : Ty E G b_10 12 := (fun b hb => tyf h tx0 hb) _ hb_10
    refine st_ref hb_10 ?_
    refine lv_bipush (v := 8) C.1 C.2.1 dX11_call_15 (by decide) ?_
    refine lv_aload_n C.1 C.2.1 dX11_call_17 rfl (lv_at hl 0 rfl) ?_
    refine gt_11_3 C h tx0 fl_X11_334 dX11_call_18 ?_
    refine lv_imul C.1 C.2.1 dX11_call_21 ?_
    refine lv_iload_n C.1 C.2.1 dX11_call_22 rfl (lv_at hl 1 rfl) ?_
    refine lv_iadd C.1 C.2.1 dX11_call_23 ?_
    obtain ⟨hi, hM⟩ := ib_some hM
    refine h_iald C h tb_10 hi dX11_call_24 ?_
    refine lv_iconst (v := 1) C.1 C.2.1 dX11_call_25 (by decide) ?_
    refine lv_isub C.1 C.2.1 dX11_call_26 ?_
    obtain ⟨r_11, m_12, hc_11, hM⟩ := bd_some hM
    refine h_callSi C h (As := [.int x3, .int 0, .int ((gI m_9 b_10 (((8 * (gI m_9 x0 3)) + x1).toNatClampNeg)) - 1)]) (rest := []) (bz r_11) m_12 (c_X11_in hc_11 ) st_yX11_in cy_X11_in rfl ml_X11_175 ⟨by decide, by decide⟩ ⟨Nat.zero_le _, Nat.zero_le _⟩ hl.1 rfl (Nat.le_of_ble_eq_true rfl) dX11_call_27 (fun H locs h => ?_)
    refine h_ifnz (tgt := 37) C.1 C.2.1 dX11_call_30 (by decide) (fun q => ?_) (fun q => ?_)
    · have hM := ite_t q hM
      refine lv_aload_n C.1 C.2.1 dX11_call_37 rfl (lv_at hl 0 rfl) ?_
      refine lv_iconst (v := 0) C.1 C.2.1 dX11_call_38 (by decide) ?_
      refine pt_11_62 C h tx0 fl_X11_362 dX11_call_39 (fun H locs h => ?_)
      refine lv_aload_n C.1 C.2.1 dX11_call_42 rfl (lv_at hl 0 rfl) ?_
      refine lv_iload_n C.1 C.2.1 dX11_call_43 rfl (lv_at hl 1 rfl) ?_
      obtain ⟨r_13, m_14, hc_13, hM⟩ := bd_some hM
      refine h_callVi C h (As := [.int x1]) (rest := []) (bz r_13) m_14 (c_X11_want hc_13 tx0) 11 rfl (by decide) tx0 im_yX11_want se_yX11_want cy_X11_want rfl ml_X11_400 ⟨by decide, by decide⟩ ⟨Nat.zero_le _, Nat.zero_le _⟩ hl.1 rfl (Nat.le_of_ble_eq_true rfl) dX11_call_44 (fun H locs h => ?_)
      refine h_ifnz (tgt := 52) C.1 C.2.1 dX11_call_47 (by decide) (fun q => ?_) (fun q => ?_)
      · have hM := ite_t q hM
        refine lv_aload_n C.1 C.2.1 dX11_call_52 rfl (lv_at hl 0 rfl) ?_
        refine lv_aload_n C.1 C.2.1 dX11_call_53 rfl (lv_at hl 0 rfl) ?_
        refine gt_11_3 C h tx0 fl_X11_334 dX11_call_54 ?_
        refine pt_11_4 C h tx0 fl_X11_183 dX11_call_57 (fun H locs h => ?_)
        refine lv_bipush (v := 8) C.1 C.2.1 dX11_call_60 (by decide) ?_
        refine lv_bipush (v := 8) C.1 C.2.1 dX11_call_62 (by decide) ?_
        refine lv_aload_n C.1 C.2.1 dX11_call_64 rfl (lv_at hl 0 rfl) ?_
        refine gt_11_3 C h tx0 fl_X11_334 dX11_call_65 ?_
        refine lv_imul C.1 C.2.1 dX11_call_68 ?_
        refine lv_iload_n C.1 C.2.1 dX11_call_69 rfl (lv_at hl 1 rfl) ?_
        refine lv_iadd C.1 C.2.1 dX11_call_70 ?_
        refine lv_imul C.1 C.2.1 dX11_call_71 ?_
        refine lv_iload_n C.1 C.2.1 dX11_call_72 rfl (lv_at hl 3 rfl) ?_
        refine lv_iadd C.1 C.2.1 dX11_call_73 ?_
        refine lv_istore (lv' := [(4, .int ((8 * ((8 * (gI (sI m_14 x0 4 (gI m_14 x0 3)) x0 3)) + x1)) + x3)), (0, .ref x0), (1, .int x1), (2, .int x2), (3, .int x3)]) C.1 C.2.1 dX11_call_74 hl (by decide) rfl (fun ls hl => ?_)
        refine lv_aload_n C.1 C.2.1 dX11_call_76 rfl (lv_at hl 1 rfl) ?_
        refine lv_bipush (v := 12) C.1 C.2.1 dX11_call_77 (by decide) ?_
        refine lv_bipush (v := 8) C.1 C.2.1 dX11_call_79 (by decide) ?_
        refine lv_aload_n C.1 C.2.1 dX11_call_81 rfl (lv_at hl 1 rfl) ?_
        refine gt_11_3 C h tx0 fl_X11_334 dX11_call_82 ?_
        refine lv_imul C.1 C.2.1 dX11_call_85 ?_
        refine lv_iload_n C.1 C.2.1 dX11_call_86 rfl (lv_at hl 2 rfl) ?_
        refine lv_iadd C.1 C.2.1 dX11_call_87 ?_
        refine lv_imul C.1 C.2.1 dX11_call_88 ?_
        refine lv_iload_n C.1 C.2.1 dX11_call_89 rfl (lv_at hl 3 rfl) ?_
        refine lv_iadd C.1 C.2.1 dX11_call_90 ?_
        refine lv_aload_n C.1 C.2.1 dX11_call_91 rfl (lv_at hl 1 rfl) ?_
        refine gt_11_18 C h tx0 fl_X11_52 dX11_call_92 ?_
        obtain ⟨b_15, hb_15, hM⟩ := nb_some hM
        have tb_15 : Ty E G b_15 12 := (fun b hb => tyf h tx0 hb) _ hb_15
        refine st_ref hb_15 ?_
        refine lv_iload C.1 C.2.1 dX11_call_95 (lv_at hl 0 rfl) ?_
        obtain ⟨hi, hM⟩ := ib_some hM
        refine h_iald C h tb_15 hi dX11_call_97 ?_
        refine lv_aload_n C.1 C.2.1 dX11_call_98 rfl (lv_at hl 1 rfl) ?_
        refine gt_11_19 C h tx0 fl_X11_55 dX11_call_99 ?_
        obtain ⟨b_16, hb_16, hM⟩ := nb_some hM
        have tb_16 : Ty E G b_16 12 := (fun b hb => tyf h tx0 hb) _ hb_16
        refine st_ref hb_16 ?_
        refine lv_iload C.1 C.2.1 dX11_call_102 (lv_at hl 0 rfl) ?_
        obtain ⟨hi, hM⟩ := ib_some hM
        refine h_iald C h tb_16 hi dX11_call_104 ?_
        obtain ⟨r_17, m_18, hc_17, hM⟩ := bd_some hM
        refine h_callVi C h (As := [.int ((12 * ((8 * (gI (sI m_14 x0 4 (gI m_14 x0 3)) x0 3)) + x1)) + x2), .int (gI (sI m_14 x0 4 (gI m_14 x0 3)) b_15 (((8 * ((8 * (gI (sI m_14 x0 4 (gI m_14 x0 3)) x0 3)) + x1)) + x3).toNatClampNeg)), .int (gI (sI m_14 x0 4 (gI m_14 x0 3)) b_16 (((8 * ((8 * (gI (sI m_14 x0 4 (gI m_14 x0 3)) x0 3)) + x1)) + x3).toNatClampNeg))]) (rest := []) r_17 m_18 (c_X11_giveBy hc_17 tx0) 11 rfl (by decide) tx0 im_yX11_giveBy se_yX11_giveBy cy_X11_giveBy rfl ml_X11_315 ⟨by decide, by decide⟩ ⟨Nat.zero_le _, Nat.zero_le _⟩ hl.1 rfl (Nat.le_of_ble_eq_true rfl) dX11_call_105 (fun H locs h => ?_)
        refine lv_istore (lv' := [(5, .int r_17), (4, .int ((8 * ((8 * (gI (sI m_14 x0 4 (gI m_14 x0 3)) x0 3)) + x1)) + x3)), (0, .ref x0), (1, .int x1), (2, .int x2), (3, .int x3)]) C.1 C.2.1 dX11_call_108 hl (by decide) rfl (fun ls hl => ?_)
        refine lv_aload_n C.1 C.2.1 dX11_call_110 rfl (lv_at hl 2 rfl) ?_
        refine lv_iload_n C.1 C.2.1 dX11_call_111 rfl (lv_at hl 3 rfl) ?_
        refine lv_iload_n C.1 C.2.1 dX11_call_112 rfl (lv_at hl 4 rfl) ?_
        refine lv_iload C.1 C.2.1 dX11_call_113 (lv_at hl 0 rfl) ?_
        refine lv_if_ge (tgt := 128) C.1 C.2.1 dX11_call_115 (by decide) (fun q => ?_) (fun q => ?_)
        · have hM := ite_t q hM
          refine lv_aload_n C.1 C.2.1 dX11_call_128 rfl (lv_at hl 2 rfl) ?_
          refine gt_11_31 C h tx0 fl_X11_91 dX11_call_129 ?_
          obtain ⟨b_19, hb_19, hM⟩ := nb_some hM
          have tb_19 : Ty E G b_19 12 := (fun b hb => tyf h tx0 hb) _ hb_19
          refine st_ref hb_19 ?_
          refine lv_iload C.1 C.2.1 dX11_call_132 (lv_at hl 0 rfl) ?_
          obtain ⟨hi, hM⟩ := ib_some hM
          refine h_iald C h tb_19 hi dX11_call_134 ?_
          exact cB_X11_call_135 C hM tx0 tx0 _ _ h ls (lv_sub hl [2, 1, 0] rfl)
        · have hM := ite_f q hM
          refine lv_aload_n C.1 C.2.1 dX11_call_118 rfl (lv_at hl 2 rfl) ?_
          refine gt_11_20 C h tx0 fl_X11_58 dX11_call_119 ?_
          obtain ⟨b_20, hb_20, hM⟩ := nb_some hM
          have tb_20 : Ty E G b_20 12 := (fun b hb => tyf h tx0 hb) _ hb_20
          refine st_ref hb_20 ?_
          refine lv_iload C.1 C.2.1 dX11_call_122 (lv_at hl 1 rfl) ?_
          obtain ⟨hi, hM⟩ := ib_some hM
          refine h_iald C h tb_20 hi dX11_call_124 ?_
          refine lv_goto (tgt := 135) C.1 C.2.1 dX11_call_125 (by decide) ?_
          exact cB_X11_call_135 C hM tx0 tx0 _ _ h ls (lv_sub hl [2, 1, 0] rfl)
      · have hM := ite_f q hM
        refine lv_iconst (v := 0) C.1 C.2.1 dX11_call_50 (by decide) ?_
        obtain ⟨rfl, rfl⟩ := so_inj hM
        exact h_iret C h dX11_call_51
    · have hM := ite_f q hM
      refine lv_ldcw C.1 C.2.1 C.2.2.2.1 (C.2.2.2.2.1 _ co_X11_395) dX11_call_33 ?_
      obtain ⟨rfl, rfl⟩ := so_inj hM
      exact h_iret C h dX11_call_36
theorem cy_X11_call : Cy yX11_call cX11_call 6 (some .int) 3 := ⟨cd_yX11_call, ii_X11, by decide, by decide, by decide +kernel⟩
set_option maxRecDepth 100000 in
theorem c_X11_call {l : Launch} {E : EE} {G : GG} {x0 : Nat} {x1 : Int32} {x2 : Int32} {x3 : Int32} {m m9 : MM} {r9 : Int32} (hM : M_X11_call G x0 x1 x2 x3 m = some (r9, m9)) (tx0 : Ty E G x0 11) : Mc l E yX11_call cX11_call 6 (some .int) rmX11_call [.ref x0, .int x1, .int x2, .int x3] G m (cQi E r9 G m9) := M_of (by decide) (Nat.le_of_ble_eq_true rfl) (fun p e s mth below meth c C h ls hl => cM_X11_call C hM tx0 _ _ h ls hl)
abbrev rmX11_field : Room := { frames := 5, cells := 0, slots := 0, locals := 115 }
def M_X11_field (G : GG) (x0 : Nat) (x1 : Int32) (x2 : Int32) (m : MM) : Option (Int32 × MM) :=
  bd (M_X11_isEnum G x0 x1 m) fun r_1 m_2 =>
    if r_1 = true then
      nb (gR m_2 x0 11) fun b_3 =>
        ib ((8 * (gI m_2 x0 3)) + x1) (G.2.2 b_3) <|
          bd (M_X11_in G x2 0 ((gI m_2 b_3 (((8 * (gI m_2 x0 3)) + x1).toNatClampNeg)) - 1) m_2) fun r_4 m_5 =>
            if r_4 = true then
              nb (gR (sI m_5 x0 62 0) x0 25) fun b_6 =>
                ib ((6 * ((8 * (gI (sI m_5 x0 62 0) x0 3)) + x1)) + x2) (G.2.2 b_6) <|
                  if 0 ≤ (gI (sI m_5 x0 62 0) b_6 (((6 * ((8 * (gI (sI m_5 x0 62 0) x0 3)) + x1)) + x2).toNatClampNeg)) then
                    bd (M_X11_want G x0 x1 (sI m_5 x0 62 0)) fun r_7 m_8 =>
                      if r_7 = true then
                        nb (gR m_8 x0 58) fun b_9 =>
                          ib ((6 * x1) + x2) (G.2.2 b_9) <|
                            some (gI m_8 b_9 (((6 * x1) + x2).toNatClampNeg), m_8)
                      else
                        some (0, m_8)
                  else
                    nb (gR (sI m_5 x0 62 0) x0 24) fun b_10 =>
                      ib ((6 * ((8 * (gI (sI m_5 x0 62 0) x0 3)) + x1)) + x2) (G.2.2 b_10) <|
                        some (gI (sI m_5 x0 62 0) b_10 (((6 * ((8 * (gI (sI m_5 x0 62 0) x0 3)) + x1)) + x2).toNatClampNeg), sI m_5 x0 62 0)
            else
              some ((-1000001), m_5)
    else
      some ((-1000001), m_2)
set_option maxRecDepth 100000 in
set_option maxHeartbeats 4000000 in
theorem cM_X11_field {p : Program} {l : Launch} {e : Env} {s : State} {mth : MethodId} {args : Array Value} {below : List Frame} {meth : Method} {c : Code} {E : EE} {G : GG} {r9 : Int32} {m9 : MM} (C : Cx E G p s mth args meth c cX11_field RX11 "field" 4 (some .int)) {x0 : Nat} {x1 : Int32} {x2 : Int32} {m : MM} (hM : M_X11_field G x0 x1 x2 m = some (r9, m9)) (tx0 : Ty E G x0 11) : ∀ (H : Heap) (locs : List Loc), Hp E G m s H locs → ∀ ls : Array Slot, lv_has ls 4 [(0, .ref x0), (1, .int x1), (2, .int x2)] → W p l e rmX11_field s mth args below meth c H locs 0 0 (MQ below (cQi E r9 G m9) args s 0 0 (fun q => E.2.2.1 ≤ q)) (F0 mth 0 ls []) := by
  intro H locs h ls hl
  unfold M_X11_field at hM
  refine lv_aload_n C.1 C.2.1 dX11_field_0 rfl (lv_at hl 0 rfl) ?_
  refine lv_iload_n C.1 C.2.1 dX11_field_1 rfl (lv_at hl 1 rfl) ?_
  obtain ⟨r_1, m_2, hc_1, hM⟩ := bd_some hM
  refine h_callVi C h (As := [.int x1]) (rest := []) (bz r_1) m_2 (c_X11_isEnum hc_1 tx0) 11 rfl (by decide) tx0 im_yX11_isEnum se_yX11_isEnum cy_X11_isEnum rfl ml_X11_392 ⟨by decide, by decide⟩ ⟨Nat.zero_le _, Nat.zero_le _⟩ hl.1 rfl (Nat.le_of_ble_eq_true rfl) dX11_field_2 (fun H locs h => ?_)
  refine h_ifz (tgt := 32) C.1 C.2.1 dX11_field_5 (by decide) (fun q => ?_) (fun q => ?_)
  · have hM := ite_f q hM
    refine lv_ldcw C.1 C.2.1 C.2.2.2.1 (C.2.2.2.2.1 _ co_X11_395) dX11_field_32 ?_
    obtain ⟨rfl, rfl⟩ := so_inj hM
    exact h_iret C h dX11_field_35
  · have hM := ite_t q hM
    refine lv_iload_n C.1 C.2.1 dX11_field_8 rfl (lv_at hl 2 rfl) ?_
    refine lv_iconst (v := 0) C.1 C.2.1 dX11_field_9 (by decide) ?_
    refine lv_aload_n C.1 C.2.1 dX11_field_10 rfl (lv_at hl 0 rfl) ?_
    refine gt_11_11 C h tx0 fl_X11_31 dX11_field_11 ?_
    obtain ⟨b_3, hb_3, hM⟩ := nb_some hM
    have tb_3 : Ty E G b_3 12 := (fun b hb => tyf h tx0 hb) _ hb_3
    refine st_ref hb_3 ?_
    refine lv_bipush (v := 8) C.1 C.2.1 dX11_field_14 (by decide) ?_
    refine lv_aload_n C.1 C.2.1 dX11_field_16 rfl (lv_at hl 0 rfl) ?_
    refine gt_11_3 C h tx0 fl_X11_334 dX11_field_17 ?_
    refine lv_imul C.1 C.2.1 dX11_field_20 ?_
    refine lv_iload_n C.1 C.2.1 dX11_field_21 rfl (lv_at hl 1 rfl) ?_
    refine lv_iadd C.1 C.2.1 dX11_field_22 ?_
    obtain ⟨hi, hM⟩ := ib_some hM
    refine h_iald C h tb_3 hi dX11_field_23 ?_
    refine lv_iconst (v := 1) C.1 C.2.1 dX11_field_24 (by decide) ?_
    refine lv_isub C.1 C.2.1 dX11_field_25 ?_
    obtain ⟨r_4, m_5, hc_4, hM⟩ := bd_some hM
    refine h_callSi C h (As := [.int x2, .int 0, .int ((gI m_2 b_3 (((8 * (gI m_2 x0 3)) + x1).toNatClampNeg)) - 1)]) (rest := []) (bz r_4) m_5 (c_X11_in hc_4 ) st_yX11_in cy_X11_in rfl ml_X11_175 ⟨by decide, by decide⟩ ⟨Nat.zero_le _, Nat.zero_le _⟩ hl.1 rfl (Nat.le_of_ble_eq_true rfl) dX11_field_26 (fun H locs h => ?_)
    refine h_ifnz (tgt := 36) C.1 C.2.1 dX11_field_29 (by decide) (fun q => ?_) (fun q => ?_)
    · have hM := ite_t q hM
      refine lv_aload_n C.1 C.2.1 dX11_field_36 rfl (lv_at hl 0 rfl) ?_
      refine lv_iconst (v := 0) C.1 C.2.1 dX11_field_37 (by decide) ?_
      refine pt_11_62 C h tx0 fl_X11_362 dX11_field_38 (fun H locs h => ?_)
      refine lv_bipush (v := 6) C.1 C.2.1 dX11_field_41 (by decide) ?_
      refine lv_bipush (v := 8) C.1 C.2.1 dX11_field_43 (by decide) ?_
      refine lv_aload_n C.1 C.2.1 dX11_field_45 rfl (lv_at hl 0 rfl) ?_
      refine gt_11_3 C h tx0 fl_X11_334 dX11_field_46 ?_
      refine lv_imul C.1 C.2.1 dX11_field_49 ?_
      refine lv_iload_n C.1 C.2.1 dX11_field_50 rfl (lv_at hl 1 rfl) ?_
      refine lv_iadd C.1 C.2.1 dX11_field_51 ?_
      refine lv_imul C.1 C.2.1 dX11_field_52 ?_
      refine lv_iload_n C.1 C.2.1 dX11_field_53 rfl (lv_at hl 2 rfl) ?_
      refine lv_iadd C.1 C.2.1 dX11_field_54 ?_
      refine lv_istore_n (lv' := [(3, .int ((6 * ((8 * (gI (sI m_5 x0 62 0) x0 3)) + x1)) + x2)), (0, .ref x0), (1, .int x1), (2, .int x2)]) C.1 C.2.1 dX11_field_55 rfl hl (by decide) rfl (fun ls hl => ?_)
      refine lv_aload_n C.1 C.2.1 dX11_field_56 rfl (lv_at hl 1 rfl) ?_
      refine gt_11_25 C h tx0 fl_X11_73 dX11_field_57 ?_
      obtain ⟨b_6, hb_6, hM⟩ := nb_some hM
      have tb_6 : Ty E G b_6 12 := (fun b hb => tyf h tx0 hb) _ hb_6
      refine st_ref hb_6 ?_
      refine lv_iload_n C.1 C.2.1 dX11_field_60 rfl (lv_at hl 0 rfl) ?_
      obtain ⟨hi, hM⟩ := ib_some hM
      refine h_iald C h tb_6 hi dX11_field_61 ?_
      refine lv_if_ge (tgt := 72) C.1 C.2.1 dX11_field_62 (by decide) (fun q => ?_) (fun q => ?_)
      · have hM := ite_t q hM
        refine lv_aload_n C.1 C.2.1 dX11_field_72 rfl (lv_at hl 1 rfl) ?_
        refine lv_iload_n C.1 C.2.1 dX11_field_73 rfl (lv_at hl 2 rfl) ?_
        obtain ⟨r_7, m_8, hc_7, hM⟩ := bd_some hM
        refine h_callVi C h (As := [.int x1]) (rest := []) (bz r_7) m_8 (c_X11_want hc_7 tx0) 11 rfl (by decide) tx0 im_yX11_want se_yX11_want cy_X11_want rfl ml_X11_400 ⟨by decide, by decide⟩ ⟨Nat.zero_le _, Nat.zero_le _⟩ hl.1 rfl (Nat.le_of_ble_eq_true rfl) dX11_field_74 (fun H locs h => ?_)
        refine h_ifz (tgt := 94) C.1 C.2.1 dX11_field_77 (by decide) (fun q => ?_) (fun q => ?_)
        · have hM := ite_f q hM
          refine lv_iconst (v := 0) C.1 C.2.1 dX11_field_94 (by decide) ?_
          obtain ⟨rfl, rfl⟩ := so_inj hM
          exact h_iret C h dX11_field_95
        · have hM := ite_t q hM
          refine lv_aload_n C.1 C.2.1 dX11_field_80 rfl (lv_at hl 1 rfl) ?_
          refine gt_11_58 C h tx0 fl_X11_144 dX11_field_81 ?_
          obtain ⟨b_9, hb_9, hM⟩ := nb_some hM
          have tb_9 : Ty E G b_9 12 := (fun b hb => tyf h tx0 hb) _ hb_9
          refine st_ref hb_9 ?_
          refine lv_bipush (v := 6) C.1 C.2.1 dX11_field_84 (by decide) ?_
          refine lv_iload_n C.1 C.2.1 dX11_field_86 rfl (lv_at hl 2 rfl) ?_
          refine lv_imul C.1 C.2.1 dX11_field_87 ?_
          refine lv_iload_n C.1 C.2.1 dX11_field_88 rfl (lv_at hl 3 rfl) ?_
          refine lv_iadd C.1 C.2.1 dX11_field_89 ?_
          obtain ⟨hi, hM⟩ := ib_some hM
          refine h_iald C h tb_9 hi dX11_field_90 ?_
          refine lv_goto (tgt := 95) C.1 C.2.1 dX11_field_91 (by decide) ?_
          obtain ⟨rfl, rfl⟩ := so_inj hM
          exact h_iret C h dX11_field_95
      · have hM := ite_f q hM
        refine lv_aload_n C.1 C.2.1 dX11_field_65 rfl (lv_at hl 1 rfl) ?_
        refine gt_11_24 C h tx0 fl_X11_70 dX11_field_66 ?_
        obtain ⟨b_10, hb_10, hM⟩ := nb_some hM
        have tb_10 : Ty E G b_10 12 := (fun b hb => tyf h tx0 hb) _ hb_10
        refine st_ref hb_10 ?_
        refine lv_iload_n C.1 C.2.1 dX11_field_69 rfl (lv_at hl 0 rfl) ?_
        obtain ⟨hi, hM⟩ := ib_some hM
        refine h_iald C h tb_10 hi dX11_field_70 ?_
        obtain ⟨rfl, rfl⟩ := so_inj hM
        exact h_iret C h dX11_field_71
    · have hM := ite_f q hM
      refine lv_ldcw C.1 C.2.1 C.2.2.2.1 (C.2.2.2.2.1 _ co_X11_395) dX11_field_32 ?_
      obtain ⟨rfl, rfl⟩ := so_inj hM
      exact h_iret C h dX11_field_35
theorem cy_X11_field : Cy yX11_field cX11_field 4 (some .int) 2 := ⟨cd_yX11_field, ii_X11, by decide, by decide, by decide +kernel⟩
set_option maxRecDepth 100000 in
theorem c_X11_field {l : Launch} {E : EE} {G : GG} {x0 : Nat} {x1 : Int32} {x2 : Int32} {m m9 : MM} {r9 : Int32} (hM : M_X11_field G x0 x1 x2 m = some (r9, m9)) (tx0 : Ty E G x0 11) : Mc l E yX11_field cX11_field 4 (some .int) rmX11_field [.ref x0, .int x1, .int x2] G m (cQi E r9 G m9) := M_of (by decide) (Nat.le_of_ble_eq_true rfl) (fun p e s mth below meth c C h ls hl => cM_X11_field C hM tx0 _ _ h ls hl)
abbrev rmX11_compare : Room := { frames := 5, cells := 0, slots := 0, locals := 115 }
def M_X11_compare (G : GG) (x0 : Nat) (x1 : Int32) (x2 : Int32) (x3 : Int32) (x4 : Int32) (m : MM) : Option (Int32 × MM) :=
  bd (M_X11_isConst G x0 x1 x2 m) fun r_1 m_2 =>
    if r_1 = true then
      bd (M_X11_isConst G x0 x3 x4 m_2) fun r_3 m_4 =>
        if r_3 = true then
          bd (M_X11_want G x0 x1 (sI m_4 x0 62 0)) fun r_5 m_6 =>
            if r_5 = true then
              bd (M_X11_want G x0 x3 m_6) fun r_7 m_8 =>
                if r_7 = true then
                  if x1 = x3 then
                    if x4 ≤ x2 then
                      if x2 = x4 then
                        some (2, m_8)
                      else
                        some (3, m_8)
                    else
                      some (1, m_8)
                  else
                    bd (M_X11_fails G x0 5 m_8) fun _ m_10 =>
                      some (0, m_10)
                else
                  some (0, m_8)
            else
              some (0, m_6)
        else
          some ((-1000001), m_4)
    else
      some ((-1000001), m_2)
set_option maxRecDepth 100000 in
set_option maxHeartbeats 4000000 in
theorem cM_X11_compare {p : Program} {l : Launch} {e : Env} {s : State} {mth : MethodId} {args : Array Value} {below : List Frame} {meth : Method} {c : Code} {E : EE} {G : GG} {r9 : Int32} {m9 : MM} (C : Cx E G p s mth args meth c cX11_compare RX11 "compare" 5 (some .int)) {x0 : Nat} {x1 : Int32} {x2 : Int32} {x3 : Int32} {x4 : Int32} {m : MM} (hM : M_X11_compare G x0 x1 x2 x3 x4 m = some (r9, m9)) (tx0 : Ty E G x0 11) : ∀ (H : Heap) (locs : List Loc), Hp E G m s H locs → ∀ ls : Array Slot, lv_has ls 5 [(0, .ref x0), (1, .int x1), (2, .int x2), (3, .int x3), (4, .int x4)] → W p l e rmX11_compare s mth args below meth c H locs 0 0 (MQ below (cQi E r9 G m9) args s 0 0 (fun q => E.2.2.1 ≤ q)) (F0 mth 0 ls []) := by
  intro H locs h ls hl
  unfold M_X11_compare at hM
  refine lv_aload_n C.1 C.2.1 dX11_compare_0 rfl (lv_at hl 0 rfl) ?_
  refine lv_iload_n C.1 C.2.1 dX11_compare_1 rfl (lv_at hl 1 rfl) ?_
  refine lv_iload_n C.1 C.2.1 dX11_compare_2 rfl (lv_at hl 2 rfl) ?_
  obtain ⟨r_1, m_2, hc_1, hM⟩ := bd_some hM
  refine h_callVi C h (As := [.int x1, .int x2]) (rest := []) (bz r_1) m_2 (c_X11_isConst hc_1 tx0) 11 rfl (by decide) tx0 im_yX11_isConst se_yX11_isConst cy_X11_isConst rfl ml_X11_396 ⟨by decide, by decide⟩ ⟨Nat.zero_le _, Nat.zero_le _⟩ hl.1 rfl (Nat.le_of_ble_eq_true rfl) dX11_compare_3 (fun H locs h => ?_)
  refine h_ifz (tgt := 19) C.1 C.2.1 dX11_compare_6 (by decide) (fun q => ?_) (fun q => ?_)
  · have hM := ite_f q hM
    refine lv_ldcw C.1 C.2.1 C.2.2.2.1 (C.2.2.2.2.1 _ co_X11_395) dX11_compare_19 ?_
    obtain ⟨rfl, rfl⟩ := so_inj hM
    exact h_iret C h dX11_compare_22
  · have hM := ite_t q hM
    refine lv_aload_n C.1 C.2.1 dX11_compare_9 rfl (lv_at hl 0 rfl) ?_
    refine lv_iload_n C.1 C.2.1 dX11_compare_10 rfl (lv_at hl 3 rfl) ?_
    refine lv_iload C.1 C.2.1 dX11_compare_11 (lv_at hl 4 rfl) ?_
    obtain ⟨r_3, m_4, hc_3, hM⟩ := bd_some hM
    refine h_callVi C h (As := [.int x3, .int x4]) (rest := []) (bz r_3) m_4 (c_X11_isConst hc_3 tx0) 11 rfl (by decide) tx0 im_yX11_isConst se_yX11_isConst cy_X11_isConst rfl ml_X11_396 ⟨by decide, by decide⟩ ⟨Nat.zero_le _, Nat.zero_le _⟩ hl.1 rfl (Nat.le_of_ble_eq_true rfl) dX11_compare_13 (fun H locs h => ?_)
    refine h_ifnz (tgt := 23) C.1 C.2.1 dX11_compare_16 (by decide) (fun q => ?_) (fun q => ?_)
    · have hM := ite_t q hM
      refine lv_aload_n C.1 C.2.1 dX11_compare_23 rfl (lv_at hl 0 rfl) ?_
      refine lv_iconst (v := 0) C.1 C.2.1 dX11_compare_24 (by decide) ?_
      refine pt_11_62 C h tx0 fl_X11_362 dX11_compare_25 (fun H locs h => ?_)
      refine lv_aload_n C.1 C.2.1 dX11_compare_28 rfl (lv_at hl 0 rfl) ?_
      refine lv_iload_n C.1 C.2.1 dX11_compare_29 rfl (lv_at hl 1 rfl) ?_
      obtain ⟨r_5, m_6, hc_5, hM⟩ := bd_some hM
      refine h_callVi C h (As := [.int x1]) (rest := []) (bz r_5) m_6 (c_X11_want hc_5 tx0) 11 rfl (by decide) tx0 im_yX11_want se_yX11_want cy_X11_want rfl ml_X11_400 ⟨by decide, by decide⟩ ⟨Nat.zero_le _, Nat.zero_le _⟩ hl.1 rfl (Nat.le_of_ble_eq_true rfl) dX11_compare_30 (fun H locs h => ?_)
      refine h_ifz (tgt := 44) C.1 C.2.1 dX11_compare_33 (by decide) (fun q => ?_) (fun q => ?_)
      · have hM := ite_f q hM
        refine lv_iconst (v := 0) C.1 C.2.1 dX11_compare_44 (by decide) ?_
        obtain ⟨rfl, rfl⟩ := so_inj hM
        exact h_iret C h dX11_compare_45
      · have hM := ite_t q hM
        refine lv_aload_n C.1 C.2.1 dX11_compare_36 rfl (lv_at hl 0 rfl) ?_
        refine lv_iload_n C.1 C.2.1 dX11_compare_37 rfl (lv_at hl 3 rfl) ?_
        obtain ⟨r_7, m_8, hc_7, hM⟩ := bd_some hM
        refine h_callVi C h (As := [.int x3]) (rest := []) (bz r_7) m_8 (c_X11_want hc_7 tx0) 11 rfl (by decide) tx0 im_yX11_want se_yX11_want cy_X11_want rfl ml_X11_400 ⟨by decide, by decide⟩ ⟨Nat.zero_le _, Nat.zero_le _⟩ hl.1 rfl (Nat.le_of_ble_eq_true rfl) dX11_compare_38 (fun H locs h => ?_)
        refine h_ifnz (tgt := 46) C.1 C.2.1 dX11_compare_41 (by decide) (fun q => ?_) (fun q => ?_)
        · have hM := ite_t q hM
          refine lv_iload_n C.1 C.2.1 dX11_compare_46 rfl (lv_at hl 1 rfl) ?_
          refine lv_iload_n C.1 C.2.1 dX11_compare_47 rfl (lv_at hl 3 rfl) ?_
          refine lv_icmp_eq (tgt := 58) C.1 C.2.1 dX11_compare_48 (by decide) (fun q => ?_) (fun q => ?_)
          · have hM := ite_t q hM
            refine lv_iload_n C.1 C.2.1 dX11_compare_58 rfl (lv_at hl 2 rfl) ?_
            refine lv_iload C.1 C.2.1 dX11_compare_59 (lv_at hl 4 rfl) ?_
            refine lv_icmp_ge (tgt := 68) C.1 C.2.1 dX11_compare_61 (by decide) (fun q => ?_) (fun q => ?_)
            · have hM := ite_t q hM
              refine lv_iload_n C.1 C.2.1 dX11_compare_68 rfl (lv_at hl 2 rfl) ?_
              refine lv_iload C.1 C.2.1 dX11_compare_69 (lv_at hl 4 rfl) ?_
              refine lv_icmp_ne (tgt := 78) C.1 C.2.1 dX11_compare_71 (by decide) (fun q => ?_) (fun q => ?_)
              · have hM := ite_f q hM
                refine lv_iconst (v := 3) C.1 C.2.1 dX11_compare_78 (by decide) ?_
                obtain ⟨rfl, rfl⟩ := so_inj hM
                exact h_iret C h dX11_compare_79
              · have hM := ite_t q hM
                refine lv_iconst (v := 2) C.1 C.2.1 dX11_compare_74 (by decide) ?_
                refine lv_goto (tgt := 79) C.1 C.2.1 dX11_compare_75 (by decide) ?_
                obtain ⟨rfl, rfl⟩ := so_inj hM
                exact h_iret C h dX11_compare_79
            · have hM := ite_f q hM
              refine lv_iconst (v := 1) C.1 C.2.1 dX11_compare_64 (by decide) ?_
              refine lv_goto (tgt := 79) C.1 C.2.1 dX11_compare_65 (by decide) ?_
              obtain ⟨rfl, rfl⟩ := so_inj hM
              exact h_iret C h dX11_compare_79
          · have hM := ite_f q hM
            refine lv_aload_n C.1 C.2.1 dX11_compare_51 rfl (lv_at hl 0 rfl) ?_
            refine lv_iconst (v := 5) C.1 C.2.1 dX11_compare_52 (by decide) ?_
            obtain ⟨r_9, m_10, hc_9, hM⟩ := bd_some hM
            refine h_callVv C h (As := [.int 5]) (rest := []) m_10 (c_X11_fails hc_9 tx0) 11 rfl (by decide) tx0 im_yX11_fails se_yX11_fails cy_X11_fails rfl ml_X11_386 ⟨by decide, by decide⟩ ⟨Nat.zero_le _, Nat.zero_le _⟩ hl.1 rfl (Nat.le_of_ble_eq_true rfl) dX11_compare_53 (fun H locs h => ?_)
            refine lv_iconst (v := 0) C.1 C.2.1 dX11_compare_56 (by decide) ?_
            obtain ⟨rfl, rfl⟩ := so_inj hM
            exact h_iret C h dX11_compare_57
        · have hM := ite_f q hM
          refine lv_iconst (v := 0) C.1 C.2.1 dX11_compare_44 (by decide) ?_
          obtain ⟨rfl, rfl⟩ := so_inj hM
          exact h_iret C h dX11_compare_45
    · have hM := ite_f q hM
      refine lv_ldcw C.1 C.2.1 C.2.2.2.1 (C.2.2.2.2.1 _ co_X11_395) dX11_compare_19 ?_
      obtain ⟨rfl, rfl⟩ := so_inj hM
      exact h_iret C h dX11_compare_22
theorem cy_X11_compare : Cy yX11_compare cX11_compare 5 (some .int) 4 := ⟨cd_yX11_compare, ii_X11, by decide, by decide, by decide +kernel⟩
set_option maxRecDepth 100000 in
theorem c_X11_compare {l : Launch} {E : EE} {G : GG} {x0 : Nat} {x1 : Int32} {x2 : Int32} {x3 : Int32} {x4 : Int32} {m m9 : MM} {r9 : Int32} (hM : M_X11_compare G x0 x1 x2 x3 x4 m = some (r9, m9)) (tx0 : Ty E G x0 11) : Mc l E yX11_compare cX11_compare 5 (some .int) rmX11_compare [.ref x0, .int x1, .int x2, .int x3, .int x4] G m (cQi E r9 G m9) := M_of (by decide) (Nat.le_of_ble_eq_true rfl) (fun p e s mth below meth c C h ls hl => cM_X11_compare C hM tx0 _ _ h ls hl)
abbrev rmX11_values : Room := { frames := 5, cells := 0, slots := 0, locals := 115 }
def B_X11_values_52 (G : GG) : Nat → Nat → Int32 → MM → Option (Int32 × MM)
  | 0, _, _, _ => none
  | fu + 1, x0, x2, m =>
    if (gI m x0 71) ≤ x2 then
      some (gI m x0 71, m)
    else
      nb (gR m x0 73) fun b_1 =>
        ib x2 (G.2.2 b_1) <|
          B_X11_values_52 G fu x0 (x2 + 1) (sI m b_1 x2.toNatClampNeg x2)
set_option maxRecDepth 100000 in
set_option maxHeartbeats 4000000 in
theorem cB_X11_values_52 {p : Program} {l : Launch} {e : Env} {s : State} {mth : MethodId} {args : Array Value} {below : List Frame} {meth : Method} {c : Code} {E : EE} {G : GG} {r9 : Int32} {m9 : MM} (C : Cx E G p s mth args meth c cX11_values RX11 "values" 3 (some .int)) : ∀ (fu : Nat) (x0 : Nat) (x2 : Int32) (m : MM), B_X11_values_52 G fu x0 x2 m = some (r9, m9) → (Ty E G x0 11) → ∀ (H : Heap) (locs : List Loc), Hp E G m s H locs → ∀ ls : Array Slot, lv_has ls 3 [(0, .ref x0), (2, .int x2)] → W p l e rmX11_values s mth args below meth c H locs 0 0 (MQ below (cQi E r9 G m9) args s 0 0 (fun q => E.2.2.1 ≤ q)) (F0 mth 52 ls []) := by
  intro fu
  induction fu with
  | zero =>
    intro x0 x2 m hM
    rw [B_X11_values_52] at hM
    cases hM
  | succ fu ih =>
    intro x0 x2 m hM tx0 H locs h ls hl
    rw [B_X11_values_52] at hM
    refine lv_iload_n C.1 C.2.1 dX11_values_52 rfl (lv_at hl 1 rfl) ?_
    refine lv_aload_n C.1 C.2.1 dX11_values_53 rfl (lv_at hl 0 rfl) ?_
    refine gt_11_71 C h tx0 fl_X11_349 dX11_values_54 ?_
    refine lv_icmp_ge (tgt := 73) C.1 C.2.1 dX11_values_57 (by decide) (fun q => ?_) (fun q => ?_)
    · have hM := ite_t q hM
      refine lv_aload_n C.1 C.2.1 dX11_values_73 rfl (lv_at hl 0 rfl) ?_
      refine gt_11_71 C h tx0 fl_X11_349 dX11_values_74 ?_
      obtain ⟨rfl, rfl⟩ := so_inj hM
      exact h_iret C h dX11_values_77
    · have hM := ite_f q hM
      refine lv_aload_n C.1 C.2.1 dX11_values_60 rfl (lv_at hl 0 rfl) ?_
      refine gt_11_73 C h tx0 fl_X11_168 dX11_values_61 ?_
      obtain ⟨b_1, hb_1, hM⟩ := nb_some hM
      have tb_1 : Ty E G b_1 12 := (fun b hb => tyf h tx0 hb) _ hb_1
      refine st_ref hb_1 ?_
      refine lv_iload_n C.1 C.2.1 dX11_values_64 rfl (lv_at hl 1 rfl) ?_
      refine lv_iload_n C.1 C.2.1 dX11_values_65 rfl (lv_at hl 1 rfl) ?_
      obtain ⟨hi, hM⟩ := ib_some hM
      refine h_iast C h tb_1 hi dX11_values_66 (fun H locs h => ?_)
      refine lv_iinc (v := x2 + 1) (lv' := [(2, .int (x2 + 1)), (0, .ref x0)]) C.1 C.2.1 dX11_values_67 hl (k := 1) rfl rfl (by decide) rfl (fun ls hl => ?_)
      refine lv_goto (tgt := 52) C.1 C.2.1 dX11_values_70 (by decide) ?_
      exact ih _ _ _ hM tx0 _ _ h ls (lv_sub hl [1, 0] rfl)
def M_X11_values (G : GG) (x0 : Nat) (x1 : Int32) (m : MM) : Option (Int32 × MM) :=
  bd (M_X11_isEnum G x0 x1 m) fun r_2 m_3 =>
    if r_2 = true then
      bd (M_X11_want G x0 x1 (sI m_3 x0 62 0)) fun r_4 m_5 =>
        if r_4 = true then
          nb (gR (sI m_5 x0 72 x1) x0 9) fun b_6 =>
            ib ((8 * (gI (sI m_5 x0 72 x1) x0 3)) + x1) (G.2.2 b_6) <|
              B_X11_values_52 G FU x0 0 (sI (sI m_5 x0 72 x1) x0 71 (gI (sI m_5 x0 72 x1) b_6 (((8 * (gI (sI m_5 x0 72 x1) x0 3)) + x1).toNatClampNeg)))
        else
          some (0, m_5)
    else
      some ((-1000001), m_3)
set_option maxRecDepth 100000 in
set_option maxHeartbeats 4000000 in
theorem cM_X11_values {p : Program} {l : Launch} {e : Env} {s : State} {mth : MethodId} {args : Array Value} {below : List Frame} {meth : Method} {c : Code} {E : EE} {G : GG} {r9 : Int32} {m9 : MM} (C : Cx E G p s mth args meth c cX11_values RX11 "values" 3 (some .int)) {x0 : Nat} {x1 : Int32} {m : MM} (hM : M_X11_values G x0 x1 m = some (r9, m9)) (tx0 : Ty E G x0 11) : ∀ (H : Heap) (locs : List Loc), Hp E G m s H locs → ∀ ls : Array Slot, lv_has ls 3 [(0, .ref x0), (1, .int x1)] → W p l e rmX11_values s mth args below meth c H locs 0 0 (MQ below (cQi E r9 G m9) args s 0 0 (fun q => E.2.2.1 ≤ q)) (F0 mth 0 ls []) := by
  intro H locs h ls hl
  unfold M_X11_values at hM
  refine lv_aload_n C.1 C.2.1 dX11_values_0 rfl (lv_at hl 0 rfl) ?_
  refine lv_iload_n C.1 C.2.1 dX11_values_1 rfl (lv_at hl 1 rfl) ?_
  obtain ⟨r_2, m_3, hc_2, hM⟩ := bd_some hM
  refine h_callVi C h (As := [.int x1]) (rest := []) (bz r_2) m_3 (c_X11_isEnum hc_2 tx0) 11 rfl (by decide) tx0 im_yX11_isEnum se_yX11_isEnum cy_X11_isEnum rfl ml_X11_392 ⟨by decide, by decide⟩ ⟨Nat.zero_le _, Nat.zero_le _⟩ hl.1 rfl (Nat.le_of_ble_eq_true rfl) dX11_values_2 (fun H locs h => ?_)
  refine h_ifnz (tgt := 12) C.1 C.2.1 dX11_values_5 (by decide) (fun q => ?_) (fun q => ?_)
  · have hM := ite_t q hM
    refine lv_aload_n C.1 C.2.1 dX11_values_12 rfl (lv_at hl 0 rfl) ?_
    refine lv_iconst (v := 0) C.1 C.2.1 dX11_values_13 (by decide) ?_
    refine pt_11_62 C h tx0 fl_X11_362 dX11_values_14 (fun H locs h => ?_)
    refine lv_aload_n C.1 C.2.1 dX11_values_17 rfl (lv_at hl 0 rfl) ?_
    refine lv_iload_n C.1 C.2.1 dX11_values_18 rfl (lv_at hl 1 rfl) ?_
    obtain ⟨r_4, m_5, hc_4, hM⟩ := bd_some hM
    refine h_callVi C h (As := [.int x1]) (rest := []) (bz r_4) m_5 (c_X11_want hc_4 tx0) 11 rfl (by decide) tx0 im_yX11_want se_yX11_want cy_X11_want rfl ml_X11_400 ⟨by decide, by decide⟩ ⟨Nat.zero_le _, Nat.zero_le _⟩ hl.1 rfl (Nat.le_of_ble_eq_true rfl) dX11_values_19 (fun H locs h => ?_)
    refine h_ifnz (tgt := 27) C.1 C.2.1 dX11_values_22 (by decide) (fun q => ?_) (fun q => ?_)
    · have hM := ite_t q hM
      refine lv_aload_n C.1 C.2.1 dX11_values_27 rfl (lv_at hl 0 rfl) ?_
      refine lv_iload_n C.1 C.2.1 dX11_values_28 rfl (lv_at hl 1 rfl) ?_
      refine pt_11_72 C h tx0 fl_X11_403 dX11_values_29 (fun H locs h => ?_)
      refine lv_aload_n C.1 C.2.1 dX11_values_32 rfl (lv_at hl 0 rfl) ?_
      refine lv_aload_n C.1 C.2.1 dX11_values_33 rfl (lv_at hl 0 rfl) ?_
      refine gt_11_9 C h tx0 fl_X11_25 dX11_values_34 ?_
      obtain ⟨b_6, hb_6, hM⟩ := nb_some hM
      have tb_6 : Ty E G b_6 12 := (fun b hb => tyf h tx0 hb) _ hb_6
      refine st_ref hb_6 ?_
      refine lv_bipush (v := 8) C.1 C.2.1 dX11_values_37 (by decide) ?_
      refine lv_aload_n C.1 C.2.1 dX11_values_39 rfl (lv_at hl 0 rfl) ?_
      refine gt_11_3 C h tx0 fl_X11_334 dX11_values_40 ?_
      refine lv_imul C.1 C.2.1 dX11_values_43 ?_
      refine lv_iload_n C.1 C.2.1 dX11_values_44 rfl (lv_at hl 1 rfl) ?_
      refine lv_iadd C.1 C.2.1 dX11_values_45 ?_
      obtain ⟨hi, hM⟩ := ib_some hM
      refine h_iald C h tb_6 hi dX11_values_46 ?_
      refine pt_11_71 C h tx0 fl_X11_349 dX11_values_47 (fun H locs h => ?_)
      refine lv_iconst (v := 0) C.1 C.2.1 dX11_values_50 (by decide) ?_
      refine lv_istore_n (lv' := [(2, .int 0), (0, .ref x0), (1, .int x1)]) C.1 C.2.1 dX11_values_51 rfl hl (by decide) rfl (fun ls hl => ?_)
      exact cB_X11_values_52 C _ _ _ _ hM tx0 _ _ h ls (lv_sub hl [1, 0] rfl)
    · have hM := ite_f q hM
      refine lv_iconst (v := 0) C.1 C.2.1 dX11_values_25 (by decide) ?_
      obtain ⟨rfl, rfl⟩ := so_inj hM
      exact h_iret C h dX11_values_26
  · have hM := ite_f q hM
    refine lv_ldcw C.1 C.2.1 C.2.2.2.1 (C.2.2.2.2.1 _ co_X11_395) dX11_values_8 ?_
    obtain ⟨rfl, rfl⟩ := so_inj hM
    exact h_iret C h dX11_values_11
theorem cy_X11_values : Cy yX11_values cX11_values 3 (some .int) 1 := ⟨cd_yX11_values, ii_X11, by decide, by decide, by decide +kernel⟩
set_option maxRecDepth 100000 in
theorem c_X11_values {l : Launch} {E : EE} {G : GG} {x0 : Nat} {x1 : Int32} {m m9 : MM} {r9 : Int32} (hM : M_X11_values G x0 x1 m = some (r9, m9)) (tx0 : Ty E G x0 11) : Mc l E yX11_values cX11_values 3 (some .int) rmX11_values [.ref x0, .int x1] G m (cQi E r9 G m9) := M_of (by decide) (Nat.le_of_ble_eq_true rfl) (fun p e s mth below meth c C h ls hl => cM_X11_values C hM tx0 _ _ h ls hl)
abbrev rmX11_swap : Room := { frames := 1, cells := 0, slots := 0, locals := 22 }
def M_X11_swap (G : GG) (x0 : Nat) (x1 : Int32) (x2 : Int32) (m : MM) : Option (Int32 × MM) :=
  bd (M_X11_in G x1 0 ((gI m x0 71) - 1) m) fun r_1 m_2 =>
    if r_1 = true then
      bd (M_X11_in G x2 0 ((gI m_2 x0 71) - 1) m_2) fun r_3 m_4 =>
        if r_3 = true then
          nb (gR m_4 x0 73) fun b_5 =>
            ib x1 (G.2.2 b_5) <|
              ib x2 (G.2.2 b_5) <|
                ib x1 (G.2.2 b_5) <|
                  nb (gR (sI m_4 b_5 x1.toNatClampNeg (gI m_4 b_5 x2.toNatClampNeg)) x0 73) fun b_6 =>
                    ib x2 (G.2.2 b_6) <|
                      some (1, sI (sI m_4 b_5 x1.toNatClampNeg (gI m_4 b_5 x2.toNatClampNeg)) b_6 x2.toNatClampNeg (gI m_4 b_5 x1.toNatClampNeg))
        else
          some ((-1000002), m_4)
    else
      some ((-1000002), m_2)
set_option maxRecDepth 100000 in
set_option maxHeartbeats 4000000 in
theorem cM_X11_swap {p : Program} {l : Launch} {e : Env} {s : State} {mth : MethodId} {args : Array Value} {below : List Frame} {meth : Method} {c : Code} {E : EE} {G : GG} {r9 : Int32} {m9 : MM} (C : Cx E G p s mth args meth c cX11_swap RX11 "swap" 4 (some .int)) {x0 : Nat} {x1 : Int32} {x2 : Int32} {m : MM} (hM : M_X11_swap G x0 x1 x2 m = some (r9, m9)) (tx0 : Ty E G x0 11) : ∀ (H : Heap) (locs : List Loc), Hp E G m s H locs → ∀ ls : Array Slot, lv_has ls 4 [(0, .ref x0), (1, .int x1), (2, .int x2)] → W p l e rmX11_swap s mth args below meth c H locs 0 0 (MQ below (cQi E r9 G m9) args s 0 0 (fun q => E.2.2.1 ≤ q)) (F0 mth 0 ls []) := by
  intro H locs h ls hl
  unfold M_X11_swap at hM
  refine lv_iload_n C.1 C.2.1 dX11_swap_0 rfl (lv_at hl 1 rfl) ?_
  refine lv_iconst (v := 0) C.1 C.2.1 dX11_swap_1 (by decide) ?_
  refine lv_aload_n C.1 C.2.1 dX11_swap_2 rfl (lv_at hl 0 rfl) ?_
  refine gt_11_71 C h tx0 fl_X11_349 dX11_swap_3 ?_
  refine lv_iconst (v := 1) C.1 C.2.1 dX11_swap_6 (by decide) ?_
  refine lv_isub C.1 C.2.1 dX11_swap_7 ?_
  obtain ⟨r_1, m_2, hc_1, hM⟩ := bd_some hM
  refine h_callSi C h (As := [.int x1, .int 0, .int ((gI m x0 71) - 1)]) (rest := []) (bz r_1) m_2 (c_X11_in hc_1 ) st_yX11_in cy_X11_in rfl ml_X11_175 ⟨by decide, by decide⟩ ⟨Nat.zero_le _, Nat.zero_le _⟩ hl.1 rfl (Nat.le_of_ble_eq_true rfl) dX11_swap_8 (fun H locs h => ?_)
  refine h_ifz (tgt := 28) C.1 C.2.1 dX11_swap_11 (by decide) (fun q => ?_) (fun q => ?_)
  · have hM := ite_f q hM
    refine lv_ldc C.1 C.2.1 C.2.2.2.1 (C.2.2.2.2.1 _ co_X11_179) dX11_swap_28 ?_
    obtain ⟨rfl, rfl⟩ := so_inj hM
    exact h_iret C h dX11_swap_30
  · have hM := ite_t q hM
    refine lv_iload_n C.1 C.2.1 dX11_swap_14 rfl (lv_at hl 2 rfl) ?_
    refine lv_iconst (v := 0) C.1 C.2.1 dX11_swap_15 (by decide) ?_
    refine lv_aload_n C.1 C.2.1 dX11_swap_16 rfl (lv_at hl 0 rfl) ?_
    refine gt_11_71 C h tx0 fl_X11_349 dX11_swap_17 ?_
    refine lv_iconst (v := 1) C.1 C.2.1 dX11_swap_20 (by decide) ?_
    refine lv_isub C.1 C.2.1 dX11_swap_21 ?_
    obtain ⟨r_3, m_4, hc_3, hM⟩ := bd_some hM
    refine h_callSi C h (As := [.int x2, .int 0, .int ((gI m_2 x0 71) - 1)]) (rest := []) (bz r_3) m_4 (c_X11_in hc_3 ) st_yX11_in cy_X11_in rfl ml_X11_175 ⟨by decide, by decide⟩ ⟨Nat.zero_le _, Nat.zero_le _⟩ hl.1 rfl (Nat.le_of_ble_eq_true rfl) dX11_swap_22 (fun H locs h => ?_)
    refine h_ifnz (tgt := 31) C.1 C.2.1 dX11_swap_25 (by decide) (fun q => ?_) (fun q => ?_)
    · have hM := ite_t q hM
      refine lv_aload_n C.1 C.2.1 dX11_swap_31 rfl (lv_at hl 0 rfl) ?_
      refine gt_11_73 C h tx0 fl_X11_168 dX11_swap_32 ?_
      obtain ⟨b_5, hb_5, hM⟩ := nb_some hM
      have tb_5 : Ty E G b_5 12 := (fun b hb => tyf h tx0 hb) _ hb_5
      refine st_ref hb_5 ?_
      refine lv_iload_n C.1 C.2.1 dX11_swap_35 rfl (lv_at hl 1 rfl) ?_
      obtain ⟨hi, hM⟩ := ib_some hM
      refine h_iald C h tb_5 hi dX11_swap_36 ?_
      refine lv_istore_n (lv' := [(3, .int (gI m_4 b_5 x1.toNatClampNeg)), (0, .ref x0), (1, .int x1), (2, .int x2)]) C.1 C.2.1 dX11_swap_37 rfl hl (by decide) rfl (fun ls hl => ?_)
      refine lv_aload_n C.1 C.2.1 dX11_swap_38 rfl (lv_at hl 1 rfl) ?_
      refine gt_11_73 C h tx0 fl_X11_168 dX11_swap_39 ?_
      refine st_ref hb_5 ?_
      refine lv_iload_n C.1 C.2.1 dX11_swap_42 rfl (lv_at hl 2 rfl) ?_
      refine lv_aload_n C.1 C.2.1 dX11_swap_43 rfl (lv_at hl 1 rfl) ?_
      refine gt_11_73 C h tx0 fl_X11_168 dX11_swap_44 ?_
      refine st_ref hb_5 ?_
      refine lv_iload_n C.1 C.2.1 dX11_swap_47 rfl (lv_at hl 3 rfl) ?_
      obtain ⟨hi, hM⟩ := ib_some hM
      refine h_iald C h tb_5 hi dX11_swap_48 ?_
      obtain ⟨hi, hM⟩ := ib_some hM
      refine h_iast C h tb_5 hi dX11_swap_49 (fun H locs h => ?_)
      refine lv_aload_n C.1 C.2.1 dX11_swap_50 rfl (lv_at hl 1 rfl) ?_
      refine gt_11_73 C h tx0 fl_X11_168 dX11_swap_51 ?_
      obtain ⟨b_6, hb_6, hM⟩ := nb_some hM
      have tb_6 : Ty E G b_6 12 := (fun b hb => tyf h tx0 hb) _ hb_6
      refine st_ref hb_6 ?_
      refine lv_iload_n C.1 C.2.1 dX11_swap_54 rfl (lv_at hl 3 rfl) ?_
      refine lv_iload_n C.1 C.2.1 dX11_swap_55 rfl (lv_at hl 0 rfl) ?_
      obtain ⟨hi, hM⟩ := ib_some hM
      refine h_iast C h tb_6 hi dX11_swap_56 (fun H locs h => ?_)
      refine lv_iconst (v := 1) C.1 C.2.1 dX11_swap_57 (by decide) ?_
      obtain ⟨rfl, rfl⟩ := so_inj hM
      exact h_iret C h dX11_swap_58
    · have hM := ite_f q hM
      refine lv_ldc C.1 C.2.1 C.2.2.2.1 (C.2.2.2.2.1 _ co_X11_179) dX11_swap_28 ?_
      obtain ⟨rfl, rfl⟩ := so_inj hM
      exact h_iret C h dX11_swap_30
theorem cy_X11_swap : Cy yX11_swap cX11_swap 4 (some .int) 2 := ⟨cd_yX11_swap, ii_X11, by decide, by decide, by decide +kernel⟩
set_option maxRecDepth 100000 in
theorem c_X11_swap {l : Launch} {E : EE} {G : GG} {x0 : Nat} {x1 : Int32} {x2 : Int32} {m m9 : MM} {r9 : Int32} (hM : M_X11_swap G x0 x1 x2 m = some (r9, m9)) (tx0 : Ty E G x0 11) : Mc l E yX11_swap cX11_swap 4 (some .int) rmX11_swap [.ref x0, .int x1, .int x2] G m (cQi E r9 G m9) := M_of (by decide) (Nat.le_of_ble_eq_true rfl) (fun p e s mth below meth c C h ls hl => cM_X11_swap C hM tx0 _ _ h ls hl)
abbrev rmX11_hand : Room := { frames := 2, cells := 0, slots := 0, locals := 43 }
def M_X11_hand (G : GG) (x0 : Nat) (x1 : Int32) (m : MM) : Option (Int32 × MM) :=
  bd (M_X11_in G x1 0 ((gI (sI (sI m x0 62 0) x0 64 0) x0 71) - 1) (sI (sI m x0 62 0) x0 64 0)) fun r_1 m_2 =>
    if r_1 = true then
      nb (gR m_2 x0 57) fun b_3 =>
        nb (gR m_2 x0 73) fun b_4 =>
          ib x1 (G.2.2 b_4) <|
            ib ((12 * (gI m_2 x0 72)) + (gI m_2 b_4 x1.toNatClampNeg)) (G.2.2 b_3) <|
              some (gI m_2 b_3 (((12 * (gI m_2 x0 72)) + (gI m_2 b_4 x1.toNatClampNeg)).toNatClampNeg), m_2)
    else
      bd (M_X11_fails G x0 4 m_2) fun _ m_6 =>
        some (0, m_6)
set_option maxRecDepth 100000 in
set_option maxHeartbeats 4000000 in
theorem cM_X11_hand {p : Program} {l : Launch} {e : Env} {s : State} {mth : MethodId} {args : Array Value} {below : List Frame} {meth : Method} {c : Code} {E : EE} {G : GG} {r9 : Int32} {m9 : MM} (C : Cx E G p s mth args meth c cX11_hand RX11 "hand" 2 (some .int)) {x0 : Nat} {x1 : Int32} {m : MM} (hM : M_X11_hand G x0 x1 m = some (r9, m9)) (tx0 : Ty E G x0 11) : ∀ (H : Heap) (locs : List Loc), Hp E G m s H locs → ∀ ls : Array Slot, lv_has ls 2 [(0, .ref x0), (1, .int x1)] → W p l e rmX11_hand s mth args below meth c H locs 0 0 (MQ below (cQi E r9 G m9) args s 0 0 (fun q => E.2.2.1 ≤ q)) (F0 mth 0 ls []) := by
  intro H locs h ls hl
  unfold M_X11_hand at hM
  refine lv_aload_n C.1 C.2.1 dX11_hand_0 rfl (lv_at hl 0 rfl) ?_
  refine lv_iconst (v := 0) C.1 C.2.1 dX11_hand_1 (by decide) ?_
  refine pt_11_62 C h tx0 fl_X11_362 dX11_hand_2 (fun H locs h => ?_)
  refine lv_aload_n C.1 C.2.1 dX11_hand_5 rfl (lv_at hl 0 rfl) ?_
  refine lv_iconst (v := 0) C.1 C.2.1 dX11_hand_6 (by decide) ?_
  refine pt_11_64 C h tx0 fl_X11_352 dX11_hand_7 (fun H locs h => ?_)
  refine lv_iload_n C.1 C.2.1 dX11_hand_10 rfl (lv_at hl 1 rfl) ?_
  refine lv_iconst (v := 0) C.1 C.2.1 dX11_hand_11 (by decide) ?_
  refine lv_aload_n C.1 C.2.1 dX11_hand_12 rfl (lv_at hl 0 rfl) ?_
  refine gt_11_71 C h tx0 fl_X11_349 dX11_hand_13 ?_
  refine lv_iconst (v := 1) C.1 C.2.1 dX11_hand_16 (by decide) ?_
  refine lv_isub C.1 C.2.1 dX11_hand_17 ?_
  obtain ⟨r_1, m_2, hc_1, hM⟩ := bd_some hM
  refine h_callSi C h (As := [.int x1, .int 0, .int ((gI (sI (sI m x0 62 0) x0 64 0) x0 71) - 1)]) (rest := []) (bz r_1) m_2 (c_X11_in hc_1 ) st_yX11_in cy_X11_in rfl ml_X11_175 ⟨by decide, by decide⟩ ⟨Nat.zero_le _, Nat.zero_le _⟩ hl.1 rfl (Nat.le_of_ble_eq_true rfl) dX11_hand_18 (fun H locs h => ?_)
  refine h_ifnz (tgt := 31) C.1 C.2.1 dX11_hand_21 (by decide) (fun q => ?_) (fun q => ?_)
  · have hM := ite_t q hM
    refine lv_aload_n C.1 C.2.1 dX11_hand_31 rfl (lv_at hl 0 rfl) ?_
    refine gt_11_57 C h tx0 fl_X11_141 dX11_hand_32 ?_
    obtain ⟨b_3, hb_3, hM⟩ := nb_some hM
    have tb_3 : Ty E G b_3 12 := (fun b hb => tyf h tx0 hb) _ hb_3
    refine st_ref hb_3 ?_
    refine lv_bipush (v := 12) C.1 C.2.1 dX11_hand_35 (by decide) ?_
    refine lv_aload_n C.1 C.2.1 dX11_hand_37 rfl (lv_at hl 0 rfl) ?_
    refine gt_11_72 C h tx0 fl_X11_403 dX11_hand_38 ?_
    refine lv_imul C.1 C.2.1 dX11_hand_41 ?_
    refine lv_aload_n C.1 C.2.1 dX11_hand_42 rfl (lv_at hl 0 rfl) ?_
    refine gt_11_73 C h tx0 fl_X11_168 dX11_hand_43 ?_
    obtain ⟨b_4, hb_4, hM⟩ := nb_some hM
    have tb_4 : Ty E G b_4 12 := (fun b hb => tyf h tx0 hb) _ hb_4
    refine st_ref hb_4 ?_
    refine lv_iload_n C.1 C.2.1 dX11_hand_46 rfl (lv_at hl 1 rfl) ?_
    obtain ⟨hi, hM⟩ := ib_some hM
    refine h_iald C h tb_4 hi dX11_hand_47 ?_
    refine lv_iadd C.1 C.2.1 dX11_hand_48 ?_
    obtain ⟨hi, hM⟩ := ib_some hM
    refine h_iald C h tb_3 hi dX11_hand_49 ?_
    obtain ⟨rfl, rfl⟩ := so_inj hM
    exact h_iret C h dX11_hand_50
  · have hM := ite_f q hM
    refine lv_aload_n C.1 C.2.1 dX11_hand_24 rfl (lv_at hl 0 rfl) ?_
    refine lv_iconst (v := 4) C.1 C.2.1 dX11_hand_25 (by decide) ?_
    obtain ⟨r_5, m_6, hc_5, hM⟩ := bd_some hM
    refine h_callVv C h (As := [.int 4]) (rest := []) m_6 (c_X11_fails hc_5 tx0) 11 rfl (by decide) tx0 im_yX11_fails se_yX11_fails cy_X11_fails rfl ml_X11_386 ⟨by decide, by decide⟩ ⟨Nat.zero_le _, Nat.zero_le _⟩ hl.1 rfl (Nat.le_of_ble_eq_true rfl) dX11_hand_26 (fun H locs h => ?_)
    refine lv_iconst (v := 0) C.1 C.2.1 dX11_hand_29 (by decide) ?_
    obtain ⟨rfl, rfl⟩ := so_inj hM
    exact h_iret C h dX11_hand_30
theorem cy_X11_hand : Cy yX11_hand cX11_hand 2 (some .int) 1 := ⟨cd_yX11_hand, ii_X11, by decide, by decide, by decide +kernel⟩
set_option maxRecDepth 100000 in
theorem c_X11_hand {l : Launch} {E : EE} {G : GG} {x0 : Nat} {x1 : Int32} {m m9 : MM} {r9 : Int32} (hM : M_X11_hand G x0 x1 m = some (r9, m9)) (tx0 : Ty E G x0 11) : Mc l E yX11_hand cX11_hand 2 (some .int) rmX11_hand [.ref x0, .int x1] G m (cQi E r9 G m9) := M_of (by decide) (Nat.le_of_ble_eq_true rfl) (fun p e s mth below meth c C h ls hl => cM_X11_hand C hM tx0 _ _ h ls hl)
abbrev rmX11_named : Room := { frames := 5, cells := 0, slots := 0, locals := 115 }
def B_X11_named_163 (G : GG) (k50 : Nat → Int32 → Int32 → Int32 → MM → Option (Int32 × MM)) (x0 : Nat) (x1 : Int32) (x2 : Int32) (x3 : Int32) (x5 : Int32) (m : MM) : Option (Int32 × MM) :=
  if x5 = 0 then
    k50 x0 x1 x2 (x3 + 1) m
  else
    some (x3, m)
set_option maxRecDepth 100000 in
set_option maxHeartbeats 4000000 in
theorem cB_X11_named_163 {p : Program} {l : Launch} {e : Env} {s : State} {mth : MethodId} {args : Array Value} {below : List Frame} {meth : Method} {c : Code} {E : EE} {G : GG} {r9 : Int32} {m9 : MM} {k50 : Nat → Int32 → Int32 → Int32 → MM → Option (Int32 × MM)} (C : Cx E G p s mth args meth c cX11_named RX11 "named" 7 (some .int)) (hk50 : ∀ (x0 : Nat) (x1 : Int32) (x2 : Int32) (x3 : Int32) (m : MM), k50 x0 x1 x2 x3 m = some (r9, m9) → (Ty E G x0 11) → ∀ (H : Heap) (locs : List Loc), Hp E G m s H locs → ∀ ls : Array Slot, lv_has ls 7 [(0, .ref x0), (1, .int x1), (2, .int x2), (3, .int x3)] → W p l e rmX11_named s mth args below meth c H locs 0 0 (MQ below (cQi E r9 G m9) args s 0 0 (fun q => E.2.2.1 ≤ q)) (F0 mth 50 ls [])) {x0 : Nat} {x1 : Int32} {x2 : Int32} {x3 : Int32} {x5 : Int32} {m : MM} (hM : B_X11_named_163 G k50 x0 x1 x2 x3 x5 m = some (r9, m9)) (tx0 : Ty E G x0 11) : ∀ (H : Heap) (locs : List Loc), Hp E G m s H locs → ∀ ls : Array Slot, lv_has ls 7 [(0, .ref x0), (1, .int x1), (2, .int x2), (3, .int x3), (5, .int x5)] → W p l e rmX11_named s mth args below meth c H locs 0 0 (MQ below (cQi E r9 G m9) args s 0 0 (fun q => E.2.2.1 ≤ q)) (F0 mth 163 ls []) := by
  intro H locs h ls hl
  unfold B_X11_named_163 at hM
  refine lv_iload C.1 C.2.1 dX11_named_163 (lv_at hl 4 rfl) ?_
  refine lv_if_eq (tgt := 170) C.1 C.2.1 dX11_named_165 (by decide) (fun q => ?_) (fun q => ?_)
  · have hM := ite_t q hM
    refine lv_iinc (v := x3 + 1) (lv' := [(3, .int (x3 + 1)), (0, .ref x0), (1, .int x1), (2, .int x2), (5, .int x5)]) C.1 C.2.1 dX11_named_170 hl (k := 3) rfl rfl (by decide) rfl (fun ls hl => ?_)
    refine lv_goto (tgt := 50) C.1 C.2.1 dX11_named_173 (by decide) ?_
    exact hk50 _ _ _ _ _ hM tx0 _ _ h ls (lv_sub hl [1, 2, 3, 0] rfl)
  · have hM := ite_f q hM
    refine lv_iload_n C.1 C.2.1 dX11_named_168 rfl (lv_at hl 3 rfl) ?_
    obtain ⟨rfl, rfl⟩ := so_inj hM
    exact h_iret C h dX11_named_169
def B_X11_named_105 (G : GG) (k50 : Nat → Int32 → Int32 → Int32 → MM → Option (Int32 × MM)) : Nat → Nat → Int32 → Int32 → Int32 → Int32 → Int32 → Int32 → MM → Option (Int32 × MM)
  | 0, _, _, _, _, _, _, _, _ => none
  | fu + 1, x0, x1, x2, x3, x4, x5, x6, m =>
    if x2 ≤ x6 then
      B_X11_named_163 G k50 x0 x1 x2 x3 x5 m
    else
      if x5 = 0 then
        B_X11_named_163 G k50 x0 x1 x2 x3 x5 m
      else
        nb (gR m x0 2) fun b_1 =>
          nb (gR m x0 14) fun b_2 =>
            ib x4 (G.2.2 b_2) <|
              ib (((2000 * (gI m x0 3)) + (gI m b_2 x4.toNatClampNeg)) + x6) (G.2.2 b_1) <|
                nb (gR m x0 0) fun b_3 =>
                  ib x6 (G.2.2 b_3) <|
                    if (gI m b_1 ((((2000 * (gI m x0 3)) + (gI m b_2 x4.toNatClampNeg)) + x6).toNatClampNeg)) = (gI m b_3 x6.toNatClampNeg) then
                      B_X11_named_105 G k50 fu x0 x1 x2 x3 x4 1 (x6 + 1) m
                    else
                      B_X11_named_105 G k50 fu x0 x1 x2 x3 x4 0 (x6 + 1) m
set_option maxRecDepth 100000 in
set_option maxHeartbeats 4000000 in
theorem cB_X11_named_105 {p : Program} {l : Launch} {e : Env} {s : State} {mth : MethodId} {args : Array Value} {below : List Frame} {meth : Method} {c : Code} {E : EE} {G : GG} {r9 : Int32} {m9 : MM} {k50 : Nat → Int32 → Int32 → Int32 → MM → Option (Int32 × MM)} (C : Cx E G p s mth args meth c cX11_named RX11 "named" 7 (some .int)) (hk50 : ∀ (x0 : Nat) (x1 : Int32) (x2 : Int32) (x3 : Int32) (m : MM), k50 x0 x1 x2 x3 m = some (r9, m9) → (Ty E G x0 11) → ∀ (H : Heap) (locs : List Loc), Hp E G m s H locs → ∀ ls : Array Slot, lv_has ls 7 [(0, .ref x0), (1, .int x1), (2, .int x2), (3, .int x3)] → W p l e rmX11_named s mth args below meth c H locs 0 0 (MQ below (cQi E r9 G m9) args s 0 0 (fun q => E.2.2.1 ≤ q)) (F0 mth 50 ls [])) : ∀ (fu : Nat) (x0 : Nat) (x1 : Int32) (x2 : Int32) (x3 : Int32) (x4 : Int32) (x5 : Int32) (x6 : Int32) (m : MM), B_X11_named_105 G k50 fu x0 x1 x2 x3 x4 x5 x6 m = some (r9, m9) → (Ty E G x0 11) → ∀ (H : Heap) (locs : List Loc), Hp E G m s H locs → ∀ ls : Array Slot, lv_has ls 7 [(0, .ref x0), (1, .int x1), (2, .int x2), (3, .int x3), (4, .int x4), (5, .int x5), (6, .int x6)] → W p l e rmX11_named s mth args below meth c H locs 0 0 (MQ below (cQi E r9 G m9) args s 0 0 (fun q => E.2.2.1 ≤ q)) (F0 mth 105 ls []) := by
  intro fu
  induction fu with
  | zero =>
    intro x0 x1 x2 x3 x4 x5 x6 m hM
    rw [B_X11_named_105] at hM
    cases hM
  | succ fu ih =>
    intro x0 x1 x2 x3 x4 x5 x6 m hM tx0 H locs h ls hl
    rw [B_X11_named_105] at hM
    refine lv_iload C.1 C.2.1 dX11_named_105 (lv_at hl 6 rfl) ?_
    refine lv_iload_n C.1 C.2.1 dX11_named_107 rfl (lv_at hl 2 rfl) ?_
    refine lv_icmp_ge (tgt := 163) C.1 C.2.1 dX11_named_108 (by decide) (fun q => ?_) (fun q => ?_)
    · have hM := ite_t q hM
      exact cB_X11_named_163 C hk50 hM tx0 _ _ h ls (lv_sub hl [0, 1, 2, 3, 5] rfl)
    · have hM := ite_f q hM
      refine lv_iload C.1 C.2.1 dX11_named_111 (lv_at hl 5 rfl) ?_
      refine lv_if_eq (tgt := 163) C.1 C.2.1 dX11_named_113 (by decide) (fun q => ?_) (fun q => ?_)
      · have hM := ite_t q hM
        exact cB_X11_named_163 C hk50 hM tx0 _ _ h ls (lv_sub hl [0, 1, 2, 3, 5] rfl)
      · have hM := ite_f q hM
        refine lv_aload_n C.1 C.2.1 dX11_named_116 rfl (lv_at hl 0 rfl) ?_
        refine gt_11_2 C h tx0 fl_X11_13 dX11_named_117 ?_
        obtain ⟨b_1, hb_1, hM⟩ := nb_some hM
        have tb_1 : Ty E G b_1 12 := (fun b hb => tyf h tx0 hb) _ hb_1
        refine st_ref hb_1 ?_
        refine lv_sipush (v := 2000) C.1 C.2.1 dX11_named_120 (by decide) ?_
        refine lv_aload_n C.1 C.2.1 dX11_named_123 rfl (lv_at hl 0 rfl) ?_
        refine gt_11_3 C h tx0 fl_X11_334 dX11_named_124 ?_
        refine lv_imul C.1 C.2.1 dX11_named_127 ?_
        refine lv_aload_n C.1 C.2.1 dX11_named_128 rfl (lv_at hl 0 rfl) ?_
        refine gt_11_14 C h tx0 fl_X11_40 dX11_named_129 ?_
        obtain ⟨b_2, hb_2, hM⟩ := nb_some hM
        have tb_2 : Ty E G b_2 12 := (fun b hb => tyf h tx0 hb) _ hb_2
        refine st_ref hb_2 ?_
        refine lv_iload C.1 C.2.1 dX11_named_132 (lv_at hl 4 rfl) ?_
        obtain ⟨hi, hM⟩ := ib_some hM
        refine h_iald C h tb_2 hi dX11_named_134 ?_
        refine lv_iadd C.1 C.2.1 dX11_named_135 ?_
        refine lv_iload C.1 C.2.1 dX11_named_136 (lv_at hl 6 rfl) ?_
        refine lv_iadd C.1 C.2.1 dX11_named_138 ?_
        obtain ⟨hi, hM⟩ := ib_some hM
        refine h_iald C h tb_1 hi dX11_named_139 ?_
        refine lv_aload_n C.1 C.2.1 dX11_named_140 rfl (lv_at hl 0 rfl) ?_
        refine gt_11_0 C h tx0 fl_X11_7 dX11_named_141 ?_
        obtain ⟨b_3, hb_3, hM⟩ := nb_some hM
        have tb_3 : Ty E G b_3 12 := (fun b hb => tyf h tx0 hb) _ hb_3
        refine st_ref hb_3 ?_
        refine lv_iload C.1 C.2.1 dX11_named_144 (lv_at hl 6 rfl) ?_
        obtain ⟨hi, hM⟩ := ib_some hM
        refine h_iald C h tb_3 hi dX11_named_146 ?_
        refine lv_icmp_ne (tgt := 154) C.1 C.2.1 dX11_named_147 (by decide) (fun q => ?_) (fun q => ?_)
        · have hM := ite_f q hM
          refine lv_iconst (v := 0) C.1 C.2.1 dX11_named_154 (by decide) ?_
          refine lv_istore (lv' := [(5, .int 0), (0, .ref x0), (1, .int x1), (2, .int x2), (3, .int x3), (4, .int x4), (6, .int x6)]) C.1 C.2.1 dX11_named_155 hl (by decide) rfl (fun ls hl => ?_)
          refine lv_iinc (v := x6 + 1) (lv' := [(6, .int (x6 + 1)), (5, .int 0), (0, .ref x0), (1, .int x1), (2, .int x2), (3, .int x3), (4, .int x4)]) C.1 C.2.1 dX11_named_157 hl (k := 6) rfl rfl (by decide) rfl (fun ls hl => ?_)
          refine lv_goto (tgt := 105) C.1 C.2.1 dX11_named_160 (by decide) ?_
          exact ih _ _ _ _ _ _ _ _ hM tx0 _ _ h ls (lv_sub hl [2, 3, 4, 5, 6, 1, 0] rfl)
        · have hM := ite_t q hM
          refine lv_iconst (v := 1) C.1 C.2.1 dX11_named_150 (by decide) ?_
          refine lv_goto (tgt := 155) C.1 C.2.1 dX11_named_151 (by decide) ?_
          refine lv_istore (lv' := [(5, .int 1), (0, .ref x0), (1, .int x1), (2, .int x2), (3, .int x3), (4, .int x4), (6, .int x6)]) C.1 C.2.1 dX11_named_155 hl (by decide) rfl (fun ls hl => ?_)
          refine lv_iinc (v := x6 + 1) (lv' := [(6, .int (x6 + 1)), (5, .int 1), (0, .ref x0), (1, .int x1), (2, .int x2), (3, .int x3), (4, .int x4)]) C.1 C.2.1 dX11_named_157 hl (k := 6) rfl rfl (by decide) rfl (fun ls hl => ?_)
          refine lv_goto (tgt := 105) C.1 C.2.1 dX11_named_160 (by decide) ?_
          exact ih _ _ _ _ _ _ _ _ hM tx0 _ _ h ls (lv_sub hl [2, 3, 4, 5, 6, 1, 0] rfl)
def B_X11_named_50 (G : GG) : Nat → Nat → Int32 → Int32 → Int32 → MM → Option (Int32 × MM)
  | 0, _, _, _, _, _ => none
  | fu + 1, x0, x1, x2, x3, m =>
    nb (gR m x0 9) fun b_4 =>
      ib ((8 * (gI m x0 3)) + x1) (G.2.2 b_4) <|
        if (gI m b_4 (((8 * (gI m x0 3)) + x1).toNatClampNeg)) ≤ x3 then
          bd (M_X11_fails G x0 3 m) fun _ m_6 =>
            some (0, m_6)
        else
          nb (gR m x0 15) fun b_7 =>
            ib ((12 * ((8 * (gI m x0 3)) + x1)) + x3) (G.2.2 b_7) <|
              if (gI m b_7 (((12 * ((8 * (gI m x0 3)) + x1)) + x3).toNatClampNeg)) = x2 then
                B_X11_named_105 G (B_X11_named_50 G fu) FU x0 x1 x2 x3 ((12 * ((8 * (gI m x0 3)) + x1)) + x3) 1 0 m
              else
                B_X11_named_105 G (B_X11_named_50 G fu) FU x0 x1 x2 x3 ((12 * ((8 * (gI m x0 3)) + x1)) + x3) 0 0 m
set_option maxRecDepth 100000 in
set_option maxHeartbeats 4000000 in
theorem cB_X11_named_50 {p : Program} {l : Launch} {e : Env} {s : State} {mth : MethodId} {args : Array Value} {below : List Frame} {meth : Method} {c : Code} {E : EE} {G : GG} {r9 : Int32} {m9 : MM} (C : Cx E G p s mth args meth c cX11_named RX11 "named" 7 (some .int)) : ∀ (fu : Nat) (x0 : Nat) (x1 : Int32) (x2 : Int32) (x3 : Int32) (m : MM), B_X11_named_50 G fu x0 x1 x2 x3 m = some (r9, m9) → (Ty E G x0 11) → ∀ (H : Heap) (locs : List Loc), Hp E G m s H locs → ∀ ls : Array Slot, lv_has ls 7 [(0, .ref x0), (1, .int x1), (2, .int x2), (3, .int x3)] → W p l e rmX11_named s mth args below meth c H locs 0 0 (MQ below (cQi E r9 G m9) args s 0 0 (fun q => E.2.2.1 ≤ q)) (F0 mth 50 ls []) := by
  intro fu
  induction fu with
  | zero =>
    intro x0 x1 x2 x3 m hM
    rw [B_X11_named_50] at hM
    cases hM
  | succ fu ih =>
    intro x0 x1 x2 x3 m hM tx0 H locs h ls hl
    rw [B_X11_named_50] at hM
    refine lv_iload_n C.1 C.2.1 dX11_named_50 rfl (lv_at hl 3 rfl) ?_
    refine lv_aload_n C.1 C.2.1 dX11_named_51 rfl (lv_at hl 0 rfl) ?_
    refine gt_11_9 C h tx0 fl_X11_25 dX11_named_52 ?_
    obtain ⟨b_4, hb_4, hM⟩ := nb_some hM
    have tb_4 : Ty E G b_4 12 := (fun b hb => tyf h tx0 hb) _ hb_4
    refine st_ref hb_4 ?_
    refine lv_bipush (v := 8) C.1 C.2.1 dX11_named_55 (by decide) ?_
    refine lv_aload_n C.1 C.2.1 dX11_named_57 rfl (lv_at hl 0 rfl) ?_
    refine gt_11_3 C h tx0 fl_X11_334 dX11_named_58 ?_
    refine lv_imul C.1 C.2.1 dX11_named_61 ?_
    refine lv_iload_n C.1 C.2.1 dX11_named_62 rfl (lv_at hl 1 rfl) ?_
    refine lv_iadd C.1 C.2.1 dX11_named_63 ?_
    obtain ⟨hi, hM⟩ := ib_some hM
    refine h_iald C h tb_4 hi dX11_named_64 ?_
    refine lv_icmp_ge (tgt := 176) C.1 C.2.1 dX11_named_65 (by decide) (fun q => ?_) (fun q => ?_)
    · have hM := ite_t q hM
      refine lv_aload_n C.1 C.2.1 dX11_named_176 rfl (lv_at hl 0 rfl) ?_
      refine lv_iconst (v := 3) C.1 C.2.1 dX11_named_177 (by decide) ?_
      obtain ⟨r_5, m_6, hc_5, hM⟩ := bd_some hM
      refine h_callVv C h (As := [.int 3]) (rest := []) m_6 (c_X11_fails hc_5 tx0) 11 rfl (by decide) tx0 im_yX11_fails se_yX11_fails cy_X11_fails rfl ml_X11_386 ⟨by decide, by decide⟩ ⟨Nat.zero_le _, Nat.zero_le _⟩ hl.1 rfl (Nat.le_of_ble_eq_true rfl) dX11_named_178 (fun H locs h => ?_)
      refine lv_iconst (v := 0) C.1 C.2.1 dX11_named_181 (by decide) ?_
      obtain ⟨rfl, rfl⟩ := so_inj hM
      exact h_iret C h dX11_named_182
    · have hM := ite_f q hM
      refine lv_bipush (v := 12) C.1 C.2.1 dX11_named_68 (by decide) ?_
      refine lv_bipush (v := 8) C.1 C.2.1 dX11_named_70 (by decide) ?_
      refine lv_aload_n C.1 C.2.1 dX11_named_72 rfl (lv_at hl 0 rfl) ?_
      refine gt_11_3 C h tx0 fl_X11_334 dX11_named_73 ?_
      refine lv_imul C.1 C.2.1 dX11_named_76 ?_
      refine lv_iload_n C.1 C.2.1 dX11_named_77 rfl (lv_at hl 1 rfl) ?_
      refine lv_iadd C.1 C.2.1 dX11_named_78 ?_
      refine lv_imul C.1 C.2.1 dX11_named_79 ?_
      refine lv_iload_n C.1 C.2.1 dX11_named_80 rfl (lv_at hl 3 rfl) ?_
      refine lv_iadd C.1 C.2.1 dX11_named_81 ?_
      refine lv_istore (lv' := [(4, .int ((12 * ((8 * (gI m x0 3)) + x1)) + x3)), (0, .ref x0), (1, .int x1), (2, .int x2), (3, .int x3)]) C.1 C.2.1 dX11_named_82 hl (by decide) rfl (fun ls hl => ?_)
      refine lv_aload_n C.1 C.2.1 dX11_named_84 rfl (lv_at hl 1 rfl) ?_
      refine gt_11_15 C h tx0 fl_X11_43 dX11_named_85 ?_
      obtain ⟨b_7, hb_7, hM⟩ := nb_some hM
      have tb_7 : Ty E G b_7 12 := (fun b hb => tyf h tx0 hb) _ hb_7
      refine st_ref hb_7 ?_
      refine lv_iload C.1 C.2.1 dX11_named_88 (lv_at hl 0 rfl) ?_
      obtain ⟨hi, hM⟩ := ib_some hM
      refine h_iald C h tb_7 hi dX11_named_90 ?_
      refine lv_iload_n C.1 C.2.1 dX11_named_91 rfl (lv_at hl 3 rfl) ?_
      refine lv_icmp_ne (tgt := 99) C.1 C.2.1 dX11_named_92 (by decide) (fun q => ?_) (fun q => ?_)
      · have hM := ite_f q hM
        refine lv_iconst (v := 0) C.1 C.2.1 dX11_named_99 (by decide) ?_
        refine lv_istore (lv' := [(5, .int 0), (4, .int ((12 * ((8 * (gI m x0 3)) + x1)) + x3)), (0, .ref x0), (1, .int x1), (2, .int x2), (3, .int x3)]) C.1 C.2.1 dX11_named_100 hl (by decide) rfl (fun ls hl => ?_)
        refine lv_iconst (v := 0) C.1 C.2.1 dX11_named_102 (by decide) ?_
        refine lv_istore (lv' := [(6, .int 0), (5, .int 0), (4, .int ((12 * ((8 * (gI m x0 3)) + x1)) + x3)), (0, .ref x0), (1, .int x1), (2, .int x2), (3, .int x3)]) C.1 C.2.1 dX11_named_103 hl (by decide) rfl (fun ls hl => ?_)
        exact cB_X11_named_105 C ih _ _ _ _ _ _ _ _ _ hM tx0 _ _ h ls (lv_sub hl [3, 4, 5, 6, 2, 1, 0] rfl)
      · have hM := ite_t q hM
        refine lv_iconst (v := 1) C.1 C.2.1 dX11_named_95 (by decide) ?_
        refine lv_goto (tgt := 100) C.1 C.2.1 dX11_named_96 (by decide) ?_
        refine lv_istore (lv' := [(5, .int 1), (4, .int ((12 * ((8 * (gI m x0 3)) + x1)) + x3)), (0, .ref x0), (1, .int x1), (2, .int x2), (3, .int x3)]) C.1 C.2.1 dX11_named_100 hl (by decide) rfl (fun ls hl => ?_)
        refine lv_iconst (v := 0) C.1 C.2.1 dX11_named_102 (by decide) ?_
        refine lv_istore (lv' := [(6, .int 0), (5, .int 1), (4, .int ((12 * ((8 * (gI m x0 3)) + x1)) + x3)), (0, .ref x0), (1, .int x1), (2, .int x2), (3, .int x3)]) C.1 C.2.1 dX11_named_103 hl (by decide) rfl (fun ls hl => ?_)
        exact cB_X11_named_105 C ih _ _ _ _ _ _ _ _ _ hM tx0 _ _ h ls (lv_sub hl [3, 4, 5, 6, 2, 1, 0] rfl)
def M_X11_named (G : GG) (x0 : Nat) (x1 : Int32) (m : MM) : Option (Int32 × MM) :=
  bd (M_X11_isEnum G x0 x1 m) fun r_8 m_9 =>
    if r_8 = true then
      bd (M_X11_want G x0 x1 (sI (sI m_9 x0 62 0) x0 1 0)) fun r_10 m_11 =>
        if r_10 = true then
          if (gI (sI m_9 x0 62 0) x0 1) = 0 then
            bd (M_X11_fails G x0 1 m_11) fun _ m_13 =>
              some (0, m_13)
          else
            B_X11_named_50 G FU x0 x1 (gI (sI m_9 x0 62 0) x0 1) 0 m_11
        else
          some (0, m_11)
    else
      some ((-1000001), m_9)
set_option maxRecDepth 100000 in
set_option maxHeartbeats 4000000 in
theorem cM_X11_named {p : Program} {l : Launch} {e : Env} {s : State} {mth : MethodId} {args : Array Value} {below : List Frame} {meth : Method} {c : Code} {E : EE} {G : GG} {r9 : Int32} {m9 : MM} (C : Cx E G p s mth args meth c cX11_named RX11 "named" 7 (some .int)) {x0 : Nat} {x1 : Int32} {m : MM} (hM : M_X11_named G x0 x1 m = some (r9, m9)) (tx0 : Ty E G x0 11) : ∀ (H : Heap) (locs : List Loc), Hp E G m s H locs → ∀ ls : Array Slot, lv_has ls 7 [(0, .ref x0), (1, .int x1)] → W p l e rmX11_named s mth args below meth c H locs 0 0 (MQ below (cQi E r9 G m9) args s 0 0 (fun q => E.2.2.1 ≤ q)) (F0 mth 0 ls []) := by
  intro H locs h ls hl
  unfold M_X11_named at hM
  refine lv_aload_n C.1 C.2.1 dX11_named_0 rfl (lv_at hl 0 rfl) ?_
  refine lv_iload_n C.1 C.2.1 dX11_named_1 rfl (lv_at hl 1 rfl) ?_
  obtain ⟨r_8, m_9, hc_8, hM⟩ := bd_some hM
  refine h_callVi C h (As := [.int x1]) (rest := []) (bz r_8) m_9 (c_X11_isEnum hc_8 tx0) 11 rfl (by decide) tx0 im_yX11_isEnum se_yX11_isEnum cy_X11_isEnum rfl ml_X11_392 ⟨by decide, by decide⟩ ⟨Nat.zero_le _, Nat.zero_le _⟩ hl.1 rfl (Nat.le_of_ble_eq_true rfl) dX11_named_2 (fun H locs h => ?_)
  refine h_ifnz (tgt := 12) C.1 C.2.1 dX11_named_5 (by decide) (fun q => ?_) (fun q => ?_)
  · have hM := ite_t q hM
    refine lv_aload_n C.1 C.2.1 dX11_named_12 rfl (lv_at hl 0 rfl) ?_
    refine lv_iconst (v := 0) C.1 C.2.1 dX11_named_13 (by decide) ?_
    refine pt_11_62 C h tx0 fl_X11_362 dX11_named_14 (fun H locs h => ?_)
    refine lv_aload_n C.1 C.2.1 dX11_named_17 rfl (lv_at hl 0 rfl) ?_
    refine gt_11_1 C h tx0 fl_X11_171 dX11_named_18 ?_
    refine lv_istore_n (lv' := [(2, .int (gI (sI m_9 x0 62 0) x0 1)), (0, .ref x0), (1, .int x1)]) C.1 C.2.1 dX11_named_21 rfl hl (by decide) rfl (fun ls hl => ?_)
    refine lv_aload_n C.1 C.2.1 dX11_named_22 rfl (lv_at hl 1 rfl) ?_
    refine lv_iconst (v := 0) C.1 C.2.1 dX11_named_23 (by decide) ?_
    refine pt_11_1 C h tx0 fl_X11_171 dX11_named_24 (fun H locs h => ?_)
    refine lv_aload_n C.1 C.2.1 dX11_named_27 rfl (lv_at hl 1 rfl) ?_
    refine lv_iload_n C.1 C.2.1 dX11_named_28 rfl (lv_at hl 2 rfl) ?_
    obtain ⟨r_10, m_11, hc_10, hM⟩ := bd_some hM
    refine h_callVi C h (As := [.int x1]) (rest := []) (bz r_10) m_11 (c_X11_want hc_10 tx0) 11 rfl (by decide) tx0 im_yX11_want se_yX11_want cy_X11_want rfl ml_X11_400 ⟨by decide, by decide⟩ ⟨Nat.zero_le _, Nat.zero_le _⟩ hl.1 rfl (Nat.le_of_ble_eq_true rfl) dX11_named_29 (fun H locs h => ?_)
    refine h_ifnz (tgt := 37) C.1 C.2.1 dX11_named_32 (by decide) (fun q => ?_) (fun q => ?_)
    · have hM := ite_t q hM
      refine lv_iload_n C.1 C.2.1 dX11_named_37 rfl (lv_at hl 0 rfl) ?_
      refine lv_if_ne (tgt := 48) C.1 C.2.1 dX11_named_38 (by decide) (fun q => ?_) (fun q => ?_)
      · have hM := ite_f q hM
        refine lv_iconst (v := 0) C.1 C.2.1 dX11_named_48 (by decide) ?_
        refine lv_istore_n (lv' := [(3, .int 0), (2, .int (gI (sI m_9 x0 62 0) x0 1)), (0, .ref x0), (1, .int x1)]) C.1 C.2.1 dX11_named_49 rfl hl (by decide) rfl (fun ls hl => ?_)
        exact cB_X11_named_50 C _ _ _ _ _ _ hM tx0 _ _ h ls (lv_sub hl [2, 3, 1, 0] rfl)
      · have hM := ite_t q hM
        refine lv_aload_n C.1 C.2.1 dX11_named_41 rfl (lv_at hl 1 rfl) ?_
        refine lv_iconst (v := 1) C.1 C.2.1 dX11_named_42 (by decide) ?_
        obtain ⟨r_12, m_13, hc_12, hM⟩ := bd_some hM
        refine h_callVv C h (As := [.int 1]) (rest := []) m_13 (c_X11_fails hc_12 tx0) 11 rfl (by decide) tx0 im_yX11_fails se_yX11_fails cy_X11_fails rfl ml_X11_386 ⟨by decide, by decide⟩ ⟨Nat.zero_le _, Nat.zero_le _⟩ hl.1 rfl (Nat.le_of_ble_eq_true rfl) dX11_named_43 (fun H locs h => ?_)
        refine lv_iconst (v := 0) C.1 C.2.1 dX11_named_46 (by decide) ?_
        obtain ⟨rfl, rfl⟩ := so_inj hM
        exact h_iret C h dX11_named_47
    · have hM := ite_f q hM
      refine lv_iconst (v := 0) C.1 C.2.1 dX11_named_35 (by decide) ?_
      obtain ⟨rfl, rfl⟩ := so_inj hM
      exact h_iret C h dX11_named_36
  · have hM := ite_f q hM
    refine lv_ldcw C.1 C.2.1 C.2.2.2.1 (C.2.2.2.2.1 _ co_X11_395) dX11_named_8 ?_
    obtain ⟨rfl, rfl⟩ := so_inj hM
    exact h_iret C h dX11_named_11
theorem cy_X11_named : Cy yX11_named cX11_named 7 (some .int) 1 := ⟨cd_yX11_named, ii_X11, by decide, by decide, by decide +kernel⟩
set_option maxRecDepth 100000 in
theorem c_X11_named {l : Launch} {E : EE} {G : GG} {x0 : Nat} {x1 : Int32} {m m9 : MM} {r9 : Int32} (hM : M_X11_named G x0 x1 m = some (r9, m9)) (tx0 : Ty E G x0 11) : Mc l E yX11_named cX11_named 7 (some .int) rmX11_named [.ref x0, .int x1] G m (cQi E r9 G m9) := M_of (by decide) (Nat.le_of_ble_eq_true rfl) (fun p e s mth below meth c C h ls hl => cM_X11_named C hM tx0 _ _ h ls hl)
