abbrev rmX11_readConst : Room := { frames := 6, cells := 0, slots := 0, locals := 134 }
def B_X11_readConst_169 (G : GG) : Nat → Nat → Int32 → MM → Option (Unit × MM)
  | 0, _, _, _ => none
  | fu + 1, x0, x1, m =>
    bd (M_X11_isGood G x0 m) fun r_1 m_2 =>
      if r_1 = true then
        if (gI m_2 x0 44) = 1 then
          nb (gR m_2 x0 27) fun b_7 =>
            ib (gI m_2 x0 4) (G.2.2 b_7) <|
              nb (gR m_2 x0 28) fun b_8 =>
                ib ((520 * (gI m_2 x0 4)) + (gI m_2 b_7 ((gI m_2 x0 4).toNatClampNeg))) (G.2.2 b_8) <|
                  nb (gR (sI m_2 b_8 (((520 * (gI m_2 x0 4)) + (gI m_2 b_7 ((gI m_2 x0 4).toNatClampNeg))).toNatClampNeg) x1) x0 29) fun b_9 =>
                    ib ((520 * (gI m_2 x0 4)) + (gI m_2 b_7 ((gI m_2 x0 4).toNatClampNeg))) (G.2.2 b_9) <|
                      nb (gR (sI (sI m_2 b_8 (((520 * (gI m_2 x0 4)) + (gI m_2 b_7 ((gI m_2 x0 4).toNatClampNeg))).toNatClampNeg) x1) b_9 (((520 * (gI m_2 x0 4)) + (gI m_2 b_7 ((gI m_2 x0 4).toNatClampNeg))).toNatClampNeg) (gI (sI m_2 b_8 (((520 * (gI m_2 x0 4)) + (gI m_2 b_7 ((gI m_2 x0 4).toNatClampNeg))).toNatClampNeg) x1) x0 42)) x0 30) fun b_10 =>
                        ib ((520 * (gI m_2 x0 4)) + (gI m_2 b_7 ((gI m_2 x0 4).toNatClampNeg))) (G.2.2 b_10) <|
                          bd (M_X11_next G x0 (sI (sI (sI m_2 b_8 (((520 * (gI m_2 x0 4)) + (gI m_2 b_7 ((gI m_2 x0 4).toNatClampNeg))).toNatClampNeg) x1) b_9 (((520 * (gI m_2 x0 4)) + (gI m_2 b_7 ((gI m_2 x0 4).toNatClampNeg))).toNatClampNeg) (gI (sI m_2 b_8 (((520 * (gI m_2 x0 4)) + (gI m_2 b_7 ((gI m_2 x0 4).toNatClampNeg))).toNatClampNeg) x1) x0 42)) b_10 (((520 * (gI m_2 x0 4)) + (gI m_2 b_7 ((gI m_2 x0 4).toNatClampNeg))).toNatClampNeg) (gI (sI (sI m_2 b_8 (((520 * (gI m_2 x0 4)) + (gI m_2 b_7 ((gI m_2 x0 4).toNatClampNeg))).toNatClampNeg) x1) b_9 (((520 * (gI m_2 x0 4)) + (gI m_2 b_7 ((gI m_2 x0 4).toNatClampNeg))).toNatClampNeg) (gI (sI m_2 b_8 (((520 * (gI m_2 x0 4)) + (gI m_2 b_7 ((gI m_2 x0 4).toNatClampNeg))).toNatClampNeg) x1) x0 42)) x0 43))) fun _ m_12 =>
                            bd (M_X11_need G x0 61 m_12) fun _ m_14 =>
                              nb (gR m_14 x0 31) fun b_15 =>
                                nb (gR m_14 x0 33) fun b_16 =>
                                  ib (gI m_14 x0 4) (G.2.2 b_16) <|
                                    ib ((520 * (gI m_2 x0 4)) + (gI m_2 b_7 ((gI m_2 x0 4).toNatClampNeg))) (G.2.2 b_15) <|
                                      bd (M_X11_readExp G x0 (sI m_14 b_15 (((520 * (gI m_2 x0 4)) + (gI m_2 b_7 ((gI m_2 x0 4).toNatClampNeg))).toNatClampNeg) (gI m_14 b_16 ((gI m_14 x0 4).toNatClampNeg)))) fun _ m_18 =>
                                        nb (gR m_18 x0 32) fun b_19 =>
                                          nb (gR m_18 x0 33) fun b_20 =>
                                            ib (gI m_18 x0 4) (G.2.2 b_20) <|
                                              ib ((520 * (gI m_2 x0 4)) + (gI m_2 b_7 ((gI m_2 x0 4).toNatClampNeg))) (G.2.2 b_19) <|
                                                bd (M_X11_need G x0 59 (sI m_18 b_19 (((520 * (gI m_2 x0 4)) + (gI m_2 b_7 ((gI m_2 x0 4).toNatClampNeg))).toNatClampNeg) (gI m_18 b_20 ((gI m_18 x0 4).toNatClampNeg)))) fun _ m_22 =>
                                                  nb (gR m_22 x0 27) fun b_23 =>
                                                    ib (gI m_22 x0 4) (G.2.2 b_23) <|
                                                      ib (gI m_22 x0 4) (G.2.2 b_23) <|
                                                        B_X11_readConst_169 G fu x0 x1 (sI m_22 b_23 ((gI m_22 x0 4).toNatClampNeg) ((gI m_22 b_23 ((gI m_22 x0 4).toNatClampNeg)) + 1))
        else
          bd (M_X11_need G x0 125 m_2) fun _ m_6 =>
            some ((), m_6)
      else
        bd (M_X11_need G x0 125 m_2) fun _ m_4 =>
          some ((), m_4)
set_option maxRecDepth 100000 in
set_option maxHeartbeats 4000000 in
theorem cB_X11_readConst_169 {p : Program} {l : Launch} {e : Env} {s : State} {mth : MethodId} {args : Array Value} {below : List Frame} {meth : Method} {c : Code} {E : EE} {G : GG} {r9 : Unit} {m9 : MM} (C : Cx E G p s mth args meth c cX11_readConst RX11 "readConst" 3 none) : ∀ (fu : Nat) (x0 : Nat) (x1 : Int32) (m : MM), B_X11_readConst_169 G fu x0 x1 m = some (r9, m9) → (Ty E G x0 11) → ∀ (H : Heap) (locs : List Loc), Hp E G m s H locs → ∀ ls : Array Slot, lv_has ls 3 [(0, .ref x0), (1, .int x1)] → W p l e rmX11_readConst s mth args below meth c H locs 0 0 (MQ below (cQv E G m9) args s 0 0 (fun q => E.2.2.1 ≤ q)) (F0 mth 169 ls []) := by
  intro fu
  induction fu with
  | zero =>
    intro x0 x1 m hM
    rw [B_X11_readConst_169] at hM
    cases hM
  | succ fu ih =>
    intro x0 x1 m hM tx0 H locs h ls hl
    rw [B_X11_readConst_169] at hM
    refine lv_aload_n C.1 C.2.1 dX11_readConst_169 rfl (lv_at hl 0 rfl) ?_
    obtain ⟨r_1, m_2, hc_1, hM⟩ := bd_some hM
    refine h_callVi C h (As := []) (rest := []) (bz r_1) m_2 (c_X11_isGood hc_1 tx0) 11 rfl (by decide) tx0 im_yX11_isGood se_yX11_isGood cy_X11_isGood rfl ml_X11_249 ⟨by decide, by decide⟩ ⟨Nat.zero_le _, Nat.zero_le _⟩ hl.1 rfl (Nat.le_of_ble_eq_true rfl) dX11_readConst_170 (fun H locs h => ?_)
    refine h_ifz (tgt := 296) C.1 C.2.1 dX11_readConst_173 (by decide) (fun q => ?_) (fun q => ?_)
    · have hM := ite_f q hM
      refine lv_aload_n C.1 C.2.1 dX11_readConst_296 rfl (lv_at hl 0 rfl) ?_
      refine lv_bipush (v := 125) C.1 C.2.1 dX11_readConst_297 (by decide) ?_
      obtain ⟨r_3, m_4, hc_3, hM⟩ := bd_some hM
      refine h_callVv C h (As := [.int 125]) (rest := []) m_4 (c_X11_need hc_3 tx0) 11 rfl (by decide) tx0 im_yX11_need se_yX11_need cy_X11_need rfl ml_X11_268 ⟨by decide, by decide⟩ ⟨Nat.zero_le _, Nat.zero_le _⟩ hl.1 rfl (Nat.le_of_ble_eq_true rfl) dX11_readConst_299 (fun H locs h => ?_)
      obtain ⟨rfl, rfl⟩ := so_inj hM
      exact h_vret C h dX11_readConst_302
    · have hM := ite_t q hM
      refine lv_aload_n C.1 C.2.1 dX11_readConst_176 rfl (lv_at hl 0 rfl) ?_
      refine gt_11_44 C h tx0 fl_X11_196 dX11_readConst_177 ?_
      refine lv_iconst (v := 1) C.1 C.2.1 dX11_readConst_180 (by decide) ?_
      refine lv_icmp_ne (tgt := 296) C.1 C.2.1 dX11_readConst_181 (by decide) (fun q => ?_) (fun q => ?_)
      · have hM := ite_f q hM
        refine lv_aload_n C.1 C.2.1 dX11_readConst_296 rfl (lv_at hl 0 rfl) ?_
        refine lv_bipush (v := 125) C.1 C.2.1 dX11_readConst_297 (by decide) ?_
        obtain ⟨r_5, m_6, hc_5, hM⟩ := bd_some hM
        refine h_callVv C h (As := [.int 125]) (rest := []) m_6 (c_X11_need hc_5 tx0) 11 rfl (by decide) tx0 im_yX11_need se_yX11_need cy_X11_need rfl ml_X11_268 ⟨by decide, by decide⟩ ⟨Nat.zero_le _, Nat.zero_le _⟩ hl.1 rfl (Nat.le_of_ble_eq_true rfl) dX11_readConst_299 (fun H locs h => ?_)
        obtain ⟨rfl, rfl⟩ := so_inj hM
        exact h_vret C h dX11_readConst_302
      · have hM := ite_t q hM
        refine lv_sipush (v := 520) C.1 C.2.1 dX11_readConst_184 (by decide) ?_
        refine lv_aload_n C.1 C.2.1 dX11_readConst_187 rfl (lv_at hl 0 rfl) ?_
        refine gt_11_4 C h tx0 fl_X11_183 dX11_readConst_188 ?_
        refine lv_imul C.1 C.2.1 dX11_readConst_191 ?_
        refine lv_aload_n C.1 C.2.1 dX11_readConst_192 rfl (lv_at hl 0 rfl) ?_
        refine gt_11_27 C h tx0 fl_X11_79 dX11_readConst_193 ?_
        obtain ⟨b_7, hb_7, hM⟩ := nb_some hM
        have tb_7 : Ty E G b_7 12 := (fun b hb => tyf h tx0 hb) _ hb_7
        refine st_ref hb_7 ?_
        refine lv_aload_n C.1 C.2.1 dX11_readConst_196 rfl (lv_at hl 0 rfl) ?_
        refine gt_11_4 C h tx0 fl_X11_183 dX11_readConst_197 ?_
        obtain ⟨hi, hM⟩ := ib_some hM
        refine h_iald C h tb_7 hi dX11_readConst_200 ?_
        refine lv_iadd C.1 C.2.1 dX11_readConst_201 ?_
        refine lv_istore_n (lv' := [(2, .int ((520 * (gI m_2 x0 4)) + (gI m_2 b_7 ((gI m_2 x0 4).toNatClampNeg)))), (0, .ref x0), (1, .int x1)]) C.1 C.2.1 dX11_readConst_202 rfl hl (by decide) rfl (fun ls hl => ?_)
        refine lv_aload_n C.1 C.2.1 dX11_readConst_203 rfl (lv_at hl 1 rfl) ?_
        refine gt_11_28 C h tx0 fl_X11_82 dX11_readConst_204 ?_
        obtain ⟨b_8, hb_8, hM⟩ := nb_some hM
        have tb_8 : Ty E G b_8 12 := (fun b hb => tyf h tx0 hb) _ hb_8
        refine st_ref hb_8 ?_
        refine lv_iload_n C.1 C.2.1 dX11_readConst_207 rfl (lv_at hl 0 rfl) ?_
        refine lv_iload_n C.1 C.2.1 dX11_readConst_208 rfl (lv_at hl 2 rfl) ?_
        obtain ⟨hi, hM⟩ := ib_some hM
        refine h_iast C h tb_8 hi dX11_readConst_209 (fun H locs h => ?_)
        refine lv_aload_n C.1 C.2.1 dX11_readConst_210 rfl (lv_at hl 1 rfl) ?_
        refine gt_11_29 C h tx0 fl_X11_85 dX11_readConst_211 ?_
        obtain ⟨b_9, hb_9, hM⟩ := nb_some hM
        have tb_9 : Ty E G b_9 12 := (fun b hb => tyf h tx0 hb) _ hb_9
        refine st_ref hb_9 ?_
        refine lv_iload_n C.1 C.2.1 dX11_readConst_214 rfl (lv_at hl 0 rfl) ?_
        refine lv_aload_n C.1 C.2.1 dX11_readConst_215 rfl (lv_at hl 1 rfl) ?_
        refine gt_11_42 C h tx0 fl_X11_193 dX11_readConst_216 ?_
        obtain ⟨hi, hM⟩ := ib_some hM
        refine h_iast C h tb_9 hi dX11_readConst_219 (fun H locs h => ?_)
        refine lv_aload_n C.1 C.2.1 dX11_readConst_220 rfl (lv_at hl 1 rfl) ?_
        refine gt_11_30 C h tx0 fl_X11_88 dX11_readConst_221 ?_
        obtain ⟨b_10, hb_10, hM⟩ := nb_some hM
        have tb_10 : Ty E G b_10 12 := (fun b hb => tyf h tx0 hb) _ hb_10
        refine st_ref hb_10 ?_
        refine lv_iload_n C.1 C.2.1 dX11_readConst_224 rfl (lv_at hl 0 rfl) ?_
        refine lv_aload_n C.1 C.2.1 dX11_readConst_225 rfl (lv_at hl 1 rfl) ?_
        refine gt_11_43 C h tx0 fl_X11_206 dX11_readConst_226 ?_
        obtain ⟨hi, hM⟩ := ib_some hM
        refine h_iast C h tb_10 hi dX11_readConst_229 (fun H locs h => ?_)
        refine lv_aload_n C.1 C.2.1 dX11_readConst_230 rfl (lv_at hl 1 rfl) ?_
        obtain ⟨r_11, m_12, hc_11, hM⟩ := bd_some hM
        refine h_callVv C h (As := []) (rest := []) m_12 (c_X11_next hc_11 tx0) 11 rfl (by decide) tx0 im_yX11_next se_yX11_next cy_X11_next rfl ml_X11_256 ⟨by decide, by decide⟩ ⟨Nat.zero_le _, Nat.zero_le _⟩ hl.1 rfl (Nat.le_of_ble_eq_true rfl) dX11_readConst_231 (fun H locs h => ?_)
        refine lv_aload_n C.1 C.2.1 dX11_readConst_234 rfl (lv_at hl 1 rfl) ?_
        refine lv_bipush (v := 61) C.1 C.2.1 dX11_readConst_235 (by decide) ?_
        obtain ⟨r_13, m_14, hc_13, hM⟩ := bd_some hM
        refine h_callVv C h (As := [.int 61]) (rest := []) m_14 (c_X11_need hc_13 tx0) 11 rfl (by decide) tx0 im_yX11_need se_yX11_need cy_X11_need rfl ml_X11_268 ⟨by decide, by decide⟩ ⟨Nat.zero_le _, Nat.zero_le _⟩ hl.1 rfl (Nat.le_of_ble_eq_true rfl) dX11_readConst_237 (fun H locs h => ?_)
        refine lv_aload_n C.1 C.2.1 dX11_readConst_240 rfl (lv_at hl 1 rfl) ?_
        refine gt_11_31 C h tx0 fl_X11_91 dX11_readConst_241 ?_
        obtain ⟨b_15, hb_15, hM⟩ := nb_some hM
        have tb_15 : Ty E G b_15 12 := (fun b hb => tyf h tx0 hb) _ hb_15
        refine st_ref hb_15 ?_
        refine lv_iload_n C.1 C.2.1 dX11_readConst_244 rfl (lv_at hl 0 rfl) ?_
        refine lv_aload_n C.1 C.2.1 dX11_readConst_245 rfl (lv_at hl 1 rfl) ?_
        refine gt_11_33 C h tx0 fl_X11_97 dX11_readConst_246 ?_
        obtain ⟨b_16, hb_16, hM⟩ := nb_some hM
        have tb_16 : Ty E G b_16 12 := (fun b hb => tyf h tx0 hb) _ hb_16
        refine st_ref hb_16 ?_
        refine lv_aload_n C.1 C.2.1 dX11_readConst_249 rfl (lv_at hl 1 rfl) ?_
        refine gt_11_4 C h tx0 fl_X11_183 dX11_readConst_250 ?_
        obtain ⟨hi, hM⟩ := ib_some hM
        refine h_iald C h tb_16 hi dX11_readConst_253 ?_
        obtain ⟨hi, hM⟩ := ib_some hM
        refine h_iast C h tb_15 hi dX11_readConst_254 (fun H locs h => ?_)
        refine lv_aload_n C.1 C.2.1 dX11_readConst_255 rfl (lv_at hl 1 rfl) ?_
        obtain ⟨r_17, m_18, hc_17, hM⟩ := bd_some hM
        refine h_callVv C h (As := []) (rest := []) m_18 (c_X11_readExp hc_17 tx0) 11 rfl (by decide) tx0 im_yX11_readExp se_yX11_readExp cy_X11_readExp rfl ml_X11_278 ⟨by decide, by decide⟩ ⟨Nat.zero_le _, Nat.zero_le _⟩ hl.1 rfl (Nat.le_of_ble_eq_true rfl) dX11_readConst_256 (fun H locs h => ?_)
        refine lv_aload_n C.1 C.2.1 dX11_readConst_259 rfl (lv_at hl 1 rfl) ?_
        refine gt_11_32 C h tx0 fl_X11_94 dX11_readConst_260 ?_
        obtain ⟨b_19, hb_19, hM⟩ := nb_some hM
        have tb_19 : Ty E G b_19 12 := (fun b hb => tyf h tx0 hb) _ hb_19
        refine st_ref hb_19 ?_
        refine lv_iload_n C.1 C.2.1 dX11_readConst_263 rfl (lv_at hl 0 rfl) ?_
        refine lv_aload_n C.1 C.2.1 dX11_readConst_264 rfl (lv_at hl 1 rfl) ?_
        refine gt_11_33 C h tx0 fl_X11_97 dX11_readConst_265 ?_
        obtain ⟨b_20, hb_20, hM⟩ := nb_some hM
        have tb_20 : Ty E G b_20 12 := (fun b hb => tyf h tx0 hb) _ hb_20
        refine st_ref hb_20 ?_
        refine lv_aload_n C.1 C.2.1 dX11_readConst_268 rfl (lv_at hl 1 rfl) ?_
        refine gt_11_4 C h tx0 fl_X11_183 dX11_readConst_269 ?_
        obtain ⟨hi, hM⟩ := ib_some hM
        refine h_iald C h tb_20 hi dX11_readConst_272 ?_
        obtain ⟨hi, hM⟩ := ib_some hM
        refine h_iast C h tb_19 hi dX11_readConst_273 (fun H locs h => ?_)
        refine lv_aload_n C.1 C.2.1 dX11_readConst_274 rfl (lv_at hl 1 rfl) ?_
        refine lv_bipush (v := 59) C.1 C.2.1 dX11_readConst_275 (by decide) ?_
        obtain ⟨r_21, m_22, hc_21, hM⟩ := bd_some hM
        refine h_callVv C h (As := [.int 59]) (rest := []) m_22 (c_X11_need hc_21 tx0) 11 rfl (by decide) tx0 im_yX11_need se_yX11_need cy_X11_need rfl ml_X11_268 ⟨by decide, by decide⟩ ⟨Nat.zero_le _, Nat.zero_le _⟩ hl.1 rfl (Nat.le_of_ble_eq_true rfl) dX11_readConst_277 (fun H locs h => ?_)
        refine lv_aload_n C.1 C.2.1 dX11_readConst_280 rfl (lv_at hl 1 rfl) ?_
        refine gt_11_27 C h tx0 fl_X11_79 dX11_readConst_281 ?_
        obtain ⟨b_23, hb_23, hM⟩ := nb_some hM
        have tb_23 : Ty E G b_23 12 := (fun b hb => tyf h tx0 hb) _ hb_23
        refine st_ref hb_23 ?_
        refine lv_aload_n C.1 C.2.1 dX11_readConst_284 rfl (lv_at hl 1 rfl) ?_
        refine gt_11_4 C h tx0 fl_X11_183 dX11_readConst_285 ?_
        refine lv_dup2_11 C.1 C.2.1 dX11_readConst_288 rfl rfl ?_
        obtain ⟨hi, hM⟩ := ib_some hM
        refine h_iald C h tb_23 hi dX11_readConst_289 ?_
        refine lv_iconst (v := 1) C.1 C.2.1 dX11_readConst_290 (by decide) ?_
        refine lv_iadd C.1 C.2.1 dX11_readConst_291 ?_
        obtain ⟨hi, hM⟩ := ib_some hM
        refine h_iast C h tb_23 hi dX11_readConst_292 (fun H locs h => ?_)
        refine lv_goto (tgt := 169) C.1 C.2.1 dX11_readConst_293 (by decide) ?_
        exact ih _ _ _ hM tx0 _ _ h ls (lv_sub hl [1, 2] rfl)
def B_X11_readConst_142 (G : GG) (x0 : Nat) (x1 : Int32) (m : MM) : Option (Unit × MM) :=
  bd (M_X11_isGood G x0 m) fun r_24 m_25 =>
    if r_24 = true then
      bd (M_X11_isAt G x0 123 m_25) fun r_26 m_27 =>
        if r_26 = true then
          nb (gR m_27 x0 17) fun b_28 =>
            ib x1 (G.2.2 b_28) <|
              bd (M_X11_next G x0 (sI m_27 b_28 x1.toNatClampNeg 1)) fun _ m_30 =>
                B_X11_readConst_169 G FU x0 x1 m_30
        else
          some ((), m_27)
    else
      some ((), m_25)
set_option maxRecDepth 100000 in
set_option maxHeartbeats 4000000 in
theorem cB_X11_readConst_142 {p : Program} {l : Launch} {e : Env} {s : State} {mth : MethodId} {args : Array Value} {below : List Frame} {meth : Method} {c : Code} {E : EE} {G : GG} {r9 : Unit} {m9 : MM} (C : Cx E G p s mth args meth c cX11_readConst RX11 "readConst" 3 none) {x0 : Nat} {x1 : Int32} {m : MM} (hM : B_X11_readConst_142 G x0 x1 m = some (r9, m9)) (tx0 : Ty E G x0 11) : ∀ (H : Heap) (locs : List Loc), Hp E G m s H locs → ∀ ls : Array Slot, lv_has ls 3 [(0, .ref x0), (1, .int x1)] → W p l e rmX11_readConst s mth args below meth c H locs 0 0 (MQ below (cQv E G m9) args s 0 0 (fun q => E.2.2.1 ≤ q)) (F0 mth 142 ls []) := by
  intro H locs h ls hl
  unfold B_X11_readConst_142 at hM
  refine lv_aload_n C.1 C.2.1 dX11_readConst_142 rfl (lv_at hl 0 rfl) ?_
  obtain ⟨r_24, m_25, hc_24, hM⟩ := bd_some hM
  refine h_callVi C h (As := []) (rest := []) (bz r_24) m_25 (c_X11_isGood hc_24 tx0) 11 rfl (by decide) tx0 im_yX11_isGood se_yX11_isGood cy_X11_isGood rfl ml_X11_249 ⟨by decide, by decide⟩ ⟨Nat.zero_le _, Nat.zero_le _⟩ hl.1 rfl (Nat.le_of_ble_eq_true rfl) dX11_readConst_143 (fun H locs h => ?_)
  refine h_ifz (tgt := 302) C.1 C.2.1 dX11_readConst_146 (by decide) (fun q => ?_) (fun q => ?_)
  · have hM := ite_f q hM
    obtain ⟨rfl, rfl⟩ := so_inj hM
    exact h_vret C h dX11_readConst_302
  · have hM := ite_t q hM
    refine lv_aload_n C.1 C.2.1 dX11_readConst_149 rfl (lv_at hl 0 rfl) ?_
    refine lv_bipush (v := 123) C.1 C.2.1 dX11_readConst_150 (by decide) ?_
    obtain ⟨r_26, m_27, hc_26, hM⟩ := bd_some hM
    refine h_callVi C h (As := [.int 123]) (rest := []) (bz r_26) m_27 (c_X11_isAt hc_26 tx0) 11 rfl (by decide) tx0 im_yX11_isAt se_yX11_isAt cy_X11_isAt rfl ml_X11_253 ⟨by decide, by decide⟩ ⟨Nat.zero_le _, Nat.zero_le _⟩ hl.1 rfl (Nat.le_of_ble_eq_true rfl) dX11_readConst_152 (fun H locs h => ?_)
    refine h_ifz (tgt := 302) C.1 C.2.1 dX11_readConst_155 (by decide) (fun q => ?_) (fun q => ?_)
    · have hM := ite_f q hM
      obtain ⟨rfl, rfl⟩ := so_inj hM
      exact h_vret C h dX11_readConst_302
    · have hM := ite_t q hM
      refine lv_aload_n C.1 C.2.1 dX11_readConst_158 rfl (lv_at hl 0 rfl) ?_
      refine gt_11_17 C h tx0 fl_X11_49 dX11_readConst_159 ?_
      obtain ⟨b_28, hb_28, hM⟩ := nb_some hM
      have tb_28 : Ty E G b_28 12 := (fun b hb => tyf h tx0 hb) _ hb_28
      refine st_ref hb_28 ?_
      refine lv_iload_n C.1 C.2.1 dX11_readConst_162 rfl (lv_at hl 1 rfl) ?_
      refine lv_iconst (v := 1) C.1 C.2.1 dX11_readConst_163 (by decide) ?_
      obtain ⟨hi, hM⟩ := ib_some hM
      refine h_iast C h tb_28 hi dX11_readConst_164 (fun H locs h => ?_)
      refine lv_aload_n C.1 C.2.1 dX11_readConst_165 rfl (lv_at hl 0 rfl) ?_
      obtain ⟨r_29, m_30, hc_29, hM⟩ := bd_some hM
      refine h_callVv C h (As := []) (rest := []) m_30 (c_X11_next hc_29 tx0) 11 rfl (by decide) tx0 im_yX11_next se_yX11_next cy_X11_next rfl ml_X11_256 ⟨by decide, by decide⟩ ⟨Nat.zero_le _, Nat.zero_le _⟩ hl.1 rfl (Nat.le_of_ble_eq_true rfl) dX11_readConst_166 (fun H locs h => ?_)
      exact cB_X11_readConst_169 C _ _ _ _ hM tx0 _ _ h ls (lv_sub hl [0, 1] rfl)
def M_X11_readConst (G : GG) (x0 : Nat) (m : MM) : Option (Unit × MM) :=
  if (gI m x0 44) = 1 then
    nb (gR m x0 9) fun b_33 =>
      ib (gI m x0 48) (G.2.2 b_33) <|
        if (gI m b_33 ((gI m x0 48).toNatClampNeg)) = 12 then
          bd (M_X11_stop G x0 m) fun _ m_53 =>
            some ((), m_53)
        else
          ib (gI m x0 48) (G.2.2 b_33) <|
            nb (gR m x0 14) fun b_34 =>
              ib ((12 * (gI m x0 48)) + (gI m b_33 ((gI m x0 48).toNatClampNeg))) (G.2.2 b_34) <|
                nb (gR (sI m b_34 (((12 * (gI m x0 48)) + (gI m b_33 ((gI m x0 48).toNatClampNeg))).toNatClampNeg) (gI m x0 42)) x0 15) fun b_35 =>
                  ib ((12 * (gI m x0 48)) + (gI m b_33 ((gI m x0 48).toNatClampNeg))) (G.2.2 b_35) <|
                    nb (gR (sI (sI m b_34 (((12 * (gI m x0 48)) + (gI m b_33 ((gI m x0 48).toNatClampNeg))).toNatClampNeg) (gI m x0 42)) b_35 (((12 * (gI m x0 48)) + (gI m b_33 ((gI m x0 48).toNatClampNeg))).toNatClampNeg) (gI (sI m b_34 (((12 * (gI m x0 48)) + (gI m b_33 ((gI m x0 48).toNatClampNeg))).toNatClampNeg) (gI m x0 42)) x0 43)) x0 16) fun b_36 =>
                      ib ((12 * (gI m x0 48)) + (gI m b_33 ((gI m x0 48).toNatClampNeg))) (G.2.2 b_36) <|
                        nb (gR (sI (sI (sI m b_34 (((12 * (gI m x0 48)) + (gI m b_33 ((gI m x0 48).toNatClampNeg))).toNatClampNeg) (gI m x0 42)) b_35 (((12 * (gI m x0 48)) + (gI m b_33 ((gI m x0 48).toNatClampNeg))).toNatClampNeg) (gI (sI m b_34 (((12 * (gI m x0 48)) + (gI m b_33 ((gI m x0 48).toNatClampNeg))).toNatClampNeg) (gI m x0 42)) x0 43)) b_36 (((12 * (gI m x0 48)) + (gI m b_33 ((gI m x0 48).toNatClampNeg))).toNatClampNeg) 0) x0 17) fun b_37 =>
                          ib ((12 * (gI m x0 48)) + (gI m b_33 ((gI m x0 48).toNatClampNeg))) (G.2.2 b_37) <|
                            nb (gR (sI (sI (sI (sI m b_34 (((12 * (gI m x0 48)) + (gI m b_33 ((gI m x0 48).toNatClampNeg))).toNatClampNeg) (gI m x0 42)) b_35 (((12 * (gI m x0 48)) + (gI m b_33 ((gI m x0 48).toNatClampNeg))).toNatClampNeg) (gI (sI m b_34 (((12 * (gI m x0 48)) + (gI m b_33 ((gI m x0 48).toNatClampNeg))).toNatClampNeg) (gI m x0 42)) x0 43)) b_36 (((12 * (gI m x0 48)) + (gI m b_33 ((gI m x0 48).toNatClampNeg))).toNatClampNeg) 0) b_37 (((12 * (gI m x0 48)) + (gI m b_33 ((gI m x0 48).toNatClampNeg))).toNatClampNeg) 0) x0 9) fun b_38 =>
                              ib (gI (sI (sI (sI (sI m b_34 (((12 * (gI m x0 48)) + (gI m b_33 ((gI m x0 48).toNatClampNeg))).toNatClampNeg) (gI m x0 42)) b_35 (((12 * (gI m x0 48)) + (gI m b_33 ((gI m x0 48).toNatClampNeg))).toNatClampNeg) (gI (sI m b_34 (((12 * (gI m x0 48)) + (gI m b_33 ((gI m x0 48).toNatClampNeg))).toNatClampNeg) (gI m x0 42)) x0 43)) b_36 (((12 * (gI m x0 48)) + (gI m b_33 ((gI m x0 48).toNatClampNeg))).toNatClampNeg) 0) b_37 (((12 * (gI m x0 48)) + (gI m b_33 ((gI m x0 48).toNatClampNeg))).toNatClampNeg) 0) x0 48) (G.2.2 b_38) <|
                                ib (gI (sI (sI (sI (sI m b_34 (((12 * (gI m x0 48)) + (gI m b_33 ((gI m x0 48).toNatClampNeg))).toNatClampNeg) (gI m x0 42)) b_35 (((12 * (gI m x0 48)) + (gI m b_33 ((gI m x0 48).toNatClampNeg))).toNatClampNeg) (gI (sI m b_34 (((12 * (gI m x0 48)) + (gI m b_33 ((gI m x0 48).toNatClampNeg))).toNatClampNeg) (gI m x0 42)) x0 43)) b_36 (((12 * (gI m x0 48)) + (gI m b_33 ((gI m x0 48).toNatClampNeg))).toNatClampNeg) 0) b_37 (((12 * (gI m x0 48)) + (gI m b_33 ((gI m x0 48).toNatClampNeg))).toNatClampNeg) 0) x0 48) (G.2.2 b_38) <|
                                  bd (M_X11_next G x0 (sI (sI (sI (sI (sI m b_34 (((12 * (gI m x0 48)) + (gI m b_33 ((gI m x0 48).toNatClampNeg))).toNatClampNeg) (gI m x0 42)) b_35 (((12 * (gI m x0 48)) + (gI m b_33 ((gI m x0 48).toNatClampNeg))).toNatClampNeg) (gI (sI m b_34 (((12 * (gI m x0 48)) + (gI m b_33 ((gI m x0 48).toNatClampNeg))).toNatClampNeg) (gI m x0 42)) x0 43)) b_36 (((12 * (gI m x0 48)) + (gI m b_33 ((gI m x0 48).toNatClampNeg))).toNatClampNeg) 0) b_37 (((12 * (gI m x0 48)) + (gI m b_33 ((gI m x0 48).toNatClampNeg))).toNatClampNeg) 0) b_38 ((gI (sI (sI (sI (sI m b_34 (((12 * (gI m x0 48)) + (gI m b_33 ((gI m x0 48).toNatClampNeg))).toNatClampNeg) (gI m x0 42)) b_35 (((12 * (gI m x0 48)) + (gI m b_33 ((gI m x0 48).toNatClampNeg))).toNatClampNeg) (gI (sI m b_34 (((12 * (gI m x0 48)) + (gI m b_33 ((gI m x0 48).toNatClampNeg))).toNatClampNeg) (gI m x0 42)) x0 43)) b_36 (((12 * (gI m x0 48)) + (gI m b_33 ((gI m x0 48).toNatClampNeg))).toNatClampNeg) 0) b_37 (((12 * (gI m x0 48)) + (gI m b_33 ((gI m x0 48).toNatClampNeg))).toNatClampNeg) 0) x0 48).toNatClampNeg) ((gI (sI (sI (sI (sI m b_34 (((12 * (gI m x0 48)) + (gI m b_33 ((gI m x0 48).toNatClampNeg))).toNatClampNeg) (gI m x0 42)) b_35 (((12 * (gI m x0 48)) + (gI m b_33 ((gI m x0 48).toNatClampNeg))).toNatClampNeg) (gI (sI m b_34 (((12 * (gI m x0 48)) + (gI m b_33 ((gI m x0 48).toNatClampNeg))).toNatClampNeg) (gI m x0 42)) x0 43)) b_36 (((12 * (gI m x0 48)) + (gI m b_33 ((gI m x0 48).toNatClampNeg))).toNatClampNeg) 0) b_37 (((12 * (gI m x0 48)) + (gI m b_33 ((gI m x0 48).toNatClampNeg))).toNatClampNeg) 0) b_38 ((gI (sI (sI (sI (sI m b_34 (((12 * (gI m x0 48)) + (gI m b_33 ((gI m x0 48).toNatClampNeg))).toNatClampNeg) (gI m x0 42)) b_35 (((12 * (gI m x0 48)) + (gI m b_33 ((gI m x0 48).toNatClampNeg))).toNatClampNeg) (gI (sI m b_34 (((12 * (gI m x0 48)) + (gI m b_33 ((gI m x0 48).toNatClampNeg))).toNatClampNeg) (gI m x0 42)) x0 43)) b_36 (((12 * (gI m x0 48)) + (gI m b_33 ((gI m x0 48).toNatClampNeg))).toNatClampNeg) 0) b_37 (((12 * (gI m x0 48)) + (gI m b_33 ((gI m x0 48).toNatClampNeg))).toNatClampNeg) 0) x0 48).toNatClampNeg)) + 1))) fun _ m_40 =>
                                    bd (M_X11_isAt G x0 40 m_40) fun r_41 m_42 =>
                                      if r_41 = true then
                                        bd (M_X11_next G x0 m_42) fun _ m_44 =>
                                          if (gI m_44 x0 44) = 2 then
                                            nb (gR m_44 x0 16) fun b_45 =>
                                              ib ((12 * (gI m x0 48)) + (gI m b_33 ((gI m x0 48).toNatClampNeg))) (G.2.2 b_45) <|
                                                bd (M_X11_next G x0 (sI m_44 b_45 (((12 * (gI m x0 48)) + (gI m b_33 ((gI m x0 48).toNatClampNeg))).toNatClampNeg) (gI m_44 x0 45))) fun _ m_47 =>
                                                  bd (M_X11_need G x0 41 m_47) fun _ m_49 =>
                                                    B_X11_readConst_142 G x0 ((12 * (gI m x0 48)) + (gI m b_33 ((gI m x0 48).toNatClampNeg))) m_49
                                          else
                                            bd (M_X11_stop G x0 m_44) fun _ m_51 =>
                                              some ((), m_51)
                                      else
                                        B_X11_readConst_142 G x0 ((12 * (gI m x0 48)) + (gI m b_33 ((gI m x0 48).toNatClampNeg))) m_42
  else
    bd (M_X11_stop G x0 m) fun _ m_32 =>
      some ((), m_32)
set_option maxRecDepth 100000 in
set_option maxHeartbeats 4000000 in
theorem cM_X11_readConst {p : Program} {l : Launch} {e : Env} {s : State} {mth : MethodId} {args : Array Value} {below : List Frame} {meth : Method} {c : Code} {E : EE} {G : GG} {r9 : Unit} {m9 : MM} (C : Cx E G p s mth args meth c cX11_readConst RX11 "readConst" 3 none) {x0 : Nat} {m : MM} (hM : M_X11_readConst G x0 m = some (r9, m9)) (tx0 : Ty E G x0 11) : ∀ (H : Heap) (locs : List Loc), Hp E G m s H locs → ∀ ls : Array Slot, lv_has ls 3 [(0, .ref x0)] → W p l e rmX11_readConst s mth args below meth c H locs 0 0 (MQ below (cQv E G m9) args s 0 0 (fun q => E.2.2.1 ≤ q)) (F0 mth 0 ls []) := by
  intro H locs h ls hl
  unfold M_X11_readConst at hM
  refine lv_aload_n C.1 C.2.1 dX11_readConst_0 rfl (lv_at hl 0 rfl) ?_
  refine gt_11_44 C h tx0 fl_X11_196 dX11_readConst_1 ?_
  refine lv_iconst (v := 1) C.1 C.2.1 dX11_readConst_4 (by decide) ?_
  refine lv_icmp_ne (tgt := 22) C.1 C.2.1 dX11_readConst_5 (by decide) (fun q => ?_) (fun q => ?_)
  · have hM := ite_f q hM
    refine lv_aload_n C.1 C.2.1 dX11_readConst_22 rfl (lv_at hl 0 rfl) ?_
    obtain ⟨r_31, m_32, hc_31, hM⟩ := bd_some hM
    refine h_callVv C h (As := []) (rest := []) m_32 (c_X11_stop hc_31 tx0) 11 rfl (by decide) tx0 im_yX11_stop se_yX11_stop cy_X11_stop rfl ml_X11_259 ⟨by decide, by decide⟩ ⟨Nat.zero_le _, Nat.zero_le _⟩ hl.1 rfl (Nat.le_of_ble_eq_true rfl) dX11_readConst_23 (fun H locs h => ?_)
    obtain ⟨rfl, rfl⟩ := so_inj hM
    exact h_vret C h dX11_readConst_26
  · have hM := ite_t q hM
    refine lv_aload_n C.1 C.2.1 dX11_readConst_8 rfl (lv_at hl 0 rfl) ?_
    refine gt_11_9 C h tx0 fl_X11_25 dX11_readConst_9 ?_
    obtain ⟨b_33, hb_33, hM⟩ := nb_some hM
    have tb_33 : Ty E G b_33 12 := (fun b hb => tyf h tx0 hb) _ hb_33
    refine st_ref hb_33 ?_
    refine lv_aload_n C.1 C.2.1 dX11_readConst_12 rfl (lv_at hl 0 rfl) ?_
    refine gt_11_48 C h tx0 fl_X11_265 dX11_readConst_13 ?_
    obtain ⟨hi, hM⟩ := ib_some hM
    refine h_iald C h tb_33 hi dX11_readConst_16 ?_
    refine lv_bipush (v := 12) C.1 C.2.1 dX11_readConst_17 (by decide) ?_
    refine lv_icmp_ne (tgt := 27) C.1 C.2.1 dX11_readConst_19 (by decide) (fun q => ?_) (fun q => ?_)
    · have hM := ite_f q hM
      refine lv_bipush (v := 12) C.1 C.2.1 dX11_readConst_27 (by decide) ?_
      refine lv_aload_n C.1 C.2.1 dX11_readConst_29 rfl (lv_at hl 0 rfl) ?_
      refine gt_11_48 C h tx0 fl_X11_265 dX11_readConst_30 ?_
      refine lv_imul C.1 C.2.1 dX11_readConst_33 ?_
      refine lv_aload_n C.1 C.2.1 dX11_readConst_34 rfl (lv_at hl 0 rfl) ?_
      refine gt_11_9 C h tx0 fl_X11_25 dX11_readConst_35 ?_
      refine st_ref hb_33 ?_
      refine lv_aload_n C.1 C.2.1 dX11_readConst_38 rfl (lv_at hl 0 rfl) ?_
      refine gt_11_48 C h tx0 fl_X11_265 dX11_readConst_39 ?_
      obtain ⟨hi, hM⟩ := ib_some hM
      refine h_iald C h tb_33 hi dX11_readConst_42 ?_
      refine lv_iadd C.1 C.2.1 dX11_readConst_43 ?_
      refine lv_istore_n (lv' := [(1, .int ((12 * (gI m x0 48)) + (gI m b_33 ((gI m x0 48).toNatClampNeg)))), (0, .ref x0)]) C.1 C.2.1 dX11_readConst_44 rfl hl (by decide) rfl (fun ls hl => ?_)
      refine lv_aload_n C.1 C.2.1 dX11_readConst_45 rfl (lv_at hl 1 rfl) ?_
      refine gt_11_14 C h tx0 fl_X11_40 dX11_readConst_46 ?_
      obtain ⟨b_34, hb_34, hM⟩ := nb_some hM
      have tb_34 : Ty E G b_34 12 := (fun b hb => tyf h tx0 hb) _ hb_34
      refine st_ref hb_34 ?_
      refine lv_iload_n C.1 C.2.1 dX11_readConst_49 rfl (lv_at hl 0 rfl) ?_
      refine lv_aload_n C.1 C.2.1 dX11_readConst_50 rfl (lv_at hl 1 rfl) ?_
      refine gt_11_42 C h tx0 fl_X11_193 dX11_readConst_51 ?_
      obtain ⟨hi, hM⟩ := ib_some hM
      refine h_iast C h tb_34 hi dX11_readConst_54 (fun H locs h => ?_)
      refine lv_aload_n C.1 C.2.1 dX11_readConst_55 rfl (lv_at hl 1 rfl) ?_
      refine gt_11_15 C h tx0 fl_X11_43 dX11_readConst_56 ?_
      obtain ⟨b_35, hb_35, hM⟩ := nb_some hM
      have tb_35 : Ty E G b_35 12 := (fun b hb => tyf h tx0 hb) _ hb_35
      refine st_ref hb_35 ?_
      refine lv_iload_n C.1 C.2.1 dX11_readConst_59 rfl (lv_at hl 0 rfl) ?_
      refine lv_aload_n C.1 C.2.1 dX11_readConst_60 rfl (lv_at hl 1 rfl) ?_
      refine gt_11_43 C h tx0 fl_X11_206 dX11_readConst_61 ?_
      obtain ⟨hi, hM⟩ := ib_some hM
      refine h_iast C h tb_35 hi dX11_readConst_64 (fun H locs h => ?_)
      refine lv_aload_n C.1 C.2.1 dX11_readConst_65 rfl (lv_at hl 1 rfl) ?_
      refine gt_11_16 C h tx0 fl_X11_46 dX11_readConst_66 ?_
      obtain ⟨b_36, hb_36, hM⟩ := nb_some hM
      have tb_36 : Ty E G b_36 12 := (fun b hb => tyf h tx0 hb) _ hb_36
      refine st_ref hb_36 ?_
      refine lv_iload_n C.1 C.2.1 dX11_readConst_69 rfl (lv_at hl 0 rfl) ?_
      refine lv_iconst (v := 0) C.1 C.2.1 dX11_readConst_70 (by decide) ?_
      obtain ⟨hi, hM⟩ := ib_some hM
      refine h_iast C h tb_36 hi dX11_readConst_71 (fun H locs h => ?_)
      refine lv_aload_n C.1 C.2.1 dX11_readConst_72 rfl (lv_at hl 1 rfl) ?_
      refine gt_11_17 C h tx0 fl_X11_49 dX11_readConst_73 ?_
      obtain ⟨b_37, hb_37, hM⟩ := nb_some hM
      have tb_37 : Ty E G b_37 12 := (fun b hb => tyf h tx0 hb) _ hb_37
      refine st_ref hb_37 ?_
      refine lv_iload_n C.1 C.2.1 dX11_readConst_76 rfl (lv_at hl 0 rfl) ?_
      refine lv_iconst (v := 0) C.1 C.2.1 dX11_readConst_77 (by decide) ?_
      obtain ⟨hi, hM⟩ := ib_some hM
      refine h_iast C h tb_37 hi dX11_readConst_78 (fun H locs h => ?_)
      refine lv_aload_n C.1 C.2.1 dX11_readConst_79 rfl (lv_at hl 1 rfl) ?_
      refine gt_11_9 C h tx0 fl_X11_25 dX11_readConst_80 ?_
      obtain ⟨b_38, hb_38, hM⟩ := nb_some hM
      have tb_38 : Ty E G b_38 12 := (fun b hb => tyf h tx0 hb) _ hb_38
      refine st_ref hb_38 ?_
      refine lv_aload_n C.1 C.2.1 dX11_readConst_83 rfl (lv_at hl 1 rfl) ?_
      refine gt_11_48 C h tx0 fl_X11_265 dX11_readConst_84 ?_
      refine lv_dup2_11 C.1 C.2.1 dX11_readConst_87 rfl rfl ?_
      obtain ⟨hi, hM⟩ := ib_some hM
      refine h_iald C h tb_38 hi dX11_readConst_88 ?_
      refine lv_iconst (v := 1) C.1 C.2.1 dX11_readConst_89 (by decide) ?_
      refine lv_iadd C.1 C.2.1 dX11_readConst_90 ?_
      obtain ⟨hi, hM⟩ := ib_some hM
      refine h_iast C h tb_38 hi dX11_readConst_91 (fun H locs h => ?_)
      refine lv_aload_n C.1 C.2.1 dX11_readConst_92 rfl (lv_at hl 1 rfl) ?_
      obtain ⟨r_39, m_40, hc_39, hM⟩ := bd_some hM
      refine h_callVv C h (As := []) (rest := []) m_40 (c_X11_next hc_39 tx0) 11 rfl (by decide) tx0 im_yX11_next se_yX11_next cy_X11_next rfl ml_X11_256 ⟨by decide, by decide⟩ ⟨Nat.zero_le _, Nat.zero_le _⟩ hl.1 rfl (Nat.le_of_ble_eq_true rfl) dX11_readConst_93 (fun H locs h => ?_)
      refine lv_aload_n C.1 C.2.1 dX11_readConst_96 rfl (lv_at hl 1 rfl) ?_
      refine lv_bipush (v := 40) C.1 C.2.1 dX11_readConst_97 (by decide) ?_
      obtain ⟨r_41, m_42, hc_41, hM⟩ := bd_some hM
      refine h_callVi C h (As := [.int 40]) (rest := []) (bz r_41) m_42 (c_X11_isAt hc_41 tx0) 11 rfl (by decide) tx0 im_yX11_isAt se_yX11_isAt cy_X11_isAt rfl ml_X11_253 ⟨by decide, by decide⟩ ⟨Nat.zero_le _, Nat.zero_le _⟩ hl.1 rfl (Nat.le_of_ble_eq_true rfl) dX11_readConst_99 (fun H locs h => ?_)
      refine h_ifz (tgt := 142) C.1 C.2.1 dX11_readConst_102 (by decide) (fun q => ?_) (fun q => ?_)
      · have hM := ite_f q hM
        exact cB_X11_readConst_142 C hM tx0 _ _ h ls (lv_sub hl [1, 0] rfl)
      · have hM := ite_t q hM
        refine lv_aload_n C.1 C.2.1 dX11_readConst_105 rfl (lv_at hl 1 rfl) ?_
        obtain ⟨r_43, m_44, hc_43, hM⟩ := bd_some hM
        refine h_callVv C h (As := []) (rest := []) m_44 (c_X11_next hc_43 tx0) 11 rfl (by decide) tx0 im_yX11_next se_yX11_next cy_X11_next rfl ml_X11_256 ⟨by decide, by decide⟩ ⟨Nat.zero_le _, Nat.zero_le _⟩ hl.1 rfl (Nat.le_of_ble_eq_true rfl) dX11_readConst_106 (fun H locs h => ?_)
        refine lv_aload_n C.1 C.2.1 dX11_readConst_109 rfl (lv_at hl 1 rfl) ?_
        refine gt_11_44 C h tx0 fl_X11_196 dX11_readConst_110 ?_
        refine lv_iconst (v := 2) C.1 C.2.1 dX11_readConst_113 (by decide) ?_
        refine lv_icmp_eq (tgt := 122) C.1 C.2.1 dX11_readConst_114 (by decide) (fun q => ?_) (fun q => ?_)
        · have hM := ite_t q hM
          refine lv_aload_n C.1 C.2.1 dX11_readConst_122 rfl (lv_at hl 1 rfl) ?_
          refine gt_11_16 C h tx0 fl_X11_46 dX11_readConst_123 ?_
          obtain ⟨b_45, hb_45, hM⟩ := nb_some hM
          have tb_45 : Ty E G b_45 12 := (fun b hb => tyf h tx0 hb) _ hb_45
          refine st_ref hb_45 ?_
          refine lv_iload_n C.1 C.2.1 dX11_readConst_126 rfl (lv_at hl 0 rfl) ?_
          refine lv_aload_n C.1 C.2.1 dX11_readConst_127 rfl (lv_at hl 1 rfl) ?_
          refine gt_11_45 C h tx0 fl_X11_213 dX11_readConst_128 ?_
          obtain ⟨hi, hM⟩ := ib_some hM
          refine h_iast C h tb_45 hi dX11_readConst_131 (fun H locs h => ?_)
          refine lv_aload_n C.1 C.2.1 dX11_readConst_132 rfl (lv_at hl 1 rfl) ?_
          obtain ⟨r_46, m_47, hc_46, hM⟩ := bd_some hM
          refine h_callVv C h (As := []) (rest := []) m_47 (c_X11_next hc_46 tx0) 11 rfl (by decide) tx0 im_yX11_next se_yX11_next cy_X11_next rfl ml_X11_256 ⟨by decide, by decide⟩ ⟨Nat.zero_le _, Nat.zero_le _⟩ hl.1 rfl (Nat.le_of_ble_eq_true rfl) dX11_readConst_133 (fun H locs h => ?_)
          refine lv_aload_n C.1 C.2.1 dX11_readConst_136 rfl (lv_at hl 1 rfl) ?_
          refine lv_bipush (v := 41) C.1 C.2.1 dX11_readConst_137 (by decide) ?_
          obtain ⟨r_48, m_49, hc_48, hM⟩ := bd_some hM
          refine h_callVv C h (As := [.int 41]) (rest := []) m_49 (c_X11_need hc_48 tx0) 11 rfl (by decide) tx0 im_yX11_need se_yX11_need cy_X11_need rfl ml_X11_268 ⟨by decide, by decide⟩ ⟨Nat.zero_le _, Nat.zero_le _⟩ hl.1 rfl (Nat.le_of_ble_eq_true rfl) dX11_readConst_139 (fun H locs h => ?_)
          exact cB_X11_readConst_142 C hM tx0 _ _ h ls (lv_sub hl [1, 0] rfl)
        · have hM := ite_f q hM
          refine lv_aload_n C.1 C.2.1 dX11_readConst_117 rfl (lv_at hl 1 rfl) ?_
          obtain ⟨r_50, m_51, hc_50, hM⟩ := bd_some hM
          refine h_callVv C h (As := []) (rest := []) m_51 (c_X11_stop hc_50 tx0) 11 rfl (by decide) tx0 im_yX11_stop se_yX11_stop cy_X11_stop rfl ml_X11_259 ⟨by decide, by decide⟩ ⟨Nat.zero_le _, Nat.zero_le _⟩ hl.1 rfl (Nat.le_of_ble_eq_true rfl) dX11_readConst_118 (fun H locs h => ?_)
          obtain ⟨rfl, rfl⟩ := so_inj hM
          exact h_vret C h dX11_readConst_121
    · have hM := ite_t q hM
      refine lv_aload_n C.1 C.2.1 dX11_readConst_22 rfl (lv_at hl 0 rfl) ?_
      obtain ⟨r_52, m_53, hc_52, hM⟩ := bd_some hM
      refine h_callVv C h (As := []) (rest := []) m_53 (c_X11_stop hc_52 tx0) 11 rfl (by decide) tx0 im_yX11_stop se_yX11_stop cy_X11_stop rfl ml_X11_259 ⟨by decide, by decide⟩ ⟨Nat.zero_le _, Nat.zero_le _⟩ hl.1 rfl (Nat.le_of_ble_eq_true rfl) dX11_readConst_23 (fun H locs h => ?_)
      obtain ⟨rfl, rfl⟩ := so_inj hM
      exact h_vret C h dX11_readConst_26
theorem cy_X11_readConst : Cy yX11_readConst cX11_readConst 3 none 0 := ⟨cd_yX11_readConst, ii_X11, by decide, by decide, by decide +kernel⟩
set_option maxRecDepth 100000 in
theorem c_X11_readConst {l : Launch} {E : EE} {G : GG} {x0 : Nat} {m m9 : MM} {r9 : Unit} (hM : M_X11_readConst G x0 m = some (r9, m9)) (tx0 : Ty E G x0 11) : Mc l E yX11_readConst cX11_readConst 3 none rmX11_readConst [.ref x0] G m (cQv E G m9) := M_of (by decide) (Nat.le_of_ble_eq_true rfl) (fun p e s mth below meth c C h ls hl => cM_X11_readConst C hM tx0 _ _ h ls hl)
abbrev rmX11_readMember : Room := { frames := 6, cells := 0, slots := 0, locals := 134 }
def B_X11_readMember_484 (G : GG) : Nat → Nat → Int32 → MM → Option (Unit × MM)
  | 0, _, _, _ => none
  | fu + 1, x0, x7, m =>
    nb (gR m x0 33) fun b_1 =>
      ib (gI m x0 4) (G.2.2 b_1) <|
        if (gI m b_1 ((gI m x0 4).toNatClampNeg)) ≤ x7 then
          bd (M_X11_need G x0 59 m) fun _ m_3 =>
            some ((), m_3)
        else
          nb (gR m x0 50) fun b_4 =>
            ib ((2100 * (gI m x0 4)) + x7) (G.2.2 b_4) <|
              B_X11_readMember_484 G fu x0 (x7 + 1) (sI m b_4 (((2100 * (gI m x0 4)) + x7).toNatClampNeg) 2)
set_option maxRecDepth 100000 in
set_option maxHeartbeats 4000000 in
theorem cB_X11_readMember_484 {p : Program} {l : Launch} {e : Env} {s : State} {mth : MethodId} {args : Array Value} {below : List Frame} {meth : Method} {c : Code} {E : EE} {G : GG} {r9 : Unit} {m9 : MM} (C : Cx E G p s mth args meth c cX11_readMember RX11 "readMember" 8 none) : ∀ (fu : Nat) (x0 : Nat) (x7 : Int32) (m : MM), B_X11_readMember_484 G fu x0 x7 m = some (r9, m9) → (Ty E G x0 11) → ∀ (H : Heap) (locs : List Loc), Hp E G m s H locs → ∀ ls : Array Slot, lv_has ls 8 [(0, .ref x0), (7, .int x7)] → W p l e rmX11_readMember s mth args below meth c H locs 0 0 (MQ below (cQv E G m9) args s 0 0 (fun q => E.2.2.1 ≤ q)) (F0 mth 484 ls []) := by
  intro fu
  induction fu with
  | zero =>
    intro x0 x7 m hM
    rw [B_X11_readMember_484] at hM
    cases hM
  | succ fu ih =>
    intro x0 x7 m hM tx0 H locs h ls hl
    rw [B_X11_readMember_484] at hM
    refine lv_iload C.1 C.2.1 dX11_readMember_484 (lv_at hl 1 rfl) ?_
    refine lv_aload_n C.1 C.2.1 dX11_readMember_486 rfl (lv_at hl 0 rfl) ?_
    refine gt_11_33 C h tx0 fl_X11_97 dX11_readMember_487 ?_
    obtain ⟨b_1, hb_1, hM⟩ := nb_some hM
    have tb_1 : Ty E G b_1 12 := (fun b hb => tyf h tx0 hb) _ hb_1
    refine st_ref hb_1 ?_
    refine lv_aload_n C.1 C.2.1 dX11_readMember_490 rfl (lv_at hl 0 rfl) ?_
    refine gt_11_4 C h tx0 fl_X11_183 dX11_readMember_491 ?_
    obtain ⟨hi, hM⟩ := ib_some hM
    refine h_iald C h tb_1 hi dX11_readMember_494 ?_
    refine lv_icmp_ge (tgt := 521) C.1 C.2.1 dX11_readMember_495 (by decide) (fun q => ?_) (fun q => ?_)
    · have hM := ite_t q hM
      refine lv_goto (tgt := 549) C.1 C.2.1 dX11_readMember_521 (by decide) ?_
      refine lv_aload_n C.1 C.2.1 dX11_readMember_549 rfl (lv_at hl 0 rfl) ?_
      refine lv_bipush (v := 59) C.1 C.2.1 dX11_readMember_550 (by decide) ?_
      obtain ⟨r_2, m_3, hc_2, hM⟩ := bd_some hM
      refine h_callVv C h (As := [.int 59]) (rest := []) m_3 (c_X11_need hc_2 tx0) 11 rfl (by decide) tx0 im_yX11_need se_yX11_need cy_X11_need rfl ml_X11_268 ⟨by decide, by decide⟩ ⟨Nat.zero_le _, Nat.zero_le _⟩ hl.1 rfl (Nat.le_of_ble_eq_true rfl) dX11_readMember_552 (fun H locs h => ?_)
      obtain ⟨rfl, rfl⟩ := so_inj hM
      exact h_vret C h dX11_readMember_555
    · have hM := ite_f q hM
      refine lv_aload_n C.1 C.2.1 dX11_readMember_498 rfl (lv_at hl 0 rfl) ?_
      refine gt_11_50 C h tx0 fl_X11_124 dX11_readMember_499 ?_
      obtain ⟨b_4, hb_4, hM⟩ := nb_some hM
      have tb_4 : Ty E G b_4 12 := (fun b hb => tyf h tx0 hb) _ hb_4
      refine st_ref hb_4 ?_
      refine lv_sipush (v := 2100) C.1 C.2.1 dX11_readMember_502 (by decide) ?_
      refine lv_aload_n C.1 C.2.1 dX11_readMember_505 rfl (lv_at hl 0 rfl) ?_
      refine gt_11_4 C h tx0 fl_X11_183 dX11_readMember_506 ?_
      refine lv_imul C.1 C.2.1 dX11_readMember_509 ?_
      refine lv_iload C.1 C.2.1 dX11_readMember_510 (lv_at hl 1 rfl) ?_
      refine lv_iadd C.1 C.2.1 dX11_readMember_512 ?_
      refine lv_iconst (v := 2) C.1 C.2.1 dX11_readMember_513 (by decide) ?_
      obtain ⟨hi, hM⟩ := ib_some hM
      refine h_iast C h tb_4 hi dX11_readMember_514 (fun H locs h => ?_)
      refine lv_iinc (v := x7 + 1) (lv' := [(7, .int (x7 + 1)), (0, .ref x0)]) C.1 C.2.1 dX11_readMember_515 hl (k := 1) rfl rfl (by decide) rfl (fun ls hl => ?_)
      refine lv_goto (tgt := 484) C.1 C.2.1 dX11_readMember_518 (by decide) ?_
      exact ih _ _ _ hM tx0 _ _ h ls (lv_sub hl [1, 0] rfl)
def B_X11_readMember_361 (G : GG) (x0 : Nat) (x1 : Int32) (x3 : Int32) (x4 : Int32) (x5 : Int32) (m : MM) : Option (Unit × MM) :=
  bd (M_X11_next G x0 m) fun _ m_6 =>
    if x1 = 21 then
      bd (M_X11_need G x0 59 m_6) fun _ m_33 =>
        some ((), m_33)
    else
      bd (M_X11_need G x0 61 m_6) fun _ m_8 =>
        nb (gR m_8 x0 33) fun b_9 =>
          ib (gI m_8 x0 4) (G.2.2 b_9) <|
            if x1 = 24 then
              bd (M_X11_isGood G x0 m_8) fun r_20 m_21 =>
                if r_20 = true then
                  if (gI m_21 x0 44) = 2 then
                    nb (gR m_21 x0 25) fun b_24 =>
                      ib x5 (G.2.2 b_24) <|
                        nb (gR (sI m_21 b_24 x5.toNatClampNeg (-1)) x0 24) fun b_25 =>
                          ib x5 (G.2.2 b_25) <|
                            bd (M_X11_next G x0 (sI (sI m_21 b_24 x5.toNatClampNeg (-1)) b_25 x5.toNatClampNeg (gI (sI m_21 b_24 x5.toNatClampNeg (-1)) x0 45))) fun _ m_27 =>
                              bd (M_X11_need G x0 59 m_27) fun _ m_29 =>
                                some ((), m_29)
                  else
                    bd (M_X11_stop G x0 m_21) fun _ m_31 =>
                      some ((), m_31)
                else
                  bd (M_X11_stop G x0 m_21) fun _ m_23 =>
                    some ((), m_23)
            else
              bd (M_X11_readExp G x0 m_8) fun _ m_11 =>
                if x3 = 0 then
                  nb (gR m_11 x0 20) fun b_12 =>
                    ib x4 (G.2.2 b_12) <|
                      nb (gR (sI m_11 b_12 x4.toNatClampNeg (gI m_8 b_9 ((gI m_8 x0 4).toNatClampNeg))) x0 21) fun b_13 =>
                        nb (gR (sI m_11 b_12 x4.toNatClampNeg (gI m_8 b_9 ((gI m_8 x0 4).toNatClampNeg))) x0 33) fun b_14 =>
                          ib (gI (sI m_11 b_12 x4.toNatClampNeg (gI m_8 b_9 ((gI m_8 x0 4).toNatClampNeg))) x0 4) (G.2.2 b_14) <|
                            ib x4 (G.2.2 b_13) <|
                              bd (M_X11_need G x0 59 (sI (sI m_11 b_12 x4.toNatClampNeg (gI m_8 b_9 ((gI m_8 x0 4).toNatClampNeg))) b_13 x4.toNatClampNeg (gI (sI m_11 b_12 x4.toNatClampNeg (gI m_8 b_9 ((gI m_8 x0 4).toNatClampNeg))) b_14 ((gI (sI m_11 b_12 x4.toNatClampNeg (gI m_8 b_9 ((gI m_8 x0 4).toNatClampNeg))) x0 4).toNatClampNeg)))) fun _ m_16 =>
                                some ((), m_16)
                else
                  nb (gR m_11 x0 25) fun b_17 =>
                    ib x5 (G.2.2 b_17) <|
                      nb (gR (sI m_11 b_17 x5.toNatClampNeg (gI m_8 b_9 ((gI m_8 x0 4).toNatClampNeg))) x0 26) fun b_18 =>
                        nb (gR (sI m_11 b_17 x5.toNatClampNeg (gI m_8 b_9 ((gI m_8 x0 4).toNatClampNeg))) x0 33) fun b_19 =>
                          ib (gI (sI m_11 b_17 x5.toNatClampNeg (gI m_8 b_9 ((gI m_8 x0 4).toNatClampNeg))) x0 4) (G.2.2 b_19) <|
                            ib x5 (G.2.2 b_18) <|
                              B_X11_readMember_484 G FU x0 (gI m_8 b_9 ((gI m_8 x0 4).toNatClampNeg)) (sI (sI m_11 b_17 x5.toNatClampNeg (gI m_8 b_9 ((gI m_8 x0 4).toNatClampNeg))) b_18 x5.toNatClampNeg (gI (sI m_11 b_17 x5.toNatClampNeg (gI m_8 b_9 ((gI m_8 x0 4).toNatClampNeg))) b_19 ((gI (sI m_11 b_17 x5.toNatClampNeg (gI m_8 b_9 ((gI m_8 x0 4).toNatClampNeg))) x0 4).toNatClampNeg)))
set_option maxRecDepth 100000 in
set_option maxHeartbeats 4000000 in
theorem cB_X11_readMember_361 {p : Program} {l : Launch} {e : Env} {s : State} {mth : MethodId} {args : Array Value} {below : List Frame} {meth : Method} {c : Code} {E : EE} {G : GG} {r9 : Unit} {m9 : MM} (C : Cx E G p s mth args meth c cX11_readMember RX11 "readMember" 8 none) {x0 : Nat} {x1 : Int32} {x3 : Int32} {x4 : Int32} {x5 : Int32} {m : MM} (hM : B_X11_readMember_361 G x0 x1 x3 x4 x5 m = some (r9, m9)) (tx0 : Ty E G x0 11) : ∀ (H : Heap) (locs : List Loc), Hp E G m s H locs → ∀ ls : Array Slot, lv_has ls 8 [(0, .ref x0), (1, .int x1), (3, .int x3), (4, .int x4), (5, .int x5)] → W p l e rmX11_readMember s mth args below meth c H locs 0 0 (MQ below (cQv E G m9) args s 0 0 (fun q => E.2.2.1 ≤ q)) (F0 mth 361 ls []) := by
  intro H locs h ls hl
  unfold B_X11_readMember_361 at hM
  refine lv_aload_n C.1 C.2.1 dX11_readMember_361 rfl (lv_at hl 0 rfl) ?_
  obtain ⟨r_5, m_6, hc_5, hM⟩ := bd_some hM
  refine h_callVv C h (As := []) (rest := []) m_6 (c_X11_next hc_5 tx0) 11 rfl (by decide) tx0 im_yX11_next se_yX11_next cy_X11_next rfl ml_X11_256 ⟨by decide, by decide⟩ ⟨Nat.zero_le _, Nat.zero_le _⟩ hl.1 rfl (Nat.le_of_ble_eq_true rfl) dX11_readMember_362 (fun H locs h => ?_)
  refine lv_iload_n C.1 C.2.1 dX11_readMember_365 rfl (lv_at hl 1 rfl) ?_
  refine lv_bipush (v := 21) C.1 C.2.1 dX11_readMember_366 (by decide) ?_
  refine lv_icmp_ne (tgt := 378) C.1 C.2.1 dX11_readMember_368 (by decide) (fun q => ?_) (fun q => ?_)
  · have hM := ite_f q hM
    refine lv_aload_n C.1 C.2.1 dX11_readMember_378 rfl (lv_at hl 0 rfl) ?_
    refine lv_bipush (v := 61) C.1 C.2.1 dX11_readMember_379 (by decide) ?_
    obtain ⟨r_7, m_8, hc_7, hM⟩ := bd_some hM
    refine h_callVv C h (As := [.int 61]) (rest := []) m_8 (c_X11_need hc_7 tx0) 11 rfl (by decide) tx0 im_yX11_need se_yX11_need cy_X11_need rfl ml_X11_268 ⟨by decide, by decide⟩ ⟨Nat.zero_le _, Nat.zero_le _⟩ hl.1 rfl (Nat.le_of_ble_eq_true rfl) dX11_readMember_381 (fun H locs h => ?_)
    refine lv_aload_n C.1 C.2.1 dX11_readMember_384 rfl (lv_at hl 0 rfl) ?_
    refine gt_11_33 C h tx0 fl_X11_97 dX11_readMember_385 ?_
    obtain ⟨b_9, hb_9, hM⟩ := nb_some hM
    have tb_9 : Ty E G b_9 12 := (fun b hb => tyf h tx0 hb) _ hb_9
    refine st_ref hb_9 ?_
    refine lv_aload_n C.1 C.2.1 dX11_readMember_388 rfl (lv_at hl 0 rfl) ?_
    refine gt_11_4 C h tx0 fl_X11_183 dX11_readMember_389 ?_
    obtain ⟨hi, hM⟩ := ib_some hM
    refine h_iald C h tb_9 hi dX11_readMember_392 ?_
    refine lv_istore (lv' := [(6, .int (gI m_8 b_9 ((gI m_8 x0 4).toNatClampNeg))), (0, .ref x0), (1, .int x1), (3, .int x3), (4, .int x4), (5, .int x5)]) C.1 C.2.1 dX11_readMember_393 hl (by decide) rfl (fun ls hl => ?_)
    refine lv_iload_n C.1 C.2.1 dX11_readMember_395 rfl (lv_at hl 2 rfl) ?_
    refine lv_bipush (v := 24) C.1 C.2.1 dX11_readMember_396 (by decide) ?_
    refine lv_icmp_ne (tgt := 447) C.1 C.2.1 dX11_readMember_398 (by decide) (fun q => ?_) (fun q => ?_)
    · have hM := ite_f q hM
      refine lv_aload_n C.1 C.2.1 dX11_readMember_447 rfl (lv_at hl 1 rfl) ?_
      obtain ⟨r_10, m_11, hc_10, hM⟩ := bd_some hM
      refine h_callVv C h (As := []) (rest := []) m_11 (c_X11_readExp hc_10 tx0) 11 rfl (by decide) tx0 im_yX11_readExp se_yX11_readExp cy_X11_readExp rfl ml_X11_278 ⟨by decide, by decide⟩ ⟨Nat.zero_le _, Nat.zero_le _⟩ hl.1 rfl (Nat.le_of_ble_eq_true rfl) dX11_readMember_448 (fun H locs h => ?_)
      refine lv_iload_n C.1 C.2.1 dX11_readMember_451 rfl (lv_at hl 3 rfl) ?_
      refine lv_if_eq (tgt := 524) C.1 C.2.1 dX11_readMember_452 (by decide) (fun q => ?_) (fun q => ?_)
      · have hM := ite_t q hM
        refine lv_aload_n C.1 C.2.1 dX11_readMember_524 rfl (lv_at hl 1 rfl) ?_
        refine gt_11_20 C h tx0 fl_X11_58 dX11_readMember_525 ?_
        obtain ⟨b_12, hb_12, hM⟩ := nb_some hM
        have tb_12 : Ty E G b_12 12 := (fun b hb => tyf h tx0 hb) _ hb_12
        refine st_ref hb_12 ?_
        refine lv_iload C.1 C.2.1 dX11_readMember_528 (lv_at hl 4 rfl) ?_
        refine lv_iload C.1 C.2.1 dX11_readMember_530 (lv_at hl 0 rfl) ?_
        obtain ⟨hi, hM⟩ := ib_some hM
        refine h_iast C h tb_12 hi dX11_readMember_532 (fun H locs h => ?_)
        refine lv_aload_n C.1 C.2.1 dX11_readMember_533 rfl (lv_at hl 1 rfl) ?_
        refine gt_11_21 C h tx0 fl_X11_61 dX11_readMember_534 ?_
        obtain ⟨b_13, hb_13, hM⟩ := nb_some hM
        have tb_13 : Ty E G b_13 12 := (fun b hb => tyf h tx0 hb) _ hb_13
        refine st_ref hb_13 ?_
        refine lv_iload C.1 C.2.1 dX11_readMember_537 (lv_at hl 4 rfl) ?_
        refine lv_aload_n C.1 C.2.1 dX11_readMember_539 rfl (lv_at hl 1 rfl) ?_
        refine gt_11_33 C h tx0 fl_X11_97 dX11_readMember_540 ?_
        obtain ⟨b_14, hb_14, hM⟩ := nb_some hM
        have tb_14 : Ty E G b_14 12 := (fun b hb => tyf h tx0 hb) _ hb_14
        refine st_ref hb_14 ?_
        refine lv_aload_n C.1 C.2.1 dX11_readMember_543 rfl (lv_at hl 1 rfl) ?_
        refine gt_11_4 C h tx0 fl_X11_183 dX11_readMember_544 ?_
        obtain ⟨hi, hM⟩ := ib_some hM
        refine h_iald C h tb_14 hi dX11_readMember_547 ?_
        obtain ⟨hi, hM⟩ := ib_some hM
        refine h_iast C h tb_13 hi dX11_readMember_548 (fun H locs h => ?_)
        refine lv_aload_n C.1 C.2.1 dX11_readMember_549 rfl (lv_at hl 1 rfl) ?_
        refine lv_bipush (v := 59) C.1 C.2.1 dX11_readMember_550 (by decide) ?_
        obtain ⟨r_15, m_16, hc_15, hM⟩ := bd_some hM
        refine h_callVv C h (As := [.int 59]) (rest := []) m_16 (c_X11_need hc_15 tx0) 11 rfl (by decide) tx0 im_yX11_need se_yX11_need cy_X11_need rfl ml_X11_268 ⟨by decide, by decide⟩ ⟨Nat.zero_le _, Nat.zero_le _⟩ hl.1 rfl (Nat.le_of_ble_eq_true rfl) dX11_readMember_552 (fun H locs h => ?_)
        obtain ⟨rfl, rfl⟩ := so_inj hM
        exact h_vret C h dX11_readMember_555
      · have hM := ite_f q hM
        refine lv_aload_n C.1 C.2.1 dX11_readMember_455 rfl (lv_at hl 1 rfl) ?_
        refine gt_11_25 C h tx0 fl_X11_73 dX11_readMember_456 ?_
        obtain ⟨b_17, hb_17, hM⟩ := nb_some hM
        have tb_17 : Ty E G b_17 12 := (fun b hb => tyf h tx0 hb) _ hb_17
        refine st_ref hb_17 ?_
        refine lv_iload C.1 C.2.1 dX11_readMember_459 (lv_at hl 5 rfl) ?_
        refine lv_iload C.1 C.2.1 dX11_readMember_461 (lv_at hl 0 rfl) ?_
        obtain ⟨hi, hM⟩ := ib_some hM
        refine h_iast C h tb_17 hi dX11_readMember_463 (fun H locs h => ?_)
        refine lv_aload_n C.1 C.2.1 dX11_readMember_464 rfl (lv_at hl 1 rfl) ?_
        refine gt_11_26 C h tx0 fl_X11_76 dX11_readMember_465 ?_
        obtain ⟨b_18, hb_18, hM⟩ := nb_some hM
        have tb_18 : Ty E G b_18 12 := (fun b hb => tyf h tx0 hb) _ hb_18
        refine st_ref hb_18 ?_
        refine lv_iload C.1 C.2.1 dX11_readMember_468 (lv_at hl 5 rfl) ?_
        refine lv_aload_n C.1 C.2.1 dX11_readMember_470 rfl (lv_at hl 1 rfl) ?_
        refine gt_11_33 C h tx0 fl_X11_97 dX11_readMember_471 ?_
        obtain ⟨b_19, hb_19, hM⟩ := nb_some hM
        have tb_19 : Ty E G b_19 12 := (fun b hb => tyf h tx0 hb) _ hb_19
        refine st_ref hb_19 ?_
        refine lv_aload_n C.1 C.2.1 dX11_readMember_474 rfl (lv_at hl 1 rfl) ?_
        refine gt_11_4 C h tx0 fl_X11_183 dX11_readMember_475 ?_
        obtain ⟨hi, hM⟩ := ib_some hM
        refine h_iald C h tb_19 hi dX11_readMember_478 ?_
        obtain ⟨hi, hM⟩ := ib_some hM
        refine h_iast C h tb_18 hi dX11_readMember_479 (fun H locs h => ?_)
        refine lv_iload C.1 C.2.1 dX11_readMember_480 (lv_at hl 0 rfl) ?_
        refine lv_istore (lv' := [(7, .int (gI m_8 b_9 ((gI m_8 x0 4).toNatClampNeg))), (6, .int (gI m_8 b_9 ((gI m_8 x0 4).toNatClampNeg))), (0, .ref x0), (1, .int x1), (3, .int x3), (4, .int x4), (5, .int x5)]) C.1 C.2.1 dX11_readMember_482 hl (by decide) rfl (fun ls hl => ?_)
        exact cB_X11_readMember_484 C _ _ _ _ hM tx0 _ _ h ls (lv_sub hl [2, 0] rfl)
    · have hM := ite_t q hM
      refine lv_aload_n C.1 C.2.1 dX11_readMember_401 rfl (lv_at hl 1 rfl) ?_
      obtain ⟨r_20, m_21, hc_20, hM⟩ := bd_some hM
      refine h_callVi C h (As := []) (rest := []) (bz r_20) m_21 (c_X11_isGood hc_20 tx0) 11 rfl (by decide) tx0 im_yX11_isGood se_yX11_isGood cy_X11_isGood rfl ml_X11_249 ⟨by decide, by decide⟩ ⟨Nat.zero_le _, Nat.zero_le _⟩ hl.1 rfl (Nat.le_of_ble_eq_true rfl) dX11_readMember_402 (fun H locs h => ?_)
      refine h_ifz (tgt := 416) C.1 C.2.1 dX11_readMember_405 (by decide) (fun q => ?_) (fun q => ?_)
      · have hM := ite_f q hM
        refine lv_aload_n C.1 C.2.1 dX11_readMember_416 rfl (lv_at hl 1 rfl) ?_
        obtain ⟨r_22, m_23, hc_22, hM⟩ := bd_some hM
        refine h_callVv C h (As := []) (rest := []) m_23 (c_X11_stop hc_22 tx0) 11 rfl (by decide) tx0 im_yX11_stop se_yX11_stop cy_X11_stop rfl ml_X11_259 ⟨by decide, by decide⟩ ⟨Nat.zero_le _, Nat.zero_le _⟩ hl.1 rfl (Nat.le_of_ble_eq_true rfl) dX11_readMember_417 (fun H locs h => ?_)
        obtain ⟨rfl, rfl⟩ := so_inj hM
        exact h_vret C h dX11_readMember_420
      · have hM := ite_t q hM
        refine lv_aload_n C.1 C.2.1 dX11_readMember_408 rfl (lv_at hl 1 rfl) ?_
        refine gt_11_44 C h tx0 fl_X11_196 dX11_readMember_409 ?_
        refine lv_iconst (v := 2) C.1 C.2.1 dX11_readMember_412 (by decide) ?_
        refine lv_icmp_eq (tgt := 421) C.1 C.2.1 dX11_readMember_413 (by decide) (fun q => ?_) (fun q => ?_)
        · have hM := ite_t q hM
          refine lv_aload_n C.1 C.2.1 dX11_readMember_421 rfl (lv_at hl 1 rfl) ?_
          refine gt_11_25 C h tx0 fl_X11_73 dX11_readMember_422 ?_
          obtain ⟨b_24, hb_24, hM⟩ := nb_some hM
          have tb_24 : Ty E G b_24 12 := (fun b hb => tyf h tx0 hb) _ hb_24
          refine st_ref hb_24 ?_
          refine lv_iload C.1 C.2.1 dX11_readMember_425 (lv_at hl 5 rfl) ?_
          refine lv_iconst (v := (-1)) C.1 C.2.1 dX11_readMember_427 (by decide) ?_
          obtain ⟨hi, hM⟩ := ib_some hM
          refine h_iast C h tb_24 hi dX11_readMember_428 (fun H locs h => ?_)
          refine lv_aload_n C.1 C.2.1 dX11_readMember_429 rfl (lv_at hl 1 rfl) ?_
          refine gt_11_24 C h tx0 fl_X11_70 dX11_readMember_430 ?_
          obtain ⟨b_25, hb_25, hM⟩ := nb_some hM
          have tb_25 : Ty E G b_25 12 := (fun b hb => tyf h tx0 hb) _ hb_25
          refine st_ref hb_25 ?_
          refine lv_iload C.1 C.2.1 dX11_readMember_433 (lv_at hl 5 rfl) ?_
          refine lv_aload_n C.1 C.2.1 dX11_readMember_435 rfl (lv_at hl 1 rfl) ?_
          refine gt_11_45 C h tx0 fl_X11_213 dX11_readMember_436 ?_
          obtain ⟨hi, hM⟩ := ib_some hM
          refine h_iast C h tb_25 hi dX11_readMember_439 (fun H locs h => ?_)
          refine lv_aload_n C.1 C.2.1 dX11_readMember_440 rfl (lv_at hl 1 rfl) ?_
          obtain ⟨r_26, m_27, hc_26, hM⟩ := bd_some hM
          refine h_callVv C h (As := []) (rest := []) m_27 (c_X11_next hc_26 tx0) 11 rfl (by decide) tx0 im_yX11_next se_yX11_next cy_X11_next rfl ml_X11_256 ⟨by decide, by decide⟩ ⟨Nat.zero_le _, Nat.zero_le _⟩ hl.1 rfl (Nat.le_of_ble_eq_true rfl) dX11_readMember_441 (fun H locs h => ?_)
          refine lv_goto (tgt := 549) C.1 C.2.1 dX11_readMember_444 (by decide) ?_
          refine lv_aload_n C.1 C.2.1 dX11_readMember_549 rfl (lv_at hl 1 rfl) ?_
          refine lv_bipush (v := 59) C.1 C.2.1 dX11_readMember_550 (by decide) ?_
          obtain ⟨r_28, m_29, hc_28, hM⟩ := bd_some hM
          refine h_callVv C h (As := [.int 59]) (rest := []) m_29 (c_X11_need hc_28 tx0) 11 rfl (by decide) tx0 im_yX11_need se_yX11_need cy_X11_need rfl ml_X11_268 ⟨by decide, by decide⟩ ⟨Nat.zero_le _, Nat.zero_le _⟩ hl.1 rfl (Nat.le_of_ble_eq_true rfl) dX11_readMember_552 (fun H locs h => ?_)
          obtain ⟨rfl, rfl⟩ := so_inj hM
          exact h_vret C h dX11_readMember_555
        · have hM := ite_f q hM
          refine lv_aload_n C.1 C.2.1 dX11_readMember_416 rfl (lv_at hl 1 rfl) ?_
          obtain ⟨r_30, m_31, hc_30, hM⟩ := bd_some hM
          refine h_callVv C h (As := []) (rest := []) m_31 (c_X11_stop hc_30 tx0) 11 rfl (by decide) tx0 im_yX11_stop se_yX11_stop cy_X11_stop rfl ml_X11_259 ⟨by decide, by decide⟩ ⟨Nat.zero_le _, Nat.zero_le _⟩ hl.1 rfl (Nat.le_of_ble_eq_true rfl) dX11_readMember_417 (fun H locs h => ?_)
          obtain ⟨rfl, rfl⟩ := so_inj hM
          exact h_vret C h dX11_readMember_420
  · have hM := ite_t q hM
    refine lv_aload_n C.1 C.2.1 dX11_readMember_371 rfl (lv_at hl 0 rfl) ?_
    refine lv_bipush (v := 59) C.1 C.2.1 dX11_readMember_372 (by decide) ?_
    obtain ⟨r_32, m_33, hc_32, hM⟩ := bd_some hM
    refine h_callVv C h (As := [.int 59]) (rest := []) m_33 (c_X11_need hc_32 tx0) 11 rfl (by decide) tx0 im_yX11_need se_yX11_need cy_X11_need rfl ml_X11_268 ⟨by decide, by decide⟩ ⟨Nat.zero_le _, Nat.zero_le _⟩ hl.1 rfl (Nat.le_of_ble_eq_true rfl) dX11_readMember_374 (fun H locs h => ?_)
    obtain ⟨rfl, rfl⟩ := so_inj hM
    exact h_vret C h dX11_readMember_377
def B_X11_readMember_238 (G : GG) (x0 : Nat) (x1 : Int32) (x3 : Int32) (m : MM) : Option (Unit × MM) :=
  nb (gR m x0 10) fun b_34 =>
    ib (gI m x0 48) (G.2.2 b_34) <|
      nb (gR m x0 11) fun b_35 =>
        ib (gI m x0 48) (G.2.2 b_35) <|
          if x3 = 0 then
            nb (gR m x0 18) fun b_36 =>
              ib ((8 * (gI m x0 48)) + (gI m b_34 ((gI m x0 48).toNatClampNeg))) (G.2.2 b_36) <|
                nb (gR (sI m b_36 (((8 * (gI m x0 48)) + (gI m b_34 ((gI m x0 48).toNatClampNeg))).toNatClampNeg) (gI m x0 42)) x0 19) fun b_37 =>
                  ib ((8 * (gI m x0 48)) + (gI m b_34 ((gI m x0 48).toNatClampNeg))) (G.2.2 b_37) <|
                    nb (gR (sI (sI m b_36 (((8 * (gI m x0 48)) + (gI m b_34 ((gI m x0 48).toNatClampNeg))).toNatClampNeg) (gI m x0 42)) b_37 (((8 * (gI m x0 48)) + (gI m b_34 ((gI m x0 48).toNatClampNeg))).toNatClampNeg) (gI (sI m b_36 (((8 * (gI m x0 48)) + (gI m b_34 ((gI m x0 48).toNatClampNeg))).toNatClampNeg) (gI m x0 42)) x0 43)) x0 20) fun b_38 =>
                      ib ((8 * (gI m x0 48)) + (gI m b_34 ((gI m x0 48).toNatClampNeg))) (G.2.2 b_38) <|
                        nb (gR (sI (sI (sI m b_36 (((8 * (gI m x0 48)) + (gI m b_34 ((gI m x0 48).toNatClampNeg))).toNatClampNeg) (gI m x0 42)) b_37 (((8 * (gI m x0 48)) + (gI m b_34 ((gI m x0 48).toNatClampNeg))).toNatClampNeg) (gI (sI m b_36 (((8 * (gI m x0 48)) + (gI m b_34 ((gI m x0 48).toNatClampNeg))).toNatClampNeg) (gI m x0 42)) x0 43)) b_38 (((8 * (gI m x0 48)) + (gI m b_34 ((gI m x0 48).toNatClampNeg))).toNatClampNeg) (-1)) x0 10) fun b_39 =>
                          ib (gI (sI (sI (sI m b_36 (((8 * (gI m x0 48)) + (gI m b_34 ((gI m x0 48).toNatClampNeg))).toNatClampNeg) (gI m x0 42)) b_37 (((8 * (gI m x0 48)) + (gI m b_34 ((gI m x0 48).toNatClampNeg))).toNatClampNeg) (gI (sI m b_36 (((8 * (gI m x0 48)) + (gI m b_34 ((gI m x0 48).toNatClampNeg))).toNatClampNeg) (gI m x0 42)) x0 43)) b_38 (((8 * (gI m x0 48)) + (gI m b_34 ((gI m x0 48).toNatClampNeg))).toNatClampNeg) (-1)) x0 48) (G.2.2 b_39) <|
                            ib (gI (sI (sI (sI m b_36 (((8 * (gI m x0 48)) + (gI m b_34 ((gI m x0 48).toNatClampNeg))).toNatClampNeg) (gI m x0 42)) b_37 (((8 * (gI m x0 48)) + (gI m b_34 ((gI m x0 48).toNatClampNeg))).toNatClampNeg) (gI (sI m b_36 (((8 * (gI m x0 48)) + (gI m b_34 ((gI m x0 48).toNatClampNeg))).toNatClampNeg) (gI m x0 42)) x0 43)) b_38 (((8 * (gI m x0 48)) + (gI m b_34 ((gI m x0 48).toNatClampNeg))).toNatClampNeg) (-1)) x0 48) (G.2.2 b_39) <|
                              B_X11_readMember_361 G x0 x1 x3 ((8 * (gI m x0 48)) + (gI m b_34 ((gI m x0 48).toNatClampNeg))) ((6 * (gI m x0 48)) + (gI m b_35 ((gI m x0 48).toNatClampNeg))) (sI (sI (sI (sI m b_36 (((8 * (gI m x0 48)) + (gI m b_34 ((gI m x0 48).toNatClampNeg))).toNatClampNeg) (gI m x0 42)) b_37 (((8 * (gI m x0 48)) + (gI m b_34 ((gI m x0 48).toNatClampNeg))).toNatClampNeg) (gI (sI m b_36 (((8 * (gI m x0 48)) + (gI m b_34 ((gI m x0 48).toNatClampNeg))).toNatClampNeg) (gI m x0 42)) x0 43)) b_38 (((8 * (gI m x0 48)) + (gI m b_34 ((gI m x0 48).toNatClampNeg))).toNatClampNeg) (-1)) b_39 ((gI (sI (sI (sI m b_36 (((8 * (gI m x0 48)) + (gI m b_34 ((gI m x0 48).toNatClampNeg))).toNatClampNeg) (gI m x0 42)) b_37 (((8 * (gI m x0 48)) + (gI m b_34 ((gI m x0 48).toNatClampNeg))).toNatClampNeg) (gI (sI m b_36 (((8 * (gI m x0 48)) + (gI m b_34 ((gI m x0 48).toNatClampNeg))).toNatClampNeg) (gI m x0 42)) x0 43)) b_38 (((8 * (gI m x0 48)) + (gI m b_34 ((gI m x0 48).toNatClampNeg))).toNatClampNeg) (-1)) x0 48).toNatClampNeg) ((gI (sI (sI (sI m b_36 (((8 * (gI m x0 48)) + (gI m b_34 ((gI m x0 48).toNatClampNeg))).toNatClampNeg) (gI m x0 42)) b_37 (((8 * (gI m x0 48)) + (gI m b_34 ((gI m x0 48).toNatClampNeg))).toNatClampNeg) (gI (sI m b_36 (((8 * (gI m x0 48)) + (gI m b_34 ((gI m x0 48).toNatClampNeg))).toNatClampNeg) (gI m x0 42)) x0 43)) b_38 (((8 * (gI m x0 48)) + (gI m b_34 ((gI m x0 48).toNatClampNeg))).toNatClampNeg) (-1)) b_39 ((gI (sI (sI (sI m b_36 (((8 * (gI m x0 48)) + (gI m b_34 ((gI m x0 48).toNatClampNeg))).toNatClampNeg) (gI m x0 42)) b_37 (((8 * (gI m x0 48)) + (gI m b_34 ((gI m x0 48).toNatClampNeg))).toNatClampNeg) (gI (sI m b_36 (((8 * (gI m x0 48)) + (gI m b_34 ((gI m x0 48).toNatClampNeg))).toNatClampNeg) (gI m x0 42)) x0 43)) b_38 (((8 * (gI m x0 48)) + (gI m b_34 ((gI m x0 48).toNatClampNeg))).toNatClampNeg) (-1)) x0 48).toNatClampNeg)) + 1))
          else
            nb (gR m x0 22) fun b_40 =>
              ib ((6 * (gI m x0 48)) + (gI m b_35 ((gI m x0 48).toNatClampNeg))) (G.2.2 b_40) <|
                nb (gR (sI m b_40 (((6 * (gI m x0 48)) + (gI m b_35 ((gI m x0 48).toNatClampNeg))).toNatClampNeg) (gI m x0 42)) x0 23) fun b_41 =>
                  ib ((6 * (gI m x0 48)) + (gI m b_35 ((gI m x0 48).toNatClampNeg))) (G.2.2 b_41) <|
                    nb (gR (sI (sI m b_40 (((6 * (gI m x0 48)) + (gI m b_35 ((gI m x0 48).toNatClampNeg))).toNatClampNeg) (gI m x0 42)) b_41 (((6 * (gI m x0 48)) + (gI m b_35 ((gI m x0 48).toNatClampNeg))).toNatClampNeg) (gI (sI m b_40 (((6 * (gI m x0 48)) + (gI m b_35 ((gI m x0 48).toNatClampNeg))).toNatClampNeg) (gI m x0 42)) x0 43)) x0 11) fun b_42 =>
                      ib (gI (sI (sI m b_40 (((6 * (gI m x0 48)) + (gI m b_35 ((gI m x0 48).toNatClampNeg))).toNatClampNeg) (gI m x0 42)) b_41 (((6 * (gI m x0 48)) + (gI m b_35 ((gI m x0 48).toNatClampNeg))).toNatClampNeg) (gI (sI m b_40 (((6 * (gI m x0 48)) + (gI m b_35 ((gI m x0 48).toNatClampNeg))).toNatClampNeg) (gI m x0 42)) x0 43)) x0 48) (G.2.2 b_42) <|
                        ib (gI (sI (sI m b_40 (((6 * (gI m x0 48)) + (gI m b_35 ((gI m x0 48).toNatClampNeg))).toNatClampNeg) (gI m x0 42)) b_41 (((6 * (gI m x0 48)) + (gI m b_35 ((gI m x0 48).toNatClampNeg))).toNatClampNeg) (gI (sI m b_40 (((6 * (gI m x0 48)) + (gI m b_35 ((gI m x0 48).toNatClampNeg))).toNatClampNeg) (gI m x0 42)) x0 43)) x0 48) (G.2.2 b_42) <|
                          B_X11_readMember_361 G x0 x1 x3 ((8 * (gI m x0 48)) + (gI m b_34 ((gI m x0 48).toNatClampNeg))) ((6 * (gI m x0 48)) + (gI m b_35 ((gI m x0 48).toNatClampNeg))) (sI (sI (sI m b_40 (((6 * (gI m x0 48)) + (gI m b_35 ((gI m x0 48).toNatClampNeg))).toNatClampNeg) (gI m x0 42)) b_41 (((6 * (gI m x0 48)) + (gI m b_35 ((gI m x0 48).toNatClampNeg))).toNatClampNeg) (gI (sI m b_40 (((6 * (gI m x0 48)) + (gI m b_35 ((gI m x0 48).toNatClampNeg))).toNatClampNeg) (gI m x0 42)) x0 43)) b_42 ((gI (sI (sI m b_40 (((6 * (gI m x0 48)) + (gI m b_35 ((gI m x0 48).toNatClampNeg))).toNatClampNeg) (gI m x0 42)) b_41 (((6 * (gI m x0 48)) + (gI m b_35 ((gI m x0 48).toNatClampNeg))).toNatClampNeg) (gI (sI m b_40 (((6 * (gI m x0 48)) + (gI m b_35 ((gI m x0 48).toNatClampNeg))).toNatClampNeg) (gI m x0 42)) x0 43)) x0 48).toNatClampNeg) ((gI (sI (sI m b_40 (((6 * (gI m x0 48)) + (gI m b_35 ((gI m x0 48).toNatClampNeg))).toNatClampNeg) (gI m x0 42)) b_41 (((6 * (gI m x0 48)) + (gI m b_35 ((gI m x0 48).toNatClampNeg))).toNatClampNeg) (gI (sI m b_40 (((6 * (gI m x0 48)) + (gI m b_35 ((gI m x0 48).toNatClampNeg))).toNatClampNeg) (gI m x0 42)) x0 43)) b_42 ((gI (sI (sI m b_40 (((6 * (gI m x0 48)) + (gI m b_35 ((gI m x0 48).toNatClampNeg))).toNatClampNeg) (gI m x0 42)) b_41 (((6 * (gI m x0 48)) + (gI m b_35 ((gI m x0 48).toNatClampNeg))).toNatClampNeg) (gI (sI m b_40 (((6 * (gI m x0 48)) + (gI m b_35 ((gI m x0 48).toNatClampNeg))).toNatClampNeg) (gI m x0 42)) x0 43)) x0 48).toNatClampNeg)) + 1))
set_option maxRecDepth 100000 in
set_option maxHeartbeats 4000000 in
theorem cB_X11_readMember_238 {p : Program} {l : Launch} {e : Env} {s : State} {mth : MethodId} {args : Array Value} {below : List Frame} {meth : Method} {c : Code} {E : EE} {G : GG} {r9 : Unit} {m9 : MM} (C : Cx E G p s mth args meth c cX11_readMember RX11 "readMember" 8 none) {x0 : Nat} {x1 : Int32} {x3 : Int32} {m : MM} (hM : B_X11_readMember_238 G x0 x1 x3 m = some (r9, m9)) (tx0 : Ty E G x0 11) : ∀ (H : Heap) (locs : List Loc), Hp E G m s H locs → ∀ ls : Array Slot, lv_has ls 8 [(0, .ref x0), (1, .int x1), (3, .int x3)] → W p l e rmX11_readMember s mth args below meth c H locs 0 0 (MQ below (cQv E G m9) args s 0 0 (fun q => E.2.2.1 ≤ q)) (F0 mth 238 ls []) := by
  intro H locs h ls hl
  unfold B_X11_readMember_238 at hM
  refine lv_bipush (v := 8) C.1 C.2.1 dX11_readMember_238 (by decide) ?_
  refine lv_aload_n C.1 C.2.1 dX11_readMember_240 rfl (lv_at hl 0 rfl) ?_
  refine gt_11_48 C h tx0 fl_X11_265 dX11_readMember_241 ?_
  refine lv_imul C.1 C.2.1 dX11_readMember_244 ?_
  refine lv_aload_n C.1 C.2.1 dX11_readMember_245 rfl (lv_at hl 0 rfl) ?_
  refine gt_11_10 C h tx0 fl_X11_28 dX11_readMember_246 ?_
  obtain ⟨b_34, hb_34, hM⟩ := nb_some hM
  have tb_34 : Ty E G b_34 12 := (fun b hb => tyf h tx0 hb) _ hb_34
  refine st_ref hb_34 ?_
  refine lv_aload_n C.1 C.2.1 dX11_readMember_249 rfl (lv_at hl 0 rfl) ?_
  refine gt_11_48 C h tx0 fl_X11_265 dX11_readMember_250 ?_
  obtain ⟨hi, hM⟩ := ib_some hM
  refine h_iald C h tb_34 hi dX11_readMember_253 ?_
  refine lv_iadd C.1 C.2.1 dX11_readMember_254 ?_
  refine lv_istore (lv' := [(4, .int ((8 * (gI m x0 48)) + (gI m b_34 ((gI m x0 48).toNatClampNeg)))), (0, .ref x0), (1, .int x1), (3, .int x3)]) C.1 C.2.1 dX11_readMember_255 hl (by decide) rfl (fun ls hl => ?_)
  refine lv_bipush (v := 6) C.1 C.2.1 dX11_readMember_257 (by decide) ?_
  refine lv_aload_n C.1 C.2.1 dX11_readMember_259 rfl (lv_at hl 1 rfl) ?_
  refine gt_11_48 C h tx0 fl_X11_265 dX11_readMember_260 ?_
  refine lv_imul C.1 C.2.1 dX11_readMember_263 ?_
  refine lv_aload_n C.1 C.2.1 dX11_readMember_264 rfl (lv_at hl 1 rfl) ?_
  refine gt_11_11 C h tx0 fl_X11_31 dX11_readMember_265 ?_
  obtain ⟨b_35, hb_35, hM⟩ := nb_some hM
  have tb_35 : Ty E G b_35 12 := (fun b hb => tyf h tx0 hb) _ hb_35
  refine st_ref hb_35 ?_
  refine lv_aload_n C.1 C.2.1 dX11_readMember_268 rfl (lv_at hl 1 rfl) ?_
  refine gt_11_48 C h tx0 fl_X11_265 dX11_readMember_269 ?_
  obtain ⟨hi, hM⟩ := ib_some hM
  refine h_iald C h tb_35 hi dX11_readMember_272 ?_
  refine lv_iadd C.1 C.2.1 dX11_readMember_273 ?_
  refine lv_istore (lv' := [(5, .int ((6 * (gI m x0 48)) + (gI m b_35 ((gI m x0 48).toNatClampNeg)))), (4, .int ((8 * (gI m x0 48)) + (gI m b_34 ((gI m x0 48).toNatClampNeg)))), (0, .ref x0), (1, .int x1), (3, .int x3)]) C.1 C.2.1 dX11_readMember_274 hl (by decide) rfl (fun ls hl => ?_)
  refine lv_iload_n C.1 C.2.1 dX11_readMember_276 rfl (lv_at hl 4 rfl) ?_
  refine lv_if_eq (tgt := 318) C.1 C.2.1 dX11_readMember_277 (by decide) (fun q => ?_) (fun q => ?_)
  · have hM := ite_t q hM
    refine lv_aload_n C.1 C.2.1 dX11_readMember_318 rfl (lv_at hl 2 rfl) ?_
    refine gt_11_18 C h tx0 fl_X11_52 dX11_readMember_319 ?_
    obtain ⟨b_36, hb_36, hM⟩ := nb_some hM
    have tb_36 : Ty E G b_36 12 := (fun b hb => tyf h tx0 hb) _ hb_36
    refine st_ref hb_36 ?_
    refine lv_iload C.1 C.2.1 dX11_readMember_322 (lv_at hl 1 rfl) ?_
    refine lv_aload_n C.1 C.2.1 dX11_readMember_324 rfl (lv_at hl 2 rfl) ?_
    refine gt_11_42 C h tx0 fl_X11_193 dX11_readMember_325 ?_
    obtain ⟨hi, hM⟩ := ib_some hM
    refine h_iast C h tb_36 hi dX11_readMember_328 (fun H locs h => ?_)
    refine lv_aload_n C.1 C.2.1 dX11_readMember_329 rfl (lv_at hl 2 rfl) ?_
    refine gt_11_19 C h tx0 fl_X11_55 dX11_readMember_330 ?_
    obtain ⟨b_37, hb_37, hM⟩ := nb_some hM
    have tb_37 : Ty E G b_37 12 := (fun b hb => tyf h tx0 hb) _ hb_37
    refine st_ref hb_37 ?_
    refine lv_iload C.1 C.2.1 dX11_readMember_333 (lv_at hl 1 rfl) ?_
    refine lv_aload_n C.1 C.2.1 dX11_readMember_335 rfl (lv_at hl 2 rfl) ?_
    refine gt_11_43 C h tx0 fl_X11_206 dX11_readMember_336 ?_
    obtain ⟨hi, hM⟩ := ib_some hM
    refine h_iast C h tb_37 hi dX11_readMember_339 (fun H locs h => ?_)
    refine lv_aload_n C.1 C.2.1 dX11_readMember_340 rfl (lv_at hl 2 rfl) ?_
    refine gt_11_20 C h tx0 fl_X11_58 dX11_readMember_341 ?_
    obtain ⟨b_38, hb_38, hM⟩ := nb_some hM
    have tb_38 : Ty E G b_38 12 := (fun b hb => tyf h tx0 hb) _ hb_38
    refine st_ref hb_38 ?_
    refine lv_iload C.1 C.2.1 dX11_readMember_344 (lv_at hl 1 rfl) ?_
    refine lv_iconst (v := (-1)) C.1 C.2.1 dX11_readMember_346 (by decide) ?_
    obtain ⟨hi, hM⟩ := ib_some hM
    refine h_iast C h tb_38 hi dX11_readMember_347 (fun H locs h => ?_)
    refine lv_aload_n C.1 C.2.1 dX11_readMember_348 rfl (lv_at hl 2 rfl) ?_
    refine gt_11_10 C h tx0 fl_X11_28 dX11_readMember_349 ?_
    obtain ⟨b_39, hb_39, hM⟩ := nb_some hM
    have tb_39 : Ty E G b_39 12 := (fun b hb => tyf h tx0 hb) _ hb_39
    refine st_ref hb_39 ?_
    refine lv_aload_n C.1 C.2.1 dX11_readMember_352 rfl (lv_at hl 2 rfl) ?_
    refine gt_11_48 C h tx0 fl_X11_265 dX11_readMember_353 ?_
    refine lv_dup2_11 C.1 C.2.1 dX11_readMember_356 rfl rfl ?_
    obtain ⟨hi, hM⟩ := ib_some hM
    refine h_iald C h tb_39 hi dX11_readMember_357 ?_
    refine lv_iconst (v := 1) C.1 C.2.1 dX11_readMember_358 (by decide) ?_
    refine lv_iadd C.1 C.2.1 dX11_readMember_359 ?_
    obtain ⟨hi, hM⟩ := ib_some hM
    refine h_iast C h tb_39 hi dX11_readMember_360 (fun H locs h => ?_)
    exact cB_X11_readMember_361 C hM tx0 _ _ h ls (lv_sub hl [2, 3, 4, 1, 0] rfl)
  · have hM := ite_f q hM
    refine lv_aload_n C.1 C.2.1 dX11_readMember_280 rfl (lv_at hl 2 rfl) ?_
    refine gt_11_22 C h tx0 fl_X11_64 dX11_readMember_281 ?_
    obtain ⟨b_40, hb_40, hM⟩ := nb_some hM
    have tb_40 : Ty E G b_40 12 := (fun b hb => tyf h tx0 hb) _ hb_40
    refine st_ref hb_40 ?_
    refine lv_iload C.1 C.2.1 dX11_readMember_284 (lv_at hl 0 rfl) ?_
    refine lv_aload_n C.1 C.2.1 dX11_readMember_286 rfl (lv_at hl 2 rfl) ?_
    refine gt_11_42 C h tx0 fl_X11_193 dX11_readMember_287 ?_
    obtain ⟨hi, hM⟩ := ib_some hM
    refine h_iast C h tb_40 hi dX11_readMember_290 (fun H locs h => ?_)
    refine lv_aload_n C.1 C.2.1 dX11_readMember_291 rfl (lv_at hl 2 rfl) ?_
    refine gt_11_23 C h tx0 fl_X11_67 dX11_readMember_292 ?_
    obtain ⟨b_41, hb_41, hM⟩ := nb_some hM
    have tb_41 : Ty E G b_41 12 := (fun b hb => tyf h tx0 hb) _ hb_41
    refine st_ref hb_41 ?_
    refine lv_iload C.1 C.2.1 dX11_readMember_295 (lv_at hl 0 rfl) ?_
    refine lv_aload_n C.1 C.2.1 dX11_readMember_297 rfl (lv_at hl 2 rfl) ?_
    refine gt_11_43 C h tx0 fl_X11_206 dX11_readMember_298 ?_
    obtain ⟨hi, hM⟩ := ib_some hM
    refine h_iast C h tb_41 hi dX11_readMember_301 (fun H locs h => ?_)
    refine lv_aload_n C.1 C.2.1 dX11_readMember_302 rfl (lv_at hl 2 rfl) ?_
    refine gt_11_11 C h tx0 fl_X11_31 dX11_readMember_303 ?_
    obtain ⟨b_42, hb_42, hM⟩ := nb_some hM
    have tb_42 : Ty E G b_42 12 := (fun b hb => tyf h tx0 hb) _ hb_42
    refine st_ref hb_42 ?_
    refine lv_aload_n C.1 C.2.1 dX11_readMember_306 rfl (lv_at hl 2 rfl) ?_
    refine gt_11_48 C h tx0 fl_X11_265 dX11_readMember_307 ?_
    refine lv_dup2_11 C.1 C.2.1 dX11_readMember_310 rfl rfl ?_
    obtain ⟨hi, hM⟩ := ib_some hM
    refine h_iald C h tb_42 hi dX11_readMember_311 ?_
    refine lv_iconst (v := 1) C.1 C.2.1 dX11_readMember_312 (by decide) ?_
    refine lv_iadd C.1 C.2.1 dX11_readMember_313 ?_
    obtain ⟨hi, hM⟩ := ib_some hM
    refine h_iast C h tb_42 hi dX11_readMember_314 (fun H locs h => ?_)
    refine lv_goto (tgt := 361) C.1 C.2.1 dX11_readMember_315 (by decide) ?_
    exact cB_X11_readMember_361 C hM tx0 _ _ h ls (lv_sub hl [2, 3, 4, 1, 0] rfl)
def B_X11_readMember_189 (G : GG) (x0 : Nat) (x1 : Int32) (s0 : Int32) (m : MM) : Option (Unit × MM) :=
  if (gI m x0 44) = 1 then
    if s0 = 0 then
      nb (gR m x0 10) fun b_45 =>
        ib (gI m x0 48) (G.2.2 b_45) <|
          if (gI m b_45 ((gI m x0 48).toNatClampNeg)) = 8 then
            bd (M_X11_stop G x0 m) fun _ m_47 =>
              some ((), m_47)
          else
            B_X11_readMember_238 G x0 x1 s0 m
    else
      nb (gR m x0 11) fun b_48 =>
        ib (gI m x0 48) (G.2.2 b_48) <|
          if (gI m b_48 ((gI m x0 48).toNatClampNeg)) = 6 then
            bd (M_X11_stop G x0 m) fun _ m_50 =>
              some ((), m_50)
          else
            B_X11_readMember_238 G x0 x1 s0 m
  else
    bd (M_X11_stop G x0 m) fun _ m_44 =>
      some ((), m_44)
set_option maxRecDepth 100000 in
set_option maxHeartbeats 4000000 in
theorem cB_X11_readMember_189 {p : Program} {l : Launch} {e : Env} {s : State} {mth : MethodId} {args : Array Value} {below : List Frame} {meth : Method} {c : Code} {E : EE} {G : GG} {r9 : Unit} {m9 : MM} (C : Cx E G p s mth args meth c cX11_readMember RX11 "readMember" 8 none) {x0 : Nat} {x1 : Int32} {s0 : Int32} {m : MM} (hM : B_X11_readMember_189 G x0 x1 s0 m = some (r9, m9)) (tx0 : Ty E G x0 11) : ∀ (H : Heap) (locs : List Loc), Hp E G m s H locs → ∀ ls : Array Slot, lv_has ls 8 [(0, .ref x0), (1, .int x1)] → W p l e rmX11_readMember s mth args below meth c H locs 0 0 (MQ below (cQv E G m9) args s 0 0 (fun q => E.2.2.1 ≤ q)) (F0 mth 189 ls [.int s0]) := by
  intro H locs h ls hl
  unfold B_X11_readMember_189 at hM
  refine lv_istore_n (lv' := [(3, .int s0), (0, .ref x0), (1, .int x1)]) C.1 C.2.1 dX11_readMember_189 rfl hl (by decide) rfl (fun ls hl => ?_)
  refine lv_aload_n C.1 C.2.1 dX11_readMember_190 rfl (lv_at hl 1 rfl) ?_
  refine gt_11_44 C h tx0 fl_X11_196 dX11_readMember_191 ?_
  refine lv_iconst (v := 1) C.1 C.2.1 dX11_readMember_194 (by decide) ?_
  refine lv_icmp_ne (tgt := 233) C.1 C.2.1 dX11_readMember_195 (by decide) (fun q => ?_) (fun q => ?_)
  · have hM := ite_f q hM
    refine lv_aload_n C.1 C.2.1 dX11_readMember_233 rfl (lv_at hl 1 rfl) ?_
    obtain ⟨r_43, m_44, hc_43, hM⟩ := bd_some hM
    refine h_callVv C h (As := []) (rest := []) m_44 (c_X11_stop hc_43 tx0) 11 rfl (by decide) tx0 im_yX11_stop se_yX11_stop cy_X11_stop rfl ml_X11_259 ⟨by decide, by decide⟩ ⟨Nat.zero_le _, Nat.zero_le _⟩ hl.1 rfl (Nat.le_of_ble_eq_true rfl) dX11_readMember_234 (fun H locs h => ?_)
    obtain ⟨rfl, rfl⟩ := so_inj hM
    exact h_vret C h dX11_readMember_237
  · have hM := ite_t q hM
    refine lv_iload_n C.1 C.2.1 dX11_readMember_198 rfl (lv_at hl 0 rfl) ?_
    refine lv_if_eq (tgt := 219) C.1 C.2.1 dX11_readMember_199 (by decide) (fun q => ?_) (fun q => ?_)
    · have hM := ite_t q hM
      refine lv_aload_n C.1 C.2.1 dX11_readMember_219 rfl (lv_at hl 1 rfl) ?_
      refine gt_11_10 C h tx0 fl_X11_28 dX11_readMember_220 ?_
      obtain ⟨b_45, hb_45, hM⟩ := nb_some hM
      have tb_45 : Ty E G b_45 12 := (fun b hb => tyf h tx0 hb) _ hb_45
      refine st_ref hb_45 ?_
      refine lv_aload_n C.1 C.2.1 dX11_readMember_223 rfl (lv_at hl 1 rfl) ?_
      refine gt_11_48 C h tx0 fl_X11_265 dX11_readMember_224 ?_
      obtain ⟨hi, hM⟩ := ib_some hM
      refine h_iald C h tb_45 hi dX11_readMember_227 ?_
      refine lv_bipush (v := 8) C.1 C.2.1 dX11_readMember_228 (by decide) ?_
      refine lv_icmp_ne (tgt := 238) C.1 C.2.1 dX11_readMember_230 (by decide) (fun q => ?_) (fun q => ?_)
      · have hM := ite_f q hM
        exact cB_X11_readMember_238 C hM tx0 _ _ h ls (lv_sub hl [1, 2, 0] rfl)
      · have hM := ite_t q hM
        refine lv_aload_n C.1 C.2.1 dX11_readMember_233 rfl (lv_at hl 1 rfl) ?_
        obtain ⟨r_46, m_47, hc_46, hM⟩ := bd_some hM
        refine h_callVv C h (As := []) (rest := []) m_47 (c_X11_stop hc_46 tx0) 11 rfl (by decide) tx0 im_yX11_stop se_yX11_stop cy_X11_stop rfl ml_X11_259 ⟨by decide, by decide⟩ ⟨Nat.zero_le _, Nat.zero_le _⟩ hl.1 rfl (Nat.le_of_ble_eq_true rfl) dX11_readMember_234 (fun H locs h => ?_)
        obtain ⟨rfl, rfl⟩ := so_inj hM
        exact h_vret C h dX11_readMember_237
    · have hM := ite_f q hM
      refine lv_aload_n C.1 C.2.1 dX11_readMember_202 rfl (lv_at hl 1 rfl) ?_
      refine gt_11_11 C h tx0 fl_X11_31 dX11_readMember_203 ?_
      obtain ⟨b_48, hb_48, hM⟩ := nb_some hM
      have tb_48 : Ty E G b_48 12 := (fun b hb => tyf h tx0 hb) _ hb_48
      refine st_ref hb_48 ?_
      refine lv_aload_n C.1 C.2.1 dX11_readMember_206 rfl (lv_at hl 1 rfl) ?_
      refine gt_11_48 C h tx0 fl_X11_265 dX11_readMember_207 ?_
      obtain ⟨hi, hM⟩ := ib_some hM
      refine h_iald C h tb_48 hi dX11_readMember_210 ?_
      refine lv_bipush (v := 6) C.1 C.2.1 dX11_readMember_211 (by decide) ?_
      refine lv_icmp_ne (tgt := 238) C.1 C.2.1 dX11_readMember_213 (by decide) (fun q => ?_) (fun q => ?_)
      · have hM := ite_f q hM
        exact cB_X11_readMember_238 C hM tx0 _ _ h ls (lv_sub hl [1, 2, 0] rfl)
      · have hM := ite_t q hM
        refine lv_goto (tgt := 233) C.1 C.2.1 dX11_readMember_216 (by decide) ?_
        refine lv_aload_n C.1 C.2.1 dX11_readMember_233 rfl (lv_at hl 1 rfl) ?_
        obtain ⟨r_49, m_50, hc_49, hM⟩ := bd_some hM
        refine h_callVv C h (As := []) (rest := []) m_50 (c_X11_stop hc_49 tx0) 11 rfl (by decide) tx0 im_yX11_stop se_yX11_stop cy_X11_stop rfl ml_X11_259 ⟨by decide, by decide⟩ ⟨Nat.zero_le _, Nat.zero_le _⟩ hl.1 rfl (Nat.le_of_ble_eq_true rfl) dX11_readMember_234 (fun H locs h => ?_)
        obtain ⟨rfl, rfl⟩ := so_inj hM
        exact h_vret C h dX11_readMember_237
def B_X11_readMember_184 (G : GG) (x0 : Nat) (x1 : Int32) (m : MM) : Option (Unit × MM) :=
  B_X11_readMember_189 G x0 x1 1 m
set_option maxRecDepth 100000 in
set_option maxHeartbeats 4000000 in
theorem cB_X11_readMember_184 {p : Program} {l : Launch} {e : Env} {s : State} {mth : MethodId} {args : Array Value} {below : List Frame} {meth : Method} {c : Code} {E : EE} {G : GG} {r9 : Unit} {m9 : MM} (C : Cx E G p s mth args meth c cX11_readMember RX11 "readMember" 8 none) {x0 : Nat} {x1 : Int32} {m : MM} (hM : B_X11_readMember_184 G x0 x1 m = some (r9, m9)) (tx0 : Ty E G x0 11) : ∀ (H : Heap) (locs : List Loc), Hp E G m s H locs → ∀ ls : Array Slot, lv_has ls 8 [(0, .ref x0), (1, .int x1)] → W p l e rmX11_readMember s mth args below meth c H locs 0 0 (MQ below (cQv E G m9) args s 0 0 (fun q => E.2.2.1 ≤ q)) (F0 mth 184 ls []) := by
  intro H locs h ls hl
  unfold B_X11_readMember_184 at hM
  refine lv_iconst (v := 1) C.1 C.2.1 dX11_readMember_184 (by decide) ?_
  refine lv_goto (tgt := 189) C.1 C.2.1 dX11_readMember_185 (by decide) ?_
  exact cB_X11_readMember_189 C hM tx0 _ _ h ls (lv_sub hl [0, 1] rfl)
def B_X11_readMember_108 (G : GG) : Nat → Nat → Int32 → MM → Option (Unit × MM)
  | 0, _, _, _ => none
  | fu + 1, x0, x4, m =>
    nb (gR m x0 33) fun b_51 =>
      ib (gI m x0 4) (G.2.2 b_51) <|
        if (gI m b_51 ((gI m x0 4).toNatClampNeg)) ≤ x4 then
          bd (M_X11_need G x0 59 m) fun _ m_53 =>
            some ((), m_53)
        else
          nb (gR m x0 50) fun b_54 =>
            ib ((2100 * (gI m x0 4)) + x4) (G.2.2 b_54) <|
              nb (gR (sI m b_54 (((2100 * (gI m x0 4)) + x4).toNatClampNeg) 1) x0 51) fun b_55 =>
                ib ((2100 * (gI (sI m b_54 (((2100 * (gI m x0 4)) + x4).toNatClampNeg) 1) x0 4)) + x4) (G.2.2 b_55) <|
                  B_X11_readMember_108 G fu x0 (x4 + 1) (sI (sI m b_54 (((2100 * (gI m x0 4)) + x4).toNatClampNeg) 1) b_55 (((2100 * (gI (sI m b_54 (((2100 * (gI m x0 4)) + x4).toNatClampNeg) 1) x0 4)) + x4).toNatClampNeg) (gI (sI m b_54 (((2100 * (gI m x0 4)) + x4).toNatClampNeg) 1) x0 48))
set_option maxRecDepth 100000 in
set_option maxHeartbeats 4000000 in
theorem cB_X11_readMember_108 {p : Program} {l : Launch} {e : Env} {s : State} {mth : MethodId} {args : Array Value} {below : List Frame} {meth : Method} {c : Code} {E : EE} {G : GG} {r9 : Unit} {m9 : MM} (C : Cx E G p s mth args meth c cX11_readMember RX11 "readMember" 8 none) : ∀ (fu : Nat) (x0 : Nat) (x4 : Int32) (m : MM), B_X11_readMember_108 G fu x0 x4 m = some (r9, m9) → (Ty E G x0 11) → ∀ (H : Heap) (locs : List Loc), Hp E G m s H locs → ∀ ls : Array Slot, lv_has ls 8 [(0, .ref x0), (4, .int x4)] → W p l e rmX11_readMember s mth args below meth c H locs 0 0 (MQ below (cQv E G m9) args s 0 0 (fun q => E.2.2.1 ≤ q)) (F0 mth 108 ls []) := by
  intro fu
  induction fu with
  | zero =>
    intro x0 x4 m hM
    rw [B_X11_readMember_108] at hM
    cases hM
  | succ fu ih =>
    intro x0 x4 m hM tx0 H locs h ls hl
    rw [B_X11_readMember_108] at hM
    refine lv_iload C.1 C.2.1 dX11_readMember_108 (lv_at hl 1 rfl) ?_
    refine lv_aload_n C.1 C.2.1 dX11_readMember_110 rfl (lv_at hl 0 rfl) ?_
    refine gt_11_33 C h tx0 fl_X11_97 dX11_readMember_111 ?_
    obtain ⟨b_51, hb_51, hM⟩ := nb_some hM
    have tb_51 : Ty E G b_51 12 := (fun b hb => tyf h tx0 hb) _ hb_51
    refine st_ref hb_51 ?_
    refine lv_aload_n C.1 C.2.1 dX11_readMember_114 rfl (lv_at hl 0 rfl) ?_
    refine gt_11_4 C h tx0 fl_X11_183 dX11_readMember_115 ?_
    obtain ⟨hi, hM⟩ := ib_some hM
    refine h_iald C h tb_51 hi dX11_readMember_118 ?_
    refine lv_icmp_ge (tgt := 165) C.1 C.2.1 dX11_readMember_119 (by decide) (fun q => ?_) (fun q => ?_)
    · have hM := ite_t q hM
      refine lv_aload_n C.1 C.2.1 dX11_readMember_165 rfl (lv_at hl 0 rfl) ?_
      refine lv_bipush (v := 59) C.1 C.2.1 dX11_readMember_166 (by decide) ?_
      obtain ⟨r_52, m_53, hc_52, hM⟩ := bd_some hM
      refine h_callVv C h (As := [.int 59]) (rest := []) m_53 (c_X11_need hc_52 tx0) 11 rfl (by decide) tx0 im_yX11_need se_yX11_need cy_X11_need rfl ml_X11_268 ⟨by decide, by decide⟩ ⟨Nat.zero_le _, Nat.zero_le _⟩ hl.1 rfl (Nat.le_of_ble_eq_true rfl) dX11_readMember_168 (fun H locs h => ?_)
      obtain ⟨rfl, rfl⟩ := so_inj hM
      exact h_vret C h dX11_readMember_171
    · have hM := ite_f q hM
      refine lv_aload_n C.1 C.2.1 dX11_readMember_122 rfl (lv_at hl 0 rfl) ?_
      refine gt_11_50 C h tx0 fl_X11_124 dX11_readMember_123 ?_
      obtain ⟨b_54, hb_54, hM⟩ := nb_some hM
      have tb_54 : Ty E G b_54 12 := (fun b hb => tyf h tx0 hb) _ hb_54
      refine st_ref hb_54 ?_
      refine lv_sipush (v := 2100) C.1 C.2.1 dX11_readMember_126 (by decide) ?_
      refine lv_aload_n C.1 C.2.1 dX11_readMember_129 rfl (lv_at hl 0 rfl) ?_
      refine gt_11_4 C h tx0 fl_X11_183 dX11_readMember_130 ?_
      refine lv_imul C.1 C.2.1 dX11_readMember_133 ?_
      refine lv_iload C.1 C.2.1 dX11_readMember_134 (lv_at hl 1 rfl) ?_
      refine lv_iadd C.1 C.2.1 dX11_readMember_136 ?_
      refine lv_iconst (v := 1) C.1 C.2.1 dX11_readMember_137 (by decide) ?_
      obtain ⟨hi, hM⟩ := ib_some hM
      refine h_iast C h tb_54 hi dX11_readMember_138 (fun H locs h => ?_)
      refine lv_aload_n C.1 C.2.1 dX11_readMember_139 rfl (lv_at hl 0 rfl) ?_
      refine gt_11_51 C h tx0 fl_X11_127 dX11_readMember_140 ?_
      obtain ⟨b_55, hb_55, hM⟩ := nb_some hM
      have tb_55 : Ty E G b_55 12 := (fun b hb => tyf h tx0 hb) _ hb_55
      refine st_ref hb_55 ?_
      refine lv_sipush (v := 2100) C.1 C.2.1 dX11_readMember_143 (by decide) ?_
      refine lv_aload_n C.1 C.2.1 dX11_readMember_146 rfl (lv_at hl 0 rfl) ?_
      refine gt_11_4 C h tx0 fl_X11_183 dX11_readMember_147 ?_
      refine lv_imul C.1 C.2.1 dX11_readMember_150 ?_
      refine lv_iload C.1 C.2.1 dX11_readMember_151 (lv_at hl 1 rfl) ?_
      refine lv_iadd C.1 C.2.1 dX11_readMember_153 ?_
      refine lv_aload_n C.1 C.2.1 dX11_readMember_154 rfl (lv_at hl 0 rfl) ?_
      refine gt_11_48 C h tx0 fl_X11_265 dX11_readMember_155 ?_
      obtain ⟨hi, hM⟩ := ib_some hM
      refine h_iast C h tb_55 hi dX11_readMember_158 (fun H locs h => ?_)
      refine lv_iinc (v := x4 + 1) (lv' := [(4, .int (x4 + 1)), (0, .ref x0)]) C.1 C.2.1 dX11_readMember_159 hl (k := 1) rfl rfl (by decide) rfl (fun ls hl => ?_)
      refine lv_goto (tgt := 108) C.1 C.2.1 dX11_readMember_162 (by decide) ?_
      exact ih _ _ _ hM tx0 _ _ h ls (lv_sub hl [1, 0] rfl)
def M_X11_readMember (G : GG) (x0 : Nat) (m : MM) : Option (Unit × MM) :=
  bd (M_X11_next G x0 m) fun _ m_57 =>
    if (gI m x0 44) = 25 then
      bd (M_X11_need G x0 61 m_57) fun _ m_59 =>
        nb (gR m_59 x0 33) fun b_60 =>
          ib (gI m_59 x0 4) (G.2.2 b_60) <|
            bd (M_X11_readExp G x0 m_59) fun _ m_62 =>
              nb (gR m_62 x0 12) fun b_63 =>
                ib (gI m_62 x0 48) (G.2.2 b_63) <|
                  if 0 ≤ (gI m_62 b_63 ((gI m_62 x0 48).toNatClampNeg)) then
                    nb (gR m_62 x0 49) fun b_64 =>
                      ib (gI m_62 x0 48) (G.2.2 b_64) <|
                        if 0 ≤ (gI m_62 b_64 ((gI m_62 x0 48).toNatClampNeg)) then
                          B_X11_readMember_108 G FU x0 (gI m_59 b_60 ((gI m_59 x0 4).toNatClampNeg)) m_62
                        else
                          ib (gI m_62 x0 48) (G.2.2 b_64) <|
                            B_X11_readMember_108 G FU x0 (gI m_59 b_60 ((gI m_59 x0 4).toNatClampNeg)) (sI m_62 b_64 ((gI m_62 x0 48).toNatClampNeg) (gI m x0 42))
                  else
                    ib (gI m_62 x0 48) (G.2.2 b_63) <|
                      nb (gR (sI m_62 b_63 ((gI m_62 x0 48).toNatClampNeg) (gI m_59 b_60 ((gI m_59 x0 4).toNatClampNeg))) x0 13) fun b_65 =>
                        nb (gR (sI m_62 b_63 ((gI m_62 x0 48).toNatClampNeg) (gI m_59 b_60 ((gI m_59 x0 4).toNatClampNeg))) x0 33) fun b_66 =>
                          ib (gI (sI m_62 b_63 ((gI m_62 x0 48).toNatClampNeg) (gI m_59 b_60 ((gI m_59 x0 4).toNatClampNeg))) x0 4) (G.2.2 b_66) <|
                            ib (gI (sI m_62 b_63 ((gI m_62 x0 48).toNatClampNeg) (gI m_59 b_60 ((gI m_59 x0 4).toNatClampNeg))) x0 48) (G.2.2 b_65) <|
                              B_X11_readMember_108 G FU x0 (gI m_59 b_60 ((gI m_59 x0 4).toNatClampNeg)) (sI (sI m_62 b_63 ((gI m_62 x0 48).toNatClampNeg) (gI m_59 b_60 ((gI m_59 x0 4).toNatClampNeg))) b_65 ((gI (sI m_62 b_63 ((gI m_62 x0 48).toNatClampNeg) (gI m_59 b_60 ((gI m_59 x0 4).toNatClampNeg))) x0 48).toNatClampNeg) (gI (sI m_62 b_63 ((gI m_62 x0 48).toNatClampNeg) (gI m_59 b_60 ((gI m_59 x0 4).toNatClampNeg))) b_66 ((gI (sI m_62 b_63 ((gI m_62 x0 48).toNatClampNeg) (gI m_59 b_60 ((gI m_59 x0 4).toNatClampNeg))) x0 4).toNatClampNeg)))
    else
      if (gI m x0 44) = 23 then
        B_X11_readMember_184 G x0 (gI m x0 44) m_57
      else
        if (gI m x0 44) = 24 then
          B_X11_readMember_184 G x0 (gI m x0 44) m_57
        else
          B_X11_readMember_189 G x0 (gI m x0 44) 0 m_57
set_option maxRecDepth 100000 in
set_option maxHeartbeats 4000000 in
theorem cM_X11_readMember {p : Program} {l : Launch} {e : Env} {s : State} {mth : MethodId} {args : Array Value} {below : List Frame} {meth : Method} {c : Code} {E : EE} {G : GG} {r9 : Unit} {m9 : MM} (C : Cx E G p s mth args meth c cX11_readMember RX11 "readMember" 8 none) {x0 : Nat} {m : MM} (hM : M_X11_readMember G x0 m = some (r9, m9)) (tx0 : Ty E G x0 11) : ∀ (H : Heap) (locs : List Loc), Hp E G m s H locs → ∀ ls : Array Slot, lv_has ls 8 [(0, .ref x0)] → W p l e rmX11_readMember s mth args below meth c H locs 0 0 (MQ below (cQv E G m9) args s 0 0 (fun q => E.2.2.1 ≤ q)) (F0 mth 0 ls []) := by
  intro H locs h ls hl
  unfold M_X11_readMember at hM
  refine lv_aload_n C.1 C.2.1 dX11_readMember_0 rfl (lv_at hl 0 rfl) ?_
  refine gt_11_44 C h tx0 fl_X11_196 dX11_readMember_1 ?_
  refine lv_istore_n (lv' := [(1, .int (gI m x0 44)), (0, .ref x0)]) C.1 C.2.1 dX11_readMember_4 rfl hl (by decide) rfl (fun ls hl => ?_)
  refine lv_aload_n C.1 C.2.1 dX11_readMember_5 rfl (lv_at hl 1 rfl) ?_
  refine gt_11_42 C h tx0 fl_X11_193 dX11_readMember_6 ?_
  refine lv_istore_n (lv' := [(2, .int (gI m x0 42)), (1, .int (gI m x0 44)), (0, .ref x0)]) C.1 C.2.1 dX11_readMember_9 rfl hl (by decide) rfl (fun ls hl => ?_)
  refine lv_aload_n C.1 C.2.1 dX11_readMember_10 rfl (lv_at hl 2 rfl) ?_
  obtain ⟨r_56, m_57, hc_56, hM⟩ := bd_some hM
  refine h_callVv C h (As := []) (rest := []) m_57 (c_X11_next hc_56 tx0) 11 rfl (by decide) tx0 im_yX11_next se_yX11_next cy_X11_next rfl ml_X11_256 ⟨by decide, by decide⟩ ⟨Nat.zero_le _, Nat.zero_le _⟩ hl.1 rfl (Nat.le_of_ble_eq_true rfl) dX11_readMember_11 (fun H locs h => ?_)
  refine lv_iload_n C.1 C.2.1 dX11_readMember_14 rfl (lv_at hl 1 rfl) ?_
  refine lv_bipush (v := 25) C.1 C.2.1 dX11_readMember_15 (by decide) ?_
  refine lv_icmp_ne (tgt := 172) C.1 C.2.1 dX11_readMember_17 (by decide) (fun q => ?_) (fun q => ?_)
  · have hM := ite_f q hM
    refine lv_iload_n C.1 C.2.1 dX11_readMember_172 rfl (lv_at hl 1 rfl) ?_
    refine lv_bipush (v := 23) C.1 C.2.1 dX11_readMember_173 (by decide) ?_
    refine lv_icmp_eq (tgt := 184) C.1 C.2.1 dX11_readMember_175 (by decide) (fun q => ?_) (fun q => ?_)
    · have hM := ite_t q hM
      exact cB_X11_readMember_184 C hM tx0 _ _ h ls (lv_sub hl [2, 1] rfl)
    · have hM := ite_f q hM
      refine lv_iload_n C.1 C.2.1 dX11_readMember_178 rfl (lv_at hl 1 rfl) ?_
      refine lv_bipush (v := 24) C.1 C.2.1 dX11_readMember_179 (by decide) ?_
      refine lv_icmp_ne (tgt := 188) C.1 C.2.1 dX11_readMember_181 (by decide) (fun q => ?_) (fun q => ?_)
      · have hM := ite_f q hM
        refine lv_iconst (v := 0) C.1 C.2.1 dX11_readMember_188 (by decide) ?_
        exact cB_X11_readMember_189 C hM tx0 _ _ h ls (lv_sub hl [2, 1] rfl)
      · have hM := ite_t q hM
        exact cB_X11_readMember_184 C hM tx0 _ _ h ls (lv_sub hl [2, 1] rfl)
  · have hM := ite_t q hM
    refine lv_aload_n C.1 C.2.1 dX11_readMember_20 rfl (lv_at hl 2 rfl) ?_
    refine lv_bipush (v := 61) C.1 C.2.1 dX11_readMember_21 (by decide) ?_
    obtain ⟨r_58, m_59, hc_58, hM⟩ := bd_some hM
    refine h_callVv C h (As := [.int 61]) (rest := []) m_59 (c_X11_need hc_58 tx0) 11 rfl (by decide) tx0 im_yX11_need se_yX11_need cy_X11_need rfl ml_X11_268 ⟨by decide, by decide⟩ ⟨Nat.zero_le _, Nat.zero_le _⟩ hl.1 rfl (Nat.le_of_ble_eq_true rfl) dX11_readMember_23 (fun H locs h => ?_)
    refine lv_aload_n C.1 C.2.1 dX11_readMember_26 rfl (lv_at hl 2 rfl) ?_
    refine gt_11_33 C h tx0 fl_X11_97 dX11_readMember_27 ?_
    obtain ⟨b_60, hb_60, hM⟩ := nb_some hM
    have tb_60 : Ty E G b_60 12 := (fun b hb => tyf h tx0 hb) _ hb_60
    refine st_ref hb_60 ?_
    refine lv_aload_n C.1 C.2.1 dX11_readMember_30 rfl (lv_at hl 2 rfl) ?_
    refine gt_11_4 C h tx0 fl_X11_183 dX11_readMember_31 ?_
    obtain ⟨hi, hM⟩ := ib_some hM
    refine h_iald C h tb_60 hi dX11_readMember_34 ?_
    refine lv_istore_n (lv' := [(3, .int (gI m_59 b_60 ((gI m_59 x0 4).toNatClampNeg))), (2, .int (gI m x0 42)), (1, .int (gI m x0 44)), (0, .ref x0)]) C.1 C.2.1 dX11_readMember_35 rfl hl (by decide) rfl (fun ls hl => ?_)
    refine lv_aload_n C.1 C.2.1 dX11_readMember_36 rfl (lv_at hl 3 rfl) ?_
    obtain ⟨r_61, m_62, hc_61, hM⟩ := bd_some hM
    refine h_callVv C h (As := []) (rest := []) m_62 (c_X11_readExp hc_61 tx0) 11 rfl (by decide) tx0 im_yX11_readExp se_yX11_readExp cy_X11_readExp rfl ml_X11_278 ⟨by decide, by decide⟩ ⟨Nat.zero_le _, Nat.zero_le _⟩ hl.1 rfl (Nat.le_of_ble_eq_true rfl) dX11_readMember_37 (fun H locs h => ?_)
    refine lv_aload_n C.1 C.2.1 dX11_readMember_40 rfl (lv_at hl 3 rfl) ?_
    refine gt_11_12 C h tx0 fl_X11_34 dX11_readMember_41 ?_
    obtain ⟨b_63, hb_63, hM⟩ := nb_some hM
    have tb_63 : Ty E G b_63 12 := (fun b hb => tyf h tx0 hb) _ hb_63
    refine st_ref hb_63 ?_
    refine lv_aload_n C.1 C.2.1 dX11_readMember_44 rfl (lv_at hl 3 rfl) ?_
    refine gt_11_48 C h tx0 fl_X11_265 dX11_readMember_45 ?_
    obtain ⟨hi, hM⟩ := ib_some hM
    refine h_iald C h tb_63 hi dX11_readMember_48 ?_
    refine lv_if_ge (tgt := 83) C.1 C.2.1 dX11_readMember_49 (by decide) (fun q => ?_) (fun q => ?_)
    · have hM := ite_t q hM
      refine lv_aload_n C.1 C.2.1 dX11_readMember_83 rfl (lv_at hl 3 rfl) ?_
      refine gt_11_49 C h tx0 fl_X11_121 dX11_readMember_84 ?_
      obtain ⟨b_64, hb_64, hM⟩ := nb_some hM
      have tb_64 : Ty E G b_64 12 := (fun b hb => tyf h tx0 hb) _ hb_64
      refine st_ref hb_64 ?_
      refine lv_aload_n C.1 C.2.1 dX11_readMember_87 rfl (lv_at hl 3 rfl) ?_
      refine gt_11_48 C h tx0 fl_X11_265 dX11_readMember_88 ?_
      obtain ⟨hi, hM⟩ := ib_some hM
      refine h_iald C h tb_64 hi dX11_readMember_91 ?_
      refine lv_if_ge (tgt := 105) C.1 C.2.1 dX11_readMember_92 (by decide) (fun q => ?_) (fun q => ?_)
      · have hM := ite_t q hM
        refine lv_iload_n C.1 C.2.1 dX11_readMember_105 rfl (lv_at hl 0 rfl) ?_
        refine lv_istore (lv' := [(4, .int (gI m_59 b_60 ((gI m_59 x0 4).toNatClampNeg))), (3, .int (gI m_59 b_60 ((gI m_59 x0 4).toNatClampNeg))), (2, .int (gI m x0 42)), (1, .int (gI m x0 44)), (0, .ref x0)]) C.1 C.2.1 dX11_readMember_106 hl (by decide) rfl (fun ls hl => ?_)
        exact cB_X11_readMember_108 C _ _ _ _ hM tx0 _ _ h ls (lv_sub hl [4, 0] rfl)
      · have hM := ite_f q hM
        refine lv_aload_n C.1 C.2.1 dX11_readMember_95 rfl (lv_at hl 3 rfl) ?_
        refine gt_11_49 C h tx0 fl_X11_121 dX11_readMember_96 ?_
        refine st_ref hb_64 ?_
        refine lv_aload_n C.1 C.2.1 dX11_readMember_99 rfl (lv_at hl 3 rfl) ?_
        refine gt_11_48 C h tx0 fl_X11_265 dX11_readMember_100 ?_
        refine lv_iload_n C.1 C.2.1 dX11_readMember_103 rfl (lv_at hl 1 rfl) ?_
        obtain ⟨hi, hM⟩ := ib_some hM
        refine h_iast C h tb_64 hi dX11_readMember_104 (fun H locs h => ?_)
        refine lv_iload_n C.1 C.2.1 dX11_readMember_105 rfl (lv_at hl 0 rfl) ?_
        refine lv_istore (lv' := [(4, .int (gI m_59 b_60 ((gI m_59 x0 4).toNatClampNeg))), (3, .int (gI m_59 b_60 ((gI m_59 x0 4).toNatClampNeg))), (2, .int (gI m x0 42)), (1, .int (gI m x0 44)), (0, .ref x0)]) C.1 C.2.1 dX11_readMember_106 hl (by decide) rfl (fun ls hl => ?_)
        exact cB_X11_readMember_108 C _ _ _ _ hM tx0 _ _ h ls (lv_sub hl [4, 0] rfl)
    · have hM := ite_f q hM
      refine lv_aload_n C.1 C.2.1 dX11_readMember_52 rfl (lv_at hl 3 rfl) ?_
      refine gt_11_12 C h tx0 fl_X11_34 dX11_readMember_53 ?_
      refine st_ref hb_63 ?_
      refine lv_aload_n C.1 C.2.1 dX11_readMember_56 rfl (lv_at hl 3 rfl) ?_
      refine gt_11_48 C h tx0 fl_X11_265 dX11_readMember_57 ?_
      refine lv_iload_n C.1 C.2.1 dX11_readMember_60 rfl (lv_at hl 0 rfl) ?_
      obtain ⟨hi, hM⟩ := ib_some hM
      refine h_iast C h tb_63 hi dX11_readMember_61 (fun H locs h => ?_)
      refine lv_aload_n C.1 C.2.1 dX11_readMember_62 rfl (lv_at hl 3 rfl) ?_
      refine gt_11_13 C h tx0 fl_X11_37 dX11_readMember_63 ?_
      obtain ⟨b_65, hb_65, hM⟩ := nb_some hM
      have tb_65 : Ty E G b_65 12 := (fun b hb => tyf h tx0 hb) _ hb_65
      refine st_ref hb_65 ?_
      refine lv_aload_n C.1 C.2.1 dX11_readMember_66 rfl (lv_at hl 3 rfl) ?_
      refine gt_11_48 C h tx0 fl_X11_265 dX11_readMember_67 ?_
      refine lv_aload_n C.1 C.2.1 dX11_readMember_70 rfl (lv_at hl 3 rfl) ?_
      refine gt_11_33 C h tx0 fl_X11_97 dX11_readMember_71 ?_
      obtain ⟨b_66, hb_66, hM⟩ := nb_some hM
      have tb_66 : Ty E G b_66 12 := (fun b hb => tyf h tx0 hb) _ hb_66
      refine st_ref hb_66 ?_
      refine lv_aload_n C.1 C.2.1 dX11_readMember_74 rfl (lv_at hl 3 rfl) ?_
      refine gt_11_4 C h tx0 fl_X11_183 dX11_readMember_75 ?_
      obtain ⟨hi, hM⟩ := ib_some hM
      refine h_iald C h tb_66 hi dX11_readMember_78 ?_
      obtain ⟨hi, hM⟩ := ib_some hM
      refine h_iast C h tb_65 hi dX11_readMember_79 (fun H locs h => ?_)
      refine lv_goto (tgt := 105) C.1 C.2.1 dX11_readMember_80 (by decide) ?_
      refine lv_iload_n C.1 C.2.1 dX11_readMember_105 rfl (lv_at hl 0 rfl) ?_
      refine lv_istore (lv' := [(4, .int (gI m_59 b_60 ((gI m_59 x0 4).toNatClampNeg))), (3, .int (gI m_59 b_60 ((gI m_59 x0 4).toNatClampNeg))), (2, .int (gI m x0 42)), (1, .int (gI m x0 44)), (0, .ref x0)]) C.1 C.2.1 dX11_readMember_106 hl (by decide) rfl (fun ls hl => ?_)
      exact cB_X11_readMember_108 C _ _ _ _ hM tx0 _ _ h ls (lv_sub hl [4, 0] rfl)
theorem cy_X11_readMember : Cy yX11_readMember cX11_readMember 8 none 0 := ⟨cd_yX11_readMember, ii_X11, by decide, by decide, by decide +kernel⟩
set_option maxRecDepth 100000 in
theorem c_X11_readMember {l : Launch} {E : EE} {G : GG} {x0 : Nat} {m m9 : MM} {r9 : Unit} (hM : M_X11_readMember G x0 m = some (r9, m9)) (tx0 : Ty E G x0 11) : Mc l E yX11_readMember cX11_readMember 8 none rmX11_readMember [.ref x0] G m (cQv E G m9) := M_of (by decide) (Nat.le_of_ble_eq_true rfl) (fun p e s mth below meth c C h ls hl => cM_X11_readMember C hM tx0 _ _ h ls hl)
abbrev rmX11_readEnum : Room := { frames := 7, cells := 0, slots := 0, locals := 161 }
def B_X11_readEnum_213 (G : GG) : Nat → Nat → MM → Option (Unit × MM)
  | 0, _, _ => none
  | fu + 1, x0, m =>
    bd (M_X11_isGood G x0 m) fun r_1 m_2 =>
      if r_1 = true then
        bd (M_X11_in G (gI m_2 x0 44) 21 25 m_2) fun r_5 m_6 =>
          if r_5 = true then
            bd (M_X11_readMember G x0 m_6) fun _ m_10 =>
              B_X11_readEnum_213 G fu x0 m_10
          else
            bd (M_X11_need G x0 125 m_6) fun _ m_8 =>
              some ((), m_8)
      else
        bd (M_X11_need G x0 125 m_2) fun _ m_4 =>
          some ((), m_4)
set_option maxRecDepth 100000 in
set_option maxHeartbeats 4000000 in
theorem cB_X11_readEnum_213 {p : Program} {l : Launch} {e : Env} {s : State} {mth : MethodId} {args : Array Value} {below : List Frame} {meth : Method} {c : Code} {E : EE} {G : GG} {r9 : Unit} {m9 : MM} (C : Cx E G p s mth args meth c cX11_readEnum RX11 "readEnum" 1 none) : ∀ (fu : Nat) (x0 : Nat) (m : MM), B_X11_readEnum_213 G fu x0 m = some (r9, m9) → (Ty E G x0 11) → ∀ (H : Heap) (locs : List Loc), Hp E G m s H locs → ∀ ls : Array Slot, lv_has ls 1 [(0, .ref x0)] → W p l e rmX11_readEnum s mth args below meth c H locs 0 0 (MQ below (cQv E G m9) args s 0 0 (fun q => E.2.2.1 ≤ q)) (F0 mth 213 ls []) := by
  intro fu
  induction fu with
  | zero =>
    intro x0 m hM
    rw [B_X11_readEnum_213] at hM
    cases hM
  | succ fu ih =>
    intro x0 m hM tx0 H locs h ls hl
    rw [B_X11_readEnum_213] at hM
    refine lv_aload_n C.1 C.2.1 dX11_readEnum_213 rfl (lv_at hl 0 rfl) ?_
    obtain ⟨r_1, m_2, hc_1, hM⟩ := bd_some hM
    refine h_callVi C h (As := []) (rest := []) (bz r_1) m_2 (c_X11_isGood hc_1 tx0) 11 rfl (by decide) tx0 im_yX11_isGood se_yX11_isGood cy_X11_isGood rfl ml_X11_249 ⟨by decide, by decide⟩ ⟨Nat.zero_le _, Nat.zero_le _⟩ hl.1 rfl (Nat.le_of_ble_eq_true rfl) dX11_readEnum_214 (fun H locs h => ?_)
    refine h_ifz (tgt := 241) C.1 C.2.1 dX11_readEnum_217 (by decide) (fun q => ?_) (fun q => ?_)
    · have hM := ite_f q hM
      refine lv_aload_n C.1 C.2.1 dX11_readEnum_241 rfl (lv_at hl 0 rfl) ?_
      refine lv_bipush (v := 125) C.1 C.2.1 dX11_readEnum_242 (by decide) ?_
      obtain ⟨r_3, m_4, hc_3, hM⟩ := bd_some hM
      refine h_callVv C h (As := [.int 125]) (rest := []) m_4 (c_X11_need hc_3 tx0) 11 rfl (by decide) tx0 im_yX11_need se_yX11_need cy_X11_need rfl ml_X11_268 ⟨by decide, by decide⟩ ⟨Nat.zero_le _, Nat.zero_le _⟩ hl.1 rfl (Nat.le_of_ble_eq_true rfl) dX11_readEnum_244 (fun H locs h => ?_)
      obtain ⟨rfl, rfl⟩ := so_inj hM
      exact h_vret C h dX11_readEnum_247
    · have hM := ite_t q hM
      refine lv_aload_n C.1 C.2.1 dX11_readEnum_220 rfl (lv_at hl 0 rfl) ?_
      refine gt_11_44 C h tx0 fl_X11_196 dX11_readEnum_221 ?_
      refine lv_bipush (v := 21) C.1 C.2.1 dX11_readEnum_224 (by decide) ?_
      refine lv_bipush (v := 25) C.1 C.2.1 dX11_readEnum_226 (by decide) ?_
      obtain ⟨r_5, m_6, hc_5, hM⟩ := bd_some hM
      refine h_callSi C h (As := [.int (gI m_2 x0 44), .int 21, .int 25]) (rest := []) (bz r_5) m_6 (c_X11_in hc_5 ) st_yX11_in cy_X11_in rfl ml_X11_175 ⟨by decide, by decide⟩ ⟨Nat.zero_le _, Nat.zero_le _⟩ hl.1 rfl (Nat.le_of_ble_eq_true rfl) dX11_readEnum_228 (fun H locs h => ?_)
      refine h_ifz (tgt := 241) C.1 C.2.1 dX11_readEnum_231 (by decide) (fun q => ?_) (fun q => ?_)
      · have hM := ite_f q hM
        refine lv_aload_n C.1 C.2.1 dX11_readEnum_241 rfl (lv_at hl 0 rfl) ?_
        refine lv_bipush (v := 125) C.1 C.2.1 dX11_readEnum_242 (by decide) ?_
        obtain ⟨r_7, m_8, hc_7, hM⟩ := bd_some hM
        refine h_callVv C h (As := [.int 125]) (rest := []) m_8 (c_X11_need hc_7 tx0) 11 rfl (by decide) tx0 im_yX11_need se_yX11_need cy_X11_need rfl ml_X11_268 ⟨by decide, by decide⟩ ⟨Nat.zero_le _, Nat.zero_le _⟩ hl.1 rfl (Nat.le_of_ble_eq_true rfl) dX11_readEnum_244 (fun H locs h => ?_)
        obtain ⟨rfl, rfl⟩ := so_inj hM
        exact h_vret C h dX11_readEnum_247
      · have hM := ite_t q hM
        refine lv_aload_n C.1 C.2.1 dX11_readEnum_234 rfl (lv_at hl 0 rfl) ?_
        obtain ⟨r_9, m_10, hc_9, hM⟩ := bd_some hM
        refine h_callVv C h (As := []) (rest := []) m_10 (c_X11_readMember hc_9 tx0) 11 rfl (by decide) tx0 im_yX11_readMember se_yX11_readMember cy_X11_readMember rfl ml_X11_275 ⟨by decide, by decide⟩ ⟨Nat.zero_le _, Nat.zero_le _⟩ hl.1 rfl (Nat.le_of_ble_eq_true rfl) dX11_readEnum_235 (fun H locs h => ?_)
        refine lv_goto (tgt := 213) C.1 C.2.1 dX11_readEnum_238 (by decide) ?_
        exact ih _ _ hM tx0 _ _ h ls (lv_sub hl [0] rfl)
def B_X11_readEnum_193 (G : GG) (x0 : Nat) (m : MM) : Option (Unit × MM) :=
  bd (M_X11_isGood G x0 m) fun r_11 m_12 =>
    if r_11 = true then
      bd (M_X11_isAt G x0 59 m_12) fun r_15 m_16 =>
        if r_15 = true then
          bd (M_X11_next G x0 m_16) fun _ m_20 =>
            B_X11_readEnum_213 G FU x0 m_20
        else
          bd (M_X11_need G x0 125 m_16) fun _ m_18 =>
            some ((), m_18)
    else
      bd (M_X11_need G x0 125 m_12) fun _ m_14 =>
        some ((), m_14)
set_option maxRecDepth 100000 in
set_option maxHeartbeats 4000000 in
theorem cB_X11_readEnum_193 {p : Program} {l : Launch} {e : Env} {s : State} {mth : MethodId} {args : Array Value} {below : List Frame} {meth : Method} {c : Code} {E : EE} {G : GG} {r9 : Unit} {m9 : MM} (C : Cx E G p s mth args meth c cX11_readEnum RX11 "readEnum" 1 none) {x0 : Nat} {m : MM} (hM : B_X11_readEnum_193 G x0 m = some (r9, m9)) (tx0 : Ty E G x0 11) : ∀ (H : Heap) (locs : List Loc), Hp E G m s H locs → ∀ ls : Array Slot, lv_has ls 1 [(0, .ref x0)] → W p l e rmX11_readEnum s mth args below meth c H locs 0 0 (MQ below (cQv E G m9) args s 0 0 (fun q => E.2.2.1 ≤ q)) (F0 mth 193 ls []) := by
  intro H locs h ls hl
  unfold B_X11_readEnum_193 at hM
  refine lv_aload_n C.1 C.2.1 dX11_readEnum_193 rfl (lv_at hl 0 rfl) ?_
  obtain ⟨r_11, m_12, hc_11, hM⟩ := bd_some hM
  refine h_callVi C h (As := []) (rest := []) (bz r_11) m_12 (c_X11_isGood hc_11 tx0) 11 rfl (by decide) tx0 im_yX11_isGood se_yX11_isGood cy_X11_isGood rfl ml_X11_249 ⟨by decide, by decide⟩ ⟨Nat.zero_le _, Nat.zero_le _⟩ hl.1 rfl (Nat.le_of_ble_eq_true rfl) dX11_readEnum_194 (fun H locs h => ?_)
  refine h_ifz (tgt := 241) C.1 C.2.1 dX11_readEnum_197 (by decide) (fun q => ?_) (fun q => ?_)
  · have hM := ite_f q hM
    refine lv_aload_n C.1 C.2.1 dX11_readEnum_241 rfl (lv_at hl 0 rfl) ?_
    refine lv_bipush (v := 125) C.1 C.2.1 dX11_readEnum_242 (by decide) ?_
    obtain ⟨r_13, m_14, hc_13, hM⟩ := bd_some hM
    refine h_callVv C h (As := [.int 125]) (rest := []) m_14 (c_X11_need hc_13 tx0) 11 rfl (by decide) tx0 im_yX11_need se_yX11_need cy_X11_need rfl ml_X11_268 ⟨by decide, by decide⟩ ⟨Nat.zero_le _, Nat.zero_le _⟩ hl.1 rfl (Nat.le_of_ble_eq_true rfl) dX11_readEnum_244 (fun H locs h => ?_)
    obtain ⟨rfl, rfl⟩ := so_inj hM
    exact h_vret C h dX11_readEnum_247
  · have hM := ite_t q hM
    refine lv_aload_n C.1 C.2.1 dX11_readEnum_200 rfl (lv_at hl 0 rfl) ?_
    refine lv_bipush (v := 59) C.1 C.2.1 dX11_readEnum_201 (by decide) ?_
    obtain ⟨r_15, m_16, hc_15, hM⟩ := bd_some hM
    refine h_callVi C h (As := [.int 59]) (rest := []) (bz r_15) m_16 (c_X11_isAt hc_15 tx0) 11 rfl (by decide) tx0 im_yX11_isAt se_yX11_isAt cy_X11_isAt rfl ml_X11_253 ⟨by decide, by decide⟩ ⟨Nat.zero_le _, Nat.zero_le _⟩ hl.1 rfl (Nat.le_of_ble_eq_true rfl) dX11_readEnum_203 (fun H locs h => ?_)
    refine h_ifz (tgt := 241) C.1 C.2.1 dX11_readEnum_206 (by decide) (fun q => ?_) (fun q => ?_)
    · have hM := ite_f q hM
      refine lv_aload_n C.1 C.2.1 dX11_readEnum_241 rfl (lv_at hl 0 rfl) ?_
      refine lv_bipush (v := 125) C.1 C.2.1 dX11_readEnum_242 (by decide) ?_
      obtain ⟨r_17, m_18, hc_17, hM⟩ := bd_some hM
      refine h_callVv C h (As := [.int 125]) (rest := []) m_18 (c_X11_need hc_17 tx0) 11 rfl (by decide) tx0 im_yX11_need se_yX11_need cy_X11_need rfl ml_X11_268 ⟨by decide, by decide⟩ ⟨Nat.zero_le _, Nat.zero_le _⟩ hl.1 rfl (Nat.le_of_ble_eq_true rfl) dX11_readEnum_244 (fun H locs h => ?_)
      obtain ⟨rfl, rfl⟩ := so_inj hM
      exact h_vret C h dX11_readEnum_247
    · have hM := ite_t q hM
      refine lv_aload_n C.1 C.2.1 dX11_readEnum_209 rfl (lv_at hl 0 rfl) ?_
      obtain ⟨r_19, m_20, hc_19, hM⟩ := bd_some hM
      refine h_callVv C h (As := []) (rest := []) m_20 (c_X11_next hc_19 tx0) 11 rfl (by decide) tx0 im_yX11_next se_yX11_next cy_X11_next rfl ml_X11_256 ⟨by decide, by decide⟩ ⟨Nat.zero_le _, Nat.zero_le _⟩ hl.1 rfl (Nat.le_of_ble_eq_true rfl) dX11_readEnum_210 (fun H locs h => ?_)
      exact cB_X11_readEnum_213 C _ _ _ hM tx0 _ _ h ls (lv_sub hl [0] rfl)
def B_X11_readEnum_166 (G : GG) : Nat → Nat → MM → Option (Unit × MM)
  | 0, _, _ => none
  | fu + 1, x0, m =>
    bd (M_X11_isGood G x0 m) fun r_21 m_22 =>
      if r_21 = true then
        bd (M_X11_isAt G x0 44 m_22) fun r_23 m_24 =>
          if r_23 = true then
            bd (M_X11_next G x0 m_24) fun _ m_26 =>
              bd (M_X11_readConst G x0 m_26) fun _ m_28 =>
                B_X11_readEnum_166 G fu x0 m_28
          else
            B_X11_readEnum_193 G x0 m_24
      else
        B_X11_readEnum_193 G x0 m_22
set_option maxRecDepth 100000 in
set_option maxHeartbeats 4000000 in
theorem cB_X11_readEnum_166 {p : Program} {l : Launch} {e : Env} {s : State} {mth : MethodId} {args : Array Value} {below : List Frame} {meth : Method} {c : Code} {E : EE} {G : GG} {r9 : Unit} {m9 : MM} (C : Cx E G p s mth args meth c cX11_readEnum RX11 "readEnum" 1 none) : ∀ (fu : Nat) (x0 : Nat) (m : MM), B_X11_readEnum_166 G fu x0 m = some (r9, m9) → (Ty E G x0 11) → ∀ (H : Heap) (locs : List Loc), Hp E G m s H locs → ∀ ls : Array Slot, lv_has ls 1 [(0, .ref x0)] → W p l e rmX11_readEnum s mth args below meth c H locs 0 0 (MQ below (cQv E G m9) args s 0 0 (fun q => E.2.2.1 ≤ q)) (F0 mth 166 ls []) := by
  intro fu
  induction fu with
  | zero =>
    intro x0 m hM
    rw [B_X11_readEnum_166] at hM
    cases hM
  | succ fu ih =>
    intro x0 m hM tx0 H locs h ls hl
    rw [B_X11_readEnum_166] at hM
    refine lv_aload_n C.1 C.2.1 dX11_readEnum_166 rfl (lv_at hl 0 rfl) ?_
    obtain ⟨r_21, m_22, hc_21, hM⟩ := bd_some hM
    refine h_callVi C h (As := []) (rest := []) (bz r_21) m_22 (c_X11_isGood hc_21 tx0) 11 rfl (by decide) tx0 im_yX11_isGood se_yX11_isGood cy_X11_isGood rfl ml_X11_249 ⟨by decide, by decide⟩ ⟨Nat.zero_le _, Nat.zero_le _⟩ hl.1 rfl (Nat.le_of_ble_eq_true rfl) dX11_readEnum_167 (fun H locs h => ?_)
    refine h_ifz (tgt := 193) C.1 C.2.1 dX11_readEnum_170 (by decide) (fun q => ?_) (fun q => ?_)
    · have hM := ite_f q hM
      exact cB_X11_readEnum_193 C hM tx0 _ _ h ls (lv_sub hl [0] rfl)
    · have hM := ite_t q hM
      refine lv_aload_n C.1 C.2.1 dX11_readEnum_173 rfl (lv_at hl 0 rfl) ?_
      refine lv_bipush (v := 44) C.1 C.2.1 dX11_readEnum_174 (by decide) ?_
      obtain ⟨r_23, m_24, hc_23, hM⟩ := bd_some hM
      refine h_callVi C h (As := [.int 44]) (rest := []) (bz r_23) m_24 (c_X11_isAt hc_23 tx0) 11 rfl (by decide) tx0 im_yX11_isAt se_yX11_isAt cy_X11_isAt rfl ml_X11_253 ⟨by decide, by decide⟩ ⟨Nat.zero_le _, Nat.zero_le _⟩ hl.1 rfl (Nat.le_of_ble_eq_true rfl) dX11_readEnum_176 (fun H locs h => ?_)
      refine h_ifz (tgt := 193) C.1 C.2.1 dX11_readEnum_179 (by decide) (fun q => ?_) (fun q => ?_)
      · have hM := ite_f q hM
        exact cB_X11_readEnum_193 C hM tx0 _ _ h ls (lv_sub hl [0] rfl)
      · have hM := ite_t q hM
        refine lv_aload_n C.1 C.2.1 dX11_readEnum_182 rfl (lv_at hl 0 rfl) ?_
        obtain ⟨r_25, m_26, hc_25, hM⟩ := bd_some hM
        refine h_callVv C h (As := []) (rest := []) m_26 (c_X11_next hc_25 tx0) 11 rfl (by decide) tx0 im_yX11_next se_yX11_next cy_X11_next rfl ml_X11_256 ⟨by decide, by decide⟩ ⟨Nat.zero_le _, Nat.zero_le _⟩ hl.1 rfl (Nat.le_of_ble_eq_true rfl) dX11_readEnum_183 (fun H locs h => ?_)
        refine lv_aload_n C.1 C.2.1 dX11_readEnum_186 rfl (lv_at hl 0 rfl) ?_
        obtain ⟨r_27, m_28, hc_27, hM⟩ := bd_some hM
        refine h_callVv C h (As := []) (rest := []) m_28 (c_X11_readConst hc_27 tx0) 11 rfl (by decide) tx0 im_yX11_readConst se_yX11_readConst cy_X11_readConst rfl ml_X11_272 ⟨by decide, by decide⟩ ⟨Nat.zero_le _, Nat.zero_le _⟩ hl.1 rfl (Nat.le_of_ble_eq_true rfl) dX11_readEnum_187 (fun H locs h => ?_)
        refine lv_goto (tgt := 166) C.1 C.2.1 dX11_readEnum_190 (by decide) ?_
        exact ih _ _ hM tx0 _ _ h ls (lv_sub hl [0] rfl)
def M_X11_readEnum (G : GG) (x0 : Nat) (m : MM) : Option (Unit × MM) :=
  if (gI m x0 44) = 1 then
    nb (gR m x0 6) fun b_31 =>
      ib (gI m x0 4) (G.2.2 b_31) <|
        if (gI m b_31 ((gI m x0 4).toNatClampNeg)) = 8 then
          bd (M_X11_stop G x0 m) fun _ m_49 =>
            some ((), m_49)
        else
          ib (gI m x0 4) (G.2.2 b_31) <|
            nb (gR (sI m x0 48 ((8 * (gI m x0 4)) + (gI m b_31 ((gI m x0 4).toNatClampNeg)))) x0 7) fun b_32 =>
              ib (gI (sI m x0 48 ((8 * (gI m x0 4)) + (gI m b_31 ((gI m x0 4).toNatClampNeg)))) x0 48) (G.2.2 b_32) <|
                nb (gR (sI (sI m x0 48 ((8 * (gI m x0 4)) + (gI m b_31 ((gI m x0 4).toNatClampNeg)))) b_32 ((gI (sI m x0 48 ((8 * (gI m x0 4)) + (gI m b_31 ((gI m x0 4).toNatClampNeg)))) x0 48).toNatClampNeg) (gI (sI m x0 48 ((8 * (gI m x0 4)) + (gI m b_31 ((gI m x0 4).toNatClampNeg)))) x0 42)) x0 8) fun b_33 =>
                  ib (gI (sI (sI m x0 48 ((8 * (gI m x0 4)) + (gI m b_31 ((gI m x0 4).toNatClampNeg)))) b_32 ((gI (sI m x0 48 ((8 * (gI m x0 4)) + (gI m b_31 ((gI m x0 4).toNatClampNeg)))) x0 48).toNatClampNeg) (gI (sI m x0 48 ((8 * (gI m x0 4)) + (gI m b_31 ((gI m x0 4).toNatClampNeg)))) x0 42)) x0 48) (G.2.2 b_33) <|
                    nb (gR (sI (sI (sI m x0 48 ((8 * (gI m x0 4)) + (gI m b_31 ((gI m x0 4).toNatClampNeg)))) b_32 ((gI (sI m x0 48 ((8 * (gI m x0 4)) + (gI m b_31 ((gI m x0 4).toNatClampNeg)))) x0 48).toNatClampNeg) (gI (sI m x0 48 ((8 * (gI m x0 4)) + (gI m b_31 ((gI m x0 4).toNatClampNeg)))) x0 42)) b_33 ((gI (sI (sI m x0 48 ((8 * (gI m x0 4)) + (gI m b_31 ((gI m x0 4).toNatClampNeg)))) b_32 ((gI (sI m x0 48 ((8 * (gI m x0 4)) + (gI m b_31 ((gI m x0 4).toNatClampNeg)))) x0 48).toNatClampNeg) (gI (sI m x0 48 ((8 * (gI m x0 4)) + (gI m b_31 ((gI m x0 4).toNatClampNeg)))) x0 42)) x0 48).toNatClampNeg) (gI (sI (sI m x0 48 ((8 * (gI m x0 4)) + (gI m b_31 ((gI m x0 4).toNatClampNeg)))) b_32 ((gI (sI m x0 48 ((8 * (gI m x0 4)) + (gI m b_31 ((gI m x0 4).toNatClampNeg)))) x0 48).toNatClampNeg) (gI (sI m x0 48 ((8 * (gI m x0 4)) + (gI m b_31 ((gI m x0 4).toNatClampNeg)))) x0 42)) x0 43)) x0 9) fun b_34 =>
                      ib (gI (sI (sI (sI m x0 48 ((8 * (gI m x0 4)) + (gI m b_31 ((gI m x0 4).toNatClampNeg)))) b_32 ((gI (sI m x0 48 ((8 * (gI m x0 4)) + (gI m b_31 ((gI m x0 4).toNatClampNeg)))) x0 48).toNatClampNeg) (gI (sI m x0 48 ((8 * (gI m x0 4)) + (gI m b_31 ((gI m x0 4).toNatClampNeg)))) x0 42)) b_33 ((gI (sI (sI m x0 48 ((8 * (gI m x0 4)) + (gI m b_31 ((gI m x0 4).toNatClampNeg)))) b_32 ((gI (sI m x0 48 ((8 * (gI m x0 4)) + (gI m b_31 ((gI m x0 4).toNatClampNeg)))) x0 48).toNatClampNeg) (gI (sI m x0 48 ((8 * (gI m x0 4)) + (gI m b_31 ((gI m x0 4).toNatClampNeg)))) x0 42)) x0 48).toNatClampNeg) (gI (sI (sI m x0 48 ((8 * (gI m x0 4)) + (gI m b_31 ((gI m x0 4).toNatClampNeg)))) b_32 ((gI (sI m x0 48 ((8 * (gI m x0 4)) + (gI m b_31 ((gI m x0 4).toNatClampNeg)))) x0 48).toNatClampNeg) (gI (sI m x0 48 ((8 * (gI m x0 4)) + (gI m b_31 ((gI m x0 4).toNatClampNeg)))) x0 42)) x0 43)) x0 48) (G.2.2 b_34) <|
                        nb (gR (sI (sI (sI (sI m x0 48 ((8 * (gI m x0 4)) + (gI m b_31 ((gI m x0 4).toNatClampNeg)))) b_32 ((gI (sI m x0 48 ((8 * (gI m x0 4)) + (gI m b_31 ((gI m x0 4).toNatClampNeg)))) x0 48).toNatClampNeg) (gI (sI m x0 48 ((8 * (gI m x0 4)) + (gI m b_31 ((gI m x0 4).toNatClampNeg)))) x0 42)) b_33 ((gI (sI (sI m x0 48 ((8 * (gI m x0 4)) + (gI m b_31 ((gI m x0 4).toNatClampNeg)))) b_32 ((gI (sI m x0 48 ((8 * (gI m x0 4)) + (gI m b_31 ((gI m x0 4).toNatClampNeg)))) x0 48).toNatClampNeg) (gI (sI m x0 48 ((8 * (gI m x0 4)) + (gI m b_31 ((gI m x0 4).toNatClampNeg)))) x0 42)) x0 48).toNatClampNeg) (gI (sI (sI m x0 48 ((8 * (gI m x0 4)) + (gI m b_31 ((gI m x0 4).toNatClampNeg)))) b_32 ((gI (sI m x0 48 ((8 * (gI m x0 4)) + (gI m b_31 ((gI m x0 4).toNatClampNeg)))) x0 48).toNatClampNeg) (gI (sI m x0 48 ((8 * (gI m x0 4)) + (gI m b_31 ((gI m x0 4).toNatClampNeg)))) x0 42)) x0 43)) b_34 ((gI (sI (sI (sI m x0 48 ((8 * (gI m x0 4)) + (gI m b_31 ((gI m x0 4).toNatClampNeg)))) b_32 ((gI (sI m x0 48 ((8 * (gI m x0 4)) + (gI m b_31 ((gI m x0 4).toNatClampNeg)))) x0 48).toNatClampNeg) (gI (sI m x0 48 ((8 * (gI m x0 4)) + (gI m b_31 ((gI m x0 4).toNatClampNeg)))) x0 42)) b_33 ((gI (sI (sI m x0 48 ((8 * (gI m x0 4)) + (gI m b_31 ((gI m x0 4).toNatClampNeg)))) b_32 ((gI (sI m x0 48 ((8 * (gI m x0 4)) + (gI m b_31 ((gI m x0 4).toNatClampNeg)))) x0 48).toNatClampNeg) (gI (sI m x0 48 ((8 * (gI m x0 4)) + (gI m b_31 ((gI m x0 4).toNatClampNeg)))) x0 42)) x0 48).toNatClampNeg) (gI (sI (sI m x0 48 ((8 * (gI m x0 4)) + (gI m b_31 ((gI m x0 4).toNatClampNeg)))) b_32 ((gI (sI m x0 48 ((8 * (gI m x0 4)) + (gI m b_31 ((gI m x0 4).toNatClampNeg)))) x0 48).toNatClampNeg) (gI (sI m x0 48 ((8 * (gI m x0 4)) + (gI m b_31 ((gI m x0 4).toNatClampNeg)))) x0 42)) x0 43)) x0 48).toNatClampNeg) 0) x0 10) fun b_35 =>
                          ib (gI (sI (sI (sI (sI m x0 48 ((8 * (gI m x0 4)) + (gI m b_31 ((gI m x0 4).toNatClampNeg)))) b_32 ((gI (sI m x0 48 ((8 * (gI m x0 4)) + (gI m b_31 ((gI m x0 4).toNatClampNeg)))) x0 48).toNatClampNeg) (gI (sI m x0 48 ((8 * (gI m x0 4)) + (gI m b_31 ((gI m x0 4).toNatClampNeg)))) x0 42)) b_33 ((gI (sI (sI m x0 48 ((8 * (gI m x0 4)) + (gI m b_31 ((gI m x0 4).toNatClampNeg)))) b_32 ((gI (sI m x0 48 ((8 * (gI m x0 4)) + (gI m b_31 ((gI m x0 4).toNatClampNeg)))) x0 48).toNatClampNeg) (gI (sI m x0 48 ((8 * (gI m x0 4)) + (gI m b_31 ((gI m x0 4).toNatClampNeg)))) x0 42)) x0 48).toNatClampNeg) (gI (sI (sI m x0 48 ((8 * (gI m x0 4)) + (gI m b_31 ((gI m x0 4).toNatClampNeg)))) b_32 ((gI (sI m x0 48 ((8 * (gI m x0 4)) + (gI m b_31 ((gI m x0 4).toNatClampNeg)))) x0 48).toNatClampNeg) (gI (sI m x0 48 ((8 * (gI m x0 4)) + (gI m b_31 ((gI m x0 4).toNatClampNeg)))) x0 42)) x0 43)) b_34 ((gI (sI (sI (sI m x0 48 ((8 * (gI m x0 4)) + (gI m b_31 ((gI m x0 4).toNatClampNeg)))) b_32 ((gI (sI m x0 48 ((8 * (gI m x0 4)) + (gI m b_31 ((gI m x0 4).toNatClampNeg)))) x0 48).toNatClampNeg) (gI (sI m x0 48 ((8 * (gI m x0 4)) + (gI m b_31 ((gI m x0 4).toNatClampNeg)))) x0 42)) b_33 ((gI (sI (sI m x0 48 ((8 * (gI m x0 4)) + (gI m b_31 ((gI m x0 4).toNatClampNeg)))) b_32 ((gI (sI m x0 48 ((8 * (gI m x0 4)) + (gI m b_31 ((gI m x0 4).toNatClampNeg)))) x0 48).toNatClampNeg) (gI (sI m x0 48 ((8 * (gI m x0 4)) + (gI m b_31 ((gI m x0 4).toNatClampNeg)))) x0 42)) x0 48).toNatClampNeg) (gI (sI (sI m x0 48 ((8 * (gI m x0 4)) + (gI m b_31 ((gI m x0 4).toNatClampNeg)))) b_32 ((gI (sI m x0 48 ((8 * (gI m x0 4)) + (gI m b_31 ((gI m x0 4).toNatClampNeg)))) x0 48).toNatClampNeg) (gI (sI m x0 48 ((8 * (gI m x0 4)) + (gI m b_31 ((gI m x0 4).toNatClampNeg)))) x0 42)) x0 43)) x0 48).toNatClampNeg) 0) x0 48) (G.2.2 b_35) <|
                            nb (gR (sI (sI (sI (sI (sI m x0 48 ((8 * (gI m x0 4)) + (gI m b_31 ((gI m x0 4).toNatClampNeg)))) b_32 ((gI (sI m x0 48 ((8 * (gI m x0 4)) + (gI m b_31 ((gI m x0 4).toNatClampNeg)))) x0 48).toNatClampNeg) (gI (sI m x0 48 ((8 * (gI m x0 4)) + (gI m b_31 ((gI m x0 4).toNatClampNeg)))) x0 42)) b_33 ((gI (sI (sI m x0 48 ((8 * (gI m x0 4)) + (gI m b_31 ((gI m x0 4).toNatClampNeg)))) b_32 ((gI (sI m x0 48 ((8 * (gI m x0 4)) + (gI m b_31 ((gI m x0 4).toNatClampNeg)))) x0 48).toNatClampNeg) (gI (sI m x0 48 ((8 * (gI m x0 4)) + (gI m b_31 ((gI m x0 4).toNatClampNeg)))) x0 42)) x0 48).toNatClampNeg) (gI (sI (sI m x0 48 ((8 * (gI m x0 4)) + (gI m b_31 ((gI m x0 4).toNatClampNeg)))) b_32 ((gI (sI m x0 48 ((8 * (gI m x0 4)) + (gI m b_31 ((gI m x0 4).toNatClampNeg)))) x0 48).toNatClampNeg) (gI (sI m x0 48 ((8 * (gI m x0 4)) + (gI m b_31 ((gI m x0 4).toNatClampNeg)))) x0 42)) x0 43)) b_34 ((gI (sI (sI (sI m x0 48 ((8 * (gI m x0 4)) + (gI m b_31 ((gI m x0 4).toNatClampNeg)))) b_32 ((gI (sI m x0 48 ((8 * (gI m x0 4)) + (gI m b_31 ((gI m x0 4).toNatClampNeg)))) x0 48).toNatClampNeg) (gI (sI m x0 48 ((8 * (gI m x0 4)) + (gI m b_31 ((gI m x0 4).toNatClampNeg)))) x0 42)) b_33 ((gI (sI (sI m x0 48 ((8 * (gI m x0 4)) + (gI m b_31 ((gI m x0 4).toNatClampNeg)))) b_32 ((gI (sI m x0 48 ((8 * (gI m x0 4)) + (gI m b_31 ((gI m x0 4).toNatClampNeg)))) x0 48).toNatClampNeg) (gI (sI m x0 48 ((8 * (gI m x0 4)) + (gI m b_31 ((gI m x0 4).toNatClampNeg)))) x0 42)) x0 48).toNatClampNeg) (gI (sI (sI m x0 48 ((8 * (gI m x0 4)) + (gI m b_31 ((gI m x0 4).toNatClampNeg)))) b_32 ((gI (sI m x0 48 ((8 * (gI m x0 4)) + (gI m b_31 ((gI m x0 4).toNatClampNeg)))) x0 48).toNatClampNeg) (gI (sI m x0 48 ((8 * (gI m x0 4)) + (gI m b_31 ((gI m x0 4).toNatClampNeg)))) x0 42)) x0 43)) x0 48).toNatClampNeg) 0) b_35 ((gI (sI (sI (sI (sI m x0 48 ((8 * (gI m x0 4)) + (gI m b_31 ((gI m x0 4).toNatClampNeg)))) b_32 ((gI (sI m x0 48 ((8 * (gI m x0 4)) + (gI m b_31 ((gI m x0 4).toNatClampNeg)))) x0 48).toNatClampNeg) (gI (sI m x0 48 ((8 * (gI m x0 4)) + (gI m b_31 ((gI m x0 4).toNatClampNeg)))) x0 42)) b_33 ((gI (sI (sI m x0 48 ((8 * (gI m x0 4)) + (gI m b_31 ((gI m x0 4).toNatClampNeg)))) b_32 ((gI (sI m x0 48 ((8 * (gI m x0 4)) + (gI m b_31 ((gI m x0 4).toNatClampNeg)))) x0 48).toNatClampNeg) (gI (sI m x0 48 ((8 * (gI m x0 4)) + (gI m b_31 ((gI m x0 4).toNatClampNeg)))) x0 42)) x0 48).toNatClampNeg) (gI (sI (sI m x0 48 ((8 * (gI m x0 4)) + (gI m b_31 ((gI m x0 4).toNatClampNeg)))) b_32 ((gI (sI m x0 48 ((8 * (gI m x0 4)) + (gI m b_31 ((gI m x0 4).toNatClampNeg)))) x0 48).toNatClampNeg) (gI (sI m x0 48 ((8 * (gI m x0 4)) + (gI m b_31 ((gI m x0 4).toNatClampNeg)))) x0 42)) x0 43)) b_34 ((gI (sI (sI (sI m x0 48 ((8 * (gI m x0 4)) + (gI m b_31 ((gI m x0 4).toNatClampNeg)))) b_32 ((gI (sI m x0 48 ((8 * (gI m x0 4)) + (gI m b_31 ((gI m x0 4).toNatClampNeg)))) x0 48).toNatClampNeg) (gI (sI m x0 48 ((8 * (gI m x0 4)) + (gI m b_31 ((gI m x0 4).toNatClampNeg)))) x0 42)) b_33 ((gI (sI (sI m x0 48 ((8 * (gI m x0 4)) + (gI m b_31 ((gI m x0 4).toNatClampNeg)))) b_32 ((gI (sI m x0 48 ((8 * (gI m x0 4)) + (gI m b_31 ((gI m x0 4).toNatClampNeg)))) x0 48).toNatClampNeg) (gI (sI m x0 48 ((8 * (gI m x0 4)) + (gI m b_31 ((gI m x0 4).toNatClampNeg)))) x0 42)) x0 48).toNatClampNeg) (gI (sI (sI m x0 48 ((8 * (gI m x0 4)) + (gI m b_31 ((gI m x0 4).toNatClampNeg)))) b_32 ((gI (sI m x0 48 ((8 * (gI m x0 4)) + (gI m b_31 ((gI m x0 4).toNatClampNeg)))) x0 48).toNatClampNeg) (gI (sI m x0 48 ((8 * (gI m x0 4)) + (gI m b_31 ((gI m x0 4).toNatClampNeg)))) x0 42)) x0 43)) x0 48).toNatClampNeg) 0) x0 48).toNatClampNeg) 0) x0 11) fun b_36 =>
                              ib (gI (sI (sI (sI (sI (sI m x0 48 ((8 * (gI m x0 4)) + (gI m b_31 ((gI m x0 4).toNatClampNeg)))) b_32 ((gI (sI m x0 48 ((8 * (gI m x0 4)) + (gI m b_31 ((gI m x0 4).toNatClampNeg)))) x0 48).toNatClampNeg) (gI (sI m x0 48 ((8 * (gI m x0 4)) + (gI m b_31 ((gI m x0 4).toNatClampNeg)))) x0 42)) b_33 ((gI (sI (sI m x0 48 ((8 * (gI m x0 4)) + (gI m b_31 ((gI m x0 4).toNatClampNeg)))) b_32 ((gI (sI m x0 48 ((8 * (gI m x0 4)) + (gI m b_31 ((gI m x0 4).toNatClampNeg)))) x0 48).toNatClampNeg) (gI (sI m x0 48 ((8 * (gI m x0 4)) + (gI m b_31 ((gI m x0 4).toNatClampNeg)))) x0 42)) x0 48).toNatClampNeg) (gI (sI (sI m x0 48 ((8 * (gI m x0 4)) + (gI m b_31 ((gI m x0 4).toNatClampNeg)))) b_32 ((gI (sI m x0 48 ((8 * (gI m x0 4)) + (gI m b_31 ((gI m x0 4).toNatClampNeg)))) x0 48).toNatClampNeg) (gI (sI m x0 48 ((8 * (gI m x0 4)) + (gI m b_31 ((gI m x0 4).toNatClampNeg)))) x0 42)) x0 43)) b_34 ((gI (sI (sI (sI m x0 48 ((8 * (gI m x0 4)) + (gI m b_31 ((gI m x0 4).toNatClampNeg)))) b_32 ((gI (sI m x0 48 ((8 * (gI m x0 4)) + (gI m b_31 ((gI m x0 4).toNatClampNeg)))) x0 48).toNatClampNeg) (gI (sI m x0 48 ((8 * (gI m x0 4)) + (gI m b_31 ((gI m x0 4).toNatClampNeg)))) x0 42)) b_33 ((gI (sI (sI m x0 48 ((8 * (gI m x0 4)) + (gI m b_31 ((gI m x0 4).toNatClampNeg)))) b_32 ((gI (sI m x0 48 ((8 * (gI m x0 4)) + (gI m b_31 ((gI m x0 4).toNatClampNeg)))) x0 48).toNatClampNeg) (gI (sI m x0 48 ((8 * (gI m x0 4)) + (gI m b_31 ((gI m x0 4).toNatClampNeg)))) x0 42)) x0 48).toNatClampNeg) (gI (sI (sI m x0 48 ((8 * (gI m x0 4)) + (gI m b_31 ((gI m x0 4).toNatClampNeg)))) b_32 ((gI (sI m x0 48 ((8 * (gI m x0 4)) + (gI m b_31 ((gI m x0 4).toNatClampNeg)))) x0 48).toNatClampNeg) (gI (sI m x0 48 ((8 * (gI m x0 4)) + (gI m b_31 ((gI m x0 4).toNatClampNeg)))) x0 42)) x0 43)) x0 48).toNatClampNeg) 0) b_35 ((gI (sI (sI (sI (sI m x0 48 ((8 * (gI m x0 4)) + (gI m b_31 ((gI m x0 4).toNatClampNeg)))) b_32 ((gI (sI m x0 48 ((8 * (gI m x0 4)) + (gI m b_31 ((gI m x0 4).toNatClampNeg)))) x0 48).toNatClampNeg) (gI (sI m x0 48 ((8 * (gI m x0 4)) + (gI m b_31 ((gI m x0 4).toNatClampNeg)))) x0 42)) b_33 ((gI (sI (sI m x0 48 ((8 * (gI m x0 4)) + (gI m b_31 ((gI m x0 4).toNatClampNeg)))) b_32 ((gI (sI m x0 48 ((8 * (gI m x0 4)) + (gI m b_31 ((gI m x0 4).toNatClampNeg)))) x0 48).toNatClampNeg) (gI (sI m x0 48 ((8 * (gI m x0 4)) + (gI m b_31 ((gI m x0 4).toNatClampNeg)))) x0 42)) x0 48).toNatClampNeg) (gI (sI (sI m x0 48 ((8 * (gI m x0 4)) + (gI m b_31 ((gI m x0 4).toNatClampNeg)))) b_32 ((gI (sI m x0 48 ((8 * (gI m x0 4)) + (gI m b_31 ((gI m x0 4).toNatClampNeg)))) x0 48).toNatClampNeg) (gI (sI m x0 48 ((8 * (gI m x0 4)) + (gI m b_31 ((gI m x0 4).toNatClampNeg)))) x0 42)) x0 43)) b_34 ((gI (sI (sI (sI m x0 48 ((8 * (gI m x0 4)) + (gI m b_31 ((gI m x0 4).toNatClampNeg)))) b_32 ((gI (sI m x0 48 ((8 * (gI m x0 4)) + (gI m b_31 ((gI m x0 4).toNatClampNeg)))) x0 48).toNatClampNeg) (gI (sI m x0 48 ((8 * (gI m x0 4)) + (gI m b_31 ((gI m x0 4).toNatClampNeg)))) x0 42)) b_33 ((gI (sI (sI m x0 48 ((8 * (gI m x0 4)) + (gI m b_31 ((gI m x0 4).toNatClampNeg)))) b_32 ((gI (sI m x0 48 ((8 * (gI m x0 4)) + (gI m b_31 ((gI m x0 4).toNatClampNeg)))) x0 48).toNatClampNeg) (gI (sI m x0 48 ((8 * (gI m x0 4)) + (gI m b_31 ((gI m x0 4).toNatClampNeg)))) x0 42)) x0 48).toNatClampNeg) (gI (sI (sI m x0 48 ((8 * (gI m x0 4)) + (gI m b_31 ((gI m x0 4).toNatClampNeg)))) b_32 ((gI (sI m x0 48 ((8 * (gI m x0 4)) + (gI m b_31 ((gI m x0 4).toNatClampNeg)))) x0 48).toNatClampNeg) (gI (sI m x0 48 ((8 * (gI m x0 4)) + (gI m b_31 ((gI m x0 4).toNatClampNeg)))) x0 42)) x0 43)) x0 48).toNatClampNeg) 0) x0 48).toNatClampNeg) 0) x0 48) (G.2.2 b_36) <|
                                nb (gR (sI (sI (sI (sI (sI (sI m x0 48 ((8 * (gI m x0 4)) + (gI m b_31 ((gI m x0 4).toNatClampNeg)))) b_32 ((gI (sI m x0 48 ((8 * (gI m x0 4)) + (gI m b_31 ((gI m x0 4).toNatClampNeg)))) x0 48).toNatClampNeg) (gI (sI m x0 48 ((8 * (gI m x0 4)) + (gI m b_31 ((gI m x0 4).toNatClampNeg)))) x0 42)) b_33 ((gI (sI (sI m x0 48 ((8 * (gI m x0 4)) + (gI m b_31 ((gI m x0 4).toNatClampNeg)))) b_32 ((gI (sI m x0 48 ((8 * (gI m x0 4)) + (gI m b_31 ((gI m x0 4).toNatClampNeg)))) x0 48).toNatClampNeg) (gI (sI m x0 48 ((8 * (gI m x0 4)) + (gI m b_31 ((gI m x0 4).toNatClampNeg)))) x0 42)) x0 48).toNatClampNeg) (gI (sI (sI m x0 48 ((8 * (gI m x0 4)) + (gI m b_31 ((gI m x0 4).toNatClampNeg)))) b_32 ((gI (sI m x0 48 ((8 * (gI m x0 4)) + (gI m b_31 ((gI m x0 4).toNatClampNeg)))) x0 48).toNatClampNeg) (gI (sI m x0 48 ((8 * (gI m x0 4)) + (gI m b_31 ((gI m x0 4).toNatClampNeg)))) x0 42)) x0 43)) b_34 ((gI (sI (sI (sI m x0 48 ((8 * (gI m x0 4)) + (gI m b_31 ((gI m x0 4).toNatClampNeg)))) b_32 ((gI (sI m x0 48 ((8 * (gI m x0 4)) + (gI m b_31 ((gI m x0 4).toNatClampNeg)))) x0 48).toNatClampNeg) (gI (sI m x0 48 ((8 * (gI m x0 4)) + (gI m b_31 ((gI m x0 4).toNatClampNeg)))) x0 42)) b_33 ((gI (sI (sI m x0 48 ((8 * (gI m x0 4)) + (gI m b_31 ((gI m x0 4).toNatClampNeg)))) b_32 ((gI (sI m x0 48 ((8 * (gI m x0 4)) + (gI m b_31 ((gI m x0 4).toNatClampNeg)))) x0 48).toNatClampNeg) (gI (sI m x0 48 ((8 * (gI m x0 4)) + (gI m b_31 ((gI m x0 4).toNatClampNeg)))) x0 42)) x0 48).toNatClampNeg) (gI (sI (sI m x0 48 ((8 * (gI m x0 4)) + (gI m b_31 ((gI m x0 4).toNatClampNeg)))) b_32 ((gI (sI m x0 48 ((8 * (gI m x0 4)) + (gI m b_31 ((gI m x0 4).toNatClampNeg)))) x0 48).toNatClampNeg) (gI (sI m x0 48 ((8 * (gI m x0 4)) + (gI m b_31 ((gI m x0 4).toNatClampNeg)))) x0 42)) x0 43)) x0 48).toNatClampNeg) 0) b_35 ((gI (sI (sI (sI (sI m x0 48 ((8 * (gI m x0 4)) + (gI m b_31 ((gI m x0 4).toNatClampNeg)))) b_32 ((gI (sI m x0 48 ((8 * (gI m x0 4)) + (gI m b_31 ((gI m x0 4).toNatClampNeg)))) x0 48).toNatClampNeg) (gI (sI m x0 48 ((8 * (gI m x0 4)) + (gI m b_31 ((gI m x0 4).toNatClampNeg)))) x0 42)) b_33 ((gI (sI (sI m x0 48 ((8 * (gI m x0 4)) + (gI m b_31 ((gI m x0 4).toNatClampNeg)))) b_32 ((gI (sI m x0 48 ((8 * (gI m x0 4)) + (gI m b_31 ((gI m x0 4).toNatClampNeg)))) x0 48).toNatClampNeg) (gI (sI m x0 48 ((8 * (gI m x0 4)) + (gI m b_31 ((gI m x0 4).toNatClampNeg)))) x0 42)) x0 48).toNatClampNeg) (gI (sI (sI m x0 48 ((8 * (gI m x0 4)) + (gI m b_31 ((gI m x0 4).toNatClampNeg)))) b_32 ((gI (sI m x0 48 ((8 * (gI m x0 4)) + (gI m b_31 ((gI m x0 4).toNatClampNeg)))) x0 48).toNatClampNeg) (gI (sI m x0 48 ((8 * (gI m x0 4)) + (gI m b_31 ((gI m x0 4).toNatClampNeg)))) x0 42)) x0 43)) b_34 ((gI (sI (sI (sI m x0 48 ((8 * (gI m x0 4)) + (gI m b_31 ((gI m x0 4).toNatClampNeg)))) b_32 ((gI (sI m x0 48 ((8 * (gI m x0 4)) + (gI m b_31 ((gI m x0 4).toNatClampNeg)))) x0 48).toNatClampNeg) (gI (sI m x0 48 ((8 * (gI m x0 4)) + (gI m b_31 ((gI m x0 4).toNatClampNeg)))) x0 42)) b_33 ((gI (sI (sI m x0 48 ((8 * (gI m x0 4)) + (gI m b_31 ((gI m x0 4).toNatClampNeg)))) b_32 ((gI (sI m x0 48 ((8 * (gI m x0 4)) + (gI m b_31 ((gI m x0 4).toNatClampNeg)))) x0 48).toNatClampNeg) (gI (sI m x0 48 ((8 * (gI m x0 4)) + (gI m b_31 ((gI m x0 4).toNatClampNeg)))) x0 42)) x0 48).toNatClampNeg) (gI (sI (sI m x0 48 ((8 * (gI m x0 4)) + (gI m b_31 ((gI m x0 4).toNatClampNeg)))) b_32 ((gI (sI m x0 48 ((8 * (gI m x0 4)) + (gI m b_31 ((gI m x0 4).toNatClampNeg)))) x0 48).toNatClampNeg) (gI (sI m x0 48 ((8 * (gI m x0 4)) + (gI m b_31 ((gI m x0 4).toNatClampNeg)))) x0 42)) x0 43)) x0 48).toNatClampNeg) 0) x0 48).toNatClampNeg) 0) b_36 ((gI (sI (sI (sI (sI (sI m x0 48 ((8 * (gI m x0 4)) + (gI m b_31 ((gI m x0 4).toNatClampNeg)))) b_32 ((gI (sI m x0 48 ((8 * (gI m x0 4)) + (gI m b_31 ((gI m x0 4).toNatClampNeg)))) x0 48).toNatClampNeg) (gI (sI m x0 48 ((8 * (gI m x0 4)) + (gI m b_31 ((gI m x0 4).toNatClampNeg)))) x0 42)) b_33 ((gI (sI (sI m x0 48 ((8 * (gI m x0 4)) + (gI m b_31 ((gI m x0 4).toNatClampNeg)))) b_32 ((gI (sI m x0 48 ((8 * (gI m x0 4)) + (gI m b_31 ((gI m x0 4).toNatClampNeg)))) x0 48).toNatClampNeg) (gI (sI m x0 48 ((8 * (gI m x0 4)) + (gI m b_31 ((gI m x0 4).toNatClampNeg)))) x0 42)) x0 48).toNatClampNeg) (gI (sI (sI m x0 48 ((8 * (gI m x0 4)) + (gI m b_31 ((gI m x0 4).toNatClampNeg)))) b_32 ((gI (sI m x0 48 ((8 * (gI m x0 4)) + (gI m b_31 ((gI m x0 4).toNatClampNeg)))) x0 48).toNatClampNeg) (gI (sI m x0 48 ((8 * (gI m x0 4)) + (gI m b_31 ((gI m x0 4).toNatClampNeg)))) x0 42)) x0 43)) b_34 ((gI (sI (sI (sI m x0 48 ((8 * (gI m x0 4)) + (gI m b_31 ((gI m x0 4).toNatClampNeg)))) b_32 ((gI (sI m x0 48 ((8 * (gI m x0 4)) + (gI m b_31 ((gI m x0 4).toNatClampNeg)))) x0 48).toNatClampNeg) (gI (sI m x0 48 ((8 * (gI m x0 4)) + (gI m b_31 ((gI m x0 4).toNatClampNeg)))) x0 42)) b_33 ((gI (sI (sI m x0 48 ((8 * (gI m x0 4)) + (gI m b_31 ((gI m x0 4).toNatClampNeg)))) b_32 ((gI (sI m x0 48 ((8 * (gI m x0 4)) + (gI m b_31 ((gI m x0 4).toNatClampNeg)))) x0 48).toNatClampNeg) (gI (sI m x0 48 ((8 * (gI m x0 4)) + (gI m b_31 ((gI m x0 4).toNatClampNeg)))) x0 42)) x0 48).toNatClampNeg) (gI (sI (sI m x0 48 ((8 * (gI m x0 4)) + (gI m b_31 ((gI m x0 4).toNatClampNeg)))) b_32 ((gI (sI m x0 48 ((8 * (gI m x0 4)) + (gI m b_31 ((gI m x0 4).toNatClampNeg)))) x0 48).toNatClampNeg) (gI (sI m x0 48 ((8 * (gI m x0 4)) + (gI m b_31 ((gI m x0 4).toNatClampNeg)))) x0 42)) x0 43)) x0 48).toNatClampNeg) 0) b_35 ((gI (sI (sI (sI (sI m x0 48 ((8 * (gI m x0 4)) + (gI m b_31 ((gI m x0 4).toNatClampNeg)))) b_32 ((gI (sI m x0 48 ((8 * (gI m x0 4)) + (gI m b_31 ((gI m x0 4).toNatClampNeg)))) x0 48).toNatClampNeg) (gI (sI m x0 48 ((8 * (gI m x0 4)) + (gI m b_31 ((gI m x0 4).toNatClampNeg)))) x0 42)) b_33 ((gI (sI (sI m x0 48 ((8 * (gI m x0 4)) + (gI m b_31 ((gI m x0 4).toNatClampNeg)))) b_32 ((gI (sI m x0 48 ((8 * (gI m x0 4)) + (gI m b_31 ((gI m x0 4).toNatClampNeg)))) x0 48).toNatClampNeg) (gI (sI m x0 48 ((8 * (gI m x0 4)) + (gI m b_31 ((gI m x0 4).toNatClampNeg)))) x0 42)) x0 48).toNatClampNeg) (gI (sI (sI m x0 48 ((8 * (gI m x0 4)) + (gI m b_31 ((gI m x0 4).toNatClampNeg)))) b_32 ((gI (sI m x0 48 ((8 * (gI m x0 4)) + (gI m b_31 ((gI m x0 4).toNatClampNeg)))) x0 48).toNatClampNeg) (gI (sI m x0 48 ((8 * (gI m x0 4)) + (gI m b_31 ((gI m x0 4).toNatClampNeg)))) x0 42)) x0 43)) b_34 ((gI (sI (sI (sI m x0 48 ((8 * (gI m x0 4)) + (gI m b_31 ((gI m x0 4).toNatClampNeg)))) b_32 ((gI (sI m x0 48 ((8 * (gI m x0 4)) + (gI m b_31 ((gI m x0 4).toNatClampNeg)))) x0 48).toNatClampNeg) (gI (sI m x0 48 ((8 * (gI m x0 4)) + (gI m b_31 ((gI m x0 4).toNatClampNeg)))) x0 42)) b_33 ((gI (sI (sI m x0 48 ((8 * (gI m x0 4)) + (gI m b_31 ((gI m x0 4).toNatClampNeg)))) b_32 ((gI (sI m x0 48 ((8 * (gI m x0 4)) + (gI m b_31 ((gI m x0 4).toNatClampNeg)))) x0 48).toNatClampNeg) (gI (sI m x0 48 ((8 * (gI m x0 4)) + (gI m b_31 ((gI m x0 4).toNatClampNeg)))) x0 42)) x0 48).toNatClampNeg) (gI (sI (sI m x0 48 ((8 * (gI m x0 4)) + (gI m b_31 ((gI m x0 4).toNatClampNeg)))) b_32 ((gI (sI m x0 48 ((8 * (gI m x0 4)) + (gI m b_31 ((gI m x0 4).toNatClampNeg)))) x0 48).toNatClampNeg) (gI (sI m x0 48 ((8 * (gI m x0 4)) + (gI m b_31 ((gI m x0 4).toNatClampNeg)))) x0 42)) x0 43)) x0 48).toNatClampNeg) 0) x0 48).toNatClampNeg) 0) x0 48).toNatClampNeg) 0) x0 12) fun b_37 =>
                                  ib (gI (sI (sI (sI (sI (sI (sI m x0 48 ((8 * (gI m x0 4)) + (gI m b_31 ((gI m x0 4).toNatClampNeg)))) b_32 ((gI (sI m x0 48 ((8 * (gI m x0 4)) + (gI m b_31 ((gI m x0 4).toNatClampNeg)))) x0 48).toNatClampNeg) (gI (sI m x0 48 ((8 * (gI m x0 4)) + (gI m b_31 ((gI m x0 4).toNatClampNeg)))) x0 42)) b_33 ((gI (sI (sI m x0 48 ((8 * (gI m x0 4)) + (gI m b_31 ((gI m x0 4).toNatClampNeg)))) b_32 ((gI (sI m x0 48 ((8 * (gI m x0 4)) + (gI m b_31 ((gI m x0 4).toNatClampNeg)))) x0 48).toNatClampNeg) (gI (sI m x0 48 ((8 * (gI m x0 4)) + (gI m b_31 ((gI m x0 4).toNatClampNeg)))) x0 42)) x0 48).toNatClampNeg) (gI (sI (sI m x0 48 ((8 * (gI m x0 4)) + (gI m b_31 ((gI m x0 4).toNatClampNeg)))) b_32 ((gI (sI m x0 48 ((8 * (gI m x0 4)) + (gI m b_31 ((gI m x0 4).toNatClampNeg)))) x0 48).toNatClampNeg) (gI (sI m x0 48 ((8 * (gI m x0 4)) + (gI m b_31 ((gI m x0 4).toNatClampNeg)))) x0 42)) x0 43)) b_34 ((gI (sI (sI (sI m x0 48 ((8 * (gI m x0 4)) + (gI m b_31 ((gI m x0 4).toNatClampNeg)))) b_32 ((gI (sI m x0 48 ((8 * (gI m x0 4)) + (gI m b_31 ((gI m x0 4).toNatClampNeg)))) x0 48).toNatClampNeg) (gI (sI m x0 48 ((8 * (gI m x0 4)) + (gI m b_31 ((gI m x0 4).toNatClampNeg)))) x0 42)) b_33 ((gI (sI (sI m x0 48 ((8 * (gI m x0 4)) + (gI m b_31 ((gI m x0 4).toNatClampNeg)))) b_32 ((gI (sI m x0 48 ((8 * (gI m x0 4)) + (gI m b_31 ((gI m x0 4).toNatClampNeg)))) x0 48).toNatClampNeg) (gI (sI m x0 48 ((8 * (gI m x0 4)) + (gI m b_31 ((gI m x0 4).toNatClampNeg)))) x0 42)) x0 48).toNatClampNeg) (gI (sI (sI m x0 48 ((8 * (gI m x0 4)) + (gI m b_31 ((gI m x0 4).toNatClampNeg)))) b_32 ((gI (sI m x0 48 ((8 * (gI m x0 4)) + (gI m b_31 ((gI m x0 4).toNatClampNeg)))) x0 48).toNatClampNeg) (gI (sI m x0 48 ((8 * (gI m x0 4)) + (gI m b_31 ((gI m x0 4).toNatClampNeg)))) x0 42)) x0 43)) x0 48).toNatClampNeg) 0) b_35 ((gI (sI (sI (sI (sI m x0 48 ((8 * (gI m x0 4)) + (gI m b_31 ((gI m x0 4).toNatClampNeg)))) b_32 ((gI (sI m x0 48 ((8 * (gI m x0 4)) + (gI m b_31 ((gI m x0 4).toNatClampNeg)))) x0 48).toNatClampNeg) (gI (sI m x0 48 ((8 * (gI m x0 4)) + (gI m b_31 ((gI m x0 4).toNatClampNeg)))) x0 42)) b_33 ((gI (sI (sI m x0 48 ((8 * (gI m x0 4)) + (gI m b_31 ((gI m x0 4).toNatClampNeg)))) b_32 ((gI (sI m x0 48 ((8 * (gI m x0 4)) + (gI m b_31 ((gI m x0 4).toNatClampNeg)))) x0 48).toNatClampNeg) (gI (sI m x0 48 ((8 * (gI m x0 4)) + (gI m b_31 ((gI m x0 4).toNatClampNeg)))) x0 42)) x0 48).toNatClampNeg) (gI (sI (sI m x0 48 ((8 * (gI m x0 4)) + (gI m b_31 ((gI m x0 4).toNatClampNeg)))) b_32 ((gI (sI m x0 48 ((8 * (gI m x0 4)) + (gI m b_31 ((gI m x0 4).toNatClampNeg)))) x0 48).toNatClampNeg) (gI (sI m x0 48 ((8 * (gI m x0 4)) + (gI m b_31 ((gI m x0 4).toNatClampNeg)))) x0 42)) x0 43)) b_34 ((gI (sI (sI (sI m x0 48 ((8 * (gI m x0 4)) + (gI m b_31 ((gI m x0 4).toNatClampNeg)))) b_32 ((gI (sI m x0 48 ((8 * (gI m x0 4)) + (gI m b_31 ((gI m x0 4).toNatClampNeg)))) x0 48).toNatClampNeg) (gI (sI m x0 48 ((8 * (gI m x0 4)) + (gI m b_31 ((gI m x0 4).toNatClampNeg)))) x0 42)) b_33 ((gI (sI (sI m x0 48 ((8 * (gI m x0 4)) + (gI m b_31 ((gI m x0 4).toNatClampNeg)))) b_32 ((gI (sI m x0 48 ((8 * (gI m x0 4)) + (gI m b_31 ((gI m x0 4).toNatClampNeg)))) x0 48).toNatClampNeg) (gI (sI m x0 48 ((8 * (gI m x0 4)) + (gI m b_31 ((gI m x0 4).toNatClampNeg)))) x0 42)) x0 48).toNatClampNeg) (gI (sI (sI m x0 48 ((8 * (gI m x0 4)) + (gI m b_31 ((gI m x0 4).toNatClampNeg)))) b_32 ((gI (sI m x0 48 ((8 * (gI m x0 4)) + (gI m b_31 ((gI m x0 4).toNatClampNeg)))) x0 48).toNatClampNeg) (gI (sI m x0 48 ((8 * (gI m x0 4)) + (gI m b_31 ((gI m x0 4).toNatClampNeg)))) x0 42)) x0 43)) x0 48).toNatClampNeg) 0) x0 48).toNatClampNeg) 0) b_36 ((gI (sI (sI (sI (sI (sI m x0 48 ((8 * (gI m x0 4)) + (gI m b_31 ((gI m x0 4).toNatClampNeg)))) b_32 ((gI (sI m x0 48 ((8 * (gI m x0 4)) + (gI m b_31 ((gI m x0 4).toNatClampNeg)))) x0 48).toNatClampNeg) (gI (sI m x0 48 ((8 * (gI m x0 4)) + (gI m b_31 ((gI m x0 4).toNatClampNeg)))) x0 42)) b_33 ((gI (sI (sI m x0 48 ((8 * (gI m x0 4)) + (gI m b_31 ((gI m x0 4).toNatClampNeg)))) b_32 ((gI (sI m x0 48 ((8 * (gI m x0 4)) + (gI m b_31 ((gI m x0 4).toNatClampNeg)))) x0 48).toNatClampNeg) (gI (sI m x0 48 ((8 * (gI m x0 4)) + (gI m b_31 ((gI m x0 4).toNatClampNeg)))) x0 42)) x0 48).toNatClampNeg) (gI (sI (sI m x0 48 ((8 * (gI m x0 4)) + (gI m b_31 ((gI m x0 4).toNatClampNeg)))) b_32 ((gI (sI m x0 48 ((8 * (gI m x0 4)) + (gI m b_31 ((gI m x0 4).toNatClampNeg)))) x0 48).toNatClampNeg) (gI (sI m x0 48 ((8 * (gI m x0 4)) + (gI m b_31 ((gI m x0 4).toNatClampNeg)))) x0 42)) x0 43)) b_34 ((gI (sI (sI (sI m x0 48 ((8 * (gI m x0 4)) + (gI m b_31 ((gI m x0 4).toNatClampNeg)))) b_32 ((gI (sI m x0 48 ((8 * (gI m x0 4)) + (gI m b_31 ((gI m x0 4).toNatClampNeg)))) x0 48).toNatClampNeg) (gI (sI m x0 48 ((8 * (gI m x0 4)) + (gI m b_31 ((gI m x0 4).toNatClampNeg)))) x0 42)) b_33 ((gI (sI (sI m x0 48 ((8 * (gI m x0 4)) + (gI m b_31 ((gI m x0 4).toNatClampNeg)))) b_32 ((gI (sI m x0 48 ((8 * (gI m x0 4)) + (gI m b_31 ((gI m x0 4).toNatClampNeg)))) x0 48).toNatClampNeg) (gI (sI m x0 48 ((8 * (gI m x0 4)) + (gI m b_31 ((gI m x0 4).toNatClampNeg)))) x0 42)) x0 48).toNatClampNeg) (gI (sI (sI m x0 48 ((8 * (gI m x0 4)) + (gI m b_31 ((gI m x0 4).toNatClampNeg)))) b_32 ((gI (sI m x0 48 ((8 * (gI m x0 4)) + (gI m b_31 ((gI m x0 4).toNatClampNeg)))) x0 48).toNatClampNeg) (gI (sI m x0 48 ((8 * (gI m x0 4)) + (gI m b_31 ((gI m x0 4).toNatClampNeg)))) x0 42)) x0 43)) x0 48).toNatClampNeg) 0) b_35 ((gI (sI (sI (sI (sI m x0 48 ((8 * (gI m x0 4)) + (gI m b_31 ((gI m x0 4).toNatClampNeg)))) b_32 ((gI (sI m x0 48 ((8 * (gI m x0 4)) + (gI m b_31 ((gI m x0 4).toNatClampNeg)))) x0 48).toNatClampNeg) (gI (sI m x0 48 ((8 * (gI m x0 4)) + (gI m b_31 ((gI m x0 4).toNatClampNeg)))) x0 42)) b_33 ((gI (sI (sI m x0 48 ((8 * (gI m x0 4)) + (gI m b_31 ((gI m x0 4).toNatClampNeg)))) b_32 ((gI (sI m x0 48 ((8 * (gI m x0 4)) + (gI m b_31 ((gI m x0 4).toNatClampNeg)))) x0 48).toNatClampNeg) (gI (sI m x0 48 ((8 * (gI m x0 4)) + (gI m b_31 ((gI m x0 4).toNatClampNeg)))) x0 42)) x0 48).toNatClampNeg) (gI (sI (sI m x0 48 ((8 * (gI m x0 4)) + (gI m b_31 ((gI m x0 4).toNatClampNeg)))) b_32 ((gI (sI m x0 48 ((8 * (gI m x0 4)) + (gI m b_31 ((gI m x0 4).toNatClampNeg)))) x0 48).toNatClampNeg) (gI (sI m x0 48 ((8 * (gI m x0 4)) + (gI m b_31 ((gI m x0 4).toNatClampNeg)))) x0 42)) x0 43)) b_34 ((gI (sI (sI (sI m x0 48 ((8 * (gI m x0 4)) + (gI m b_31 ((gI m x0 4).toNatClampNeg)))) b_32 ((gI (sI m x0 48 ((8 * (gI m x0 4)) + (gI m b_31 ((gI m x0 4).toNatClampNeg)))) x0 48).toNatClampNeg) (gI (sI m x0 48 ((8 * (gI m x0 4)) + (gI m b_31 ((gI m x0 4).toNatClampNeg)))) x0 42)) b_33 ((gI (sI (sI m x0 48 ((8 * (gI m x0 4)) + (gI m b_31 ((gI m x0 4).toNatClampNeg)))) b_32 ((gI (sI m x0 48 ((8 * (gI m x0 4)) + (gI m b_31 ((gI m x0 4).toNatClampNeg)))) x0 48).toNatClampNeg) (gI (sI m x0 48 ((8 * (gI m x0 4)) + (gI m b_31 ((gI m x0 4).toNatClampNeg)))) x0 42)) x0 48).toNatClampNeg) (gI (sI (sI m x0 48 ((8 * (gI m x0 4)) + (gI m b_31 ((gI m x0 4).toNatClampNeg)))) b_32 ((gI (sI m x0 48 ((8 * (gI m x0 4)) + (gI m b_31 ((gI m x0 4).toNatClampNeg)))) x0 48).toNatClampNeg) (gI (sI m x0 48 ((8 * (gI m x0 4)) + (gI m b_31 ((gI m x0 4).toNatClampNeg)))) x0 42)) x0 43)) x0 48).toNatClampNeg) 0) x0 48).toNatClampNeg) 0) x0 48).toNatClampNeg) 0) x0 48) (G.2.2 b_37) <|
                                    nb (gR (sI (sI (sI (sI (sI (sI (sI m x0 48 ((8 * (gI m x0 4)) + (gI m b_31 ((gI m x0 4).toNatClampNeg)))) b_32 ((gI (sI m x0 48 ((8 * (gI m x0 4)) + (gI m b_31 ((gI m x0 4).toNatClampNeg)))) x0 48).toNatClampNeg) (gI (sI m x0 48 ((8 * (gI m x0 4)) + (gI m b_31 ((gI m x0 4).toNatClampNeg)))) x0 42)) b_33 ((gI (sI (sI m x0 48 ((8 * (gI m x0 4)) + (gI m b_31 ((gI m x0 4).toNatClampNeg)))) b_32 ((gI (sI m x0 48 ((8 * (gI m x0 4)) + (gI m b_31 ((gI m x0 4).toNatClampNeg)))) x0 48).toNatClampNeg) (gI (sI m x0 48 ((8 * (gI m x0 4)) + (gI m b_31 ((gI m x0 4).toNatClampNeg)))) x0 42)) x0 48).toNatClampNeg) (gI (sI (sI m x0 48 ((8 * (gI m x0 4)) + (gI m b_31 ((gI m x0 4).toNatClampNeg)))) b_32 ((gI (sI m x0 48 ((8 * (gI m x0 4)) + (gI m b_31 ((gI m x0 4).toNatClampNeg)))) x0 48).toNatClampNeg) (gI (sI m x0 48 ((8 * (gI m x0 4)) + (gI m b_31 ((gI m x0 4).toNatClampNeg)))) x0 42)) x0 43)) b_34 ((gI (sI (sI (sI m x0 48 ((8 * (gI m x0 4)) + (gI m b_31 ((gI m x0 4).toNatClampNeg)))) b_32 ((gI (sI m x0 48 ((8 * (gI m x0 4)) + (gI m b_31 ((gI m x0 4).toNatClampNeg)))) x0 48).toNatClampNeg) (gI (sI m x0 48 ((8 * (gI m x0 4)) + (gI m b_31 ((gI m x0 4).toNatClampNeg)))) x0 42)) b_33 ((gI (sI (sI m x0 48 ((8 * (gI m x0 4)) + (gI m b_31 ((gI m x0 4).toNatClampNeg)))) b_32 ((gI (sI m x0 48 ((8 * (gI m x0 4)) + (gI m b_31 ((gI m x0 4).toNatClampNeg)))) x0 48).toNatClampNeg) (gI (sI m x0 48 ((8 * (gI m x0 4)) + (gI m b_31 ((gI m x0 4).toNatClampNeg)))) x0 42)) x0 48).toNatClampNeg) (gI (sI (sI m x0 48 ((8 * (gI m x0 4)) + (gI m b_31 ((gI m x0 4).toNatClampNeg)))) b_32 ((gI (sI m x0 48 ((8 * (gI m x0 4)) + (gI m b_31 ((gI m x0 4).toNatClampNeg)))) x0 48).toNatClampNeg) (gI (sI m x0 48 ((8 * (gI m x0 4)) + (gI m b_31 ((gI m x0 4).toNatClampNeg)))) x0 42)) x0 43)) x0 48).toNatClampNeg) 0) b_35 ((gI (sI (sI (sI (sI m x0 48 ((8 * (gI m x0 4)) + (gI m b_31 ((gI m x0 4).toNatClampNeg)))) b_32 ((gI (sI m x0 48 ((8 * (gI m x0 4)) + (gI m b_31 ((gI m x0 4).toNatClampNeg)))) x0 48).toNatClampNeg) (gI (sI m x0 48 ((8 * (gI m x0 4)) + (gI m b_31 ((gI m x0 4).toNatClampNeg)))) x0 42)) b_33 ((gI (sI (sI m x0 48 ((8 * (gI m x0 4)) + (gI m b_31 ((gI m x0 4).toNatClampNeg)))) b_32 ((gI (sI m x0 48 ((8 * (gI m x0 4)) + (gI m b_31 ((gI m x0 4).toNatClampNeg)))) x0 48).toNatClampNeg) (gI (sI m x0 48 ((8 * (gI m x0 4)) + (gI m b_31 ((gI m x0 4).toNatClampNeg)))) x0 42)) x0 48).toNatClampNeg) (gI (sI (sI m x0 48 ((8 * (gI m x0 4)) + (gI m b_31 ((gI m x0 4).toNatClampNeg)))) b_32 ((gI (sI m x0 48 ((8 * (gI m x0 4)) + (gI m b_31 ((gI m x0 4).toNatClampNeg)))) x0 48).toNatClampNeg) (gI (sI m x0 48 ((8 * (gI m x0 4)) + (gI m b_31 ((gI m x0 4).toNatClampNeg)))) x0 42)) x0 43)) b_34 ((gI (sI (sI (sI m x0 48 ((8 * (gI m x0 4)) + (gI m b_31 ((gI m x0 4).toNatClampNeg)))) b_32 ((gI (sI m x0 48 ((8 * (gI m x0 4)) + (gI m b_31 ((gI m x0 4).toNatClampNeg)))) x0 48).toNatClampNeg) (gI (sI m x0 48 ((8 * (gI m x0 4)) + (gI m b_31 ((gI m x0 4).toNatClampNeg)))) x0 42)) b_33 ((gI (sI (sI m x0 48 ((8 * (gI m x0 4)) + (gI m b_31 ((gI m x0 4).toNatClampNeg)))) b_32 ((gI (sI m x0 48 ((8 * (gI m x0 4)) + (gI m b_31 ((gI m x0 4).toNatClampNeg)))) x0 48).toNatClampNeg) (gI (sI m x0 48 ((8 * (gI m x0 4)) + (gI m b_31 ((gI m x0 4).toNatClampNeg)))) x0 42)) x0 48).toNatClampNeg) (gI (sI (sI m x0 48 ((8 * (gI m x0 4)) + (gI m b_31 ((gI m x0 4).toNatClampNeg)))) b_32 ((gI (sI m x0 48 ((8 * (gI m x0 4)) + (gI m b_31 ((gI m x0 4).toNatClampNeg)))) x0 48).toNatClampNeg) (gI (sI m x0 48 ((8 * (gI m x0 4)) + (gI m b_31 ((gI m x0 4).toNatClampNeg)))) x0 42)) x0 43)) x0 48).toNatClampNeg) 0) x0 48).toNatClampNeg) 0) b_36 ((gI (sI (sI (sI (sI (sI m x0 48 ((8 * (gI m x0 4)) + (gI m b_31 ((gI m x0 4).toNatClampNeg)))) b_32 ((gI (sI m x0 48 ((8 * (gI m x0 4)) + (gI m b_31 ((gI m x0 4).toNatClampNeg)))) x0 48).toNatClampNeg) (gI (sI m x0 48 ((8 * (gI m x0 4)) + (gI m b_31 ((gI m x0 4).toNatClampNeg)))) x0 42)) b_33 ((gI (sI (sI m x0 48 ((8 * (gI m x0 4)) + (gI m b_31 ((gI m x0 4).toNatClampNeg)))) b_32 ((gI (sI m x0 48 ((8 * (gI m x0 4)) + (gI m b_31 ((gI m x0 4).toNatClampNeg)))) x0 48).toNatClampNeg) (gI (sI m x0 48 ((8 * (gI m x0 4)) + (gI m b_31 ((gI m x0 4).toNatClampNeg)))) x0 42)) x0 48).toNatClampNeg) (gI (sI (sI m x0 48 ((8 * (gI m x0 4)) + (gI m b_31 ((gI m x0 4).toNatClampNeg)))) b_32 ((gI (sI m x0 48 ((8 * (gI m x0 4)) + (gI m b_31 ((gI m x0 4).toNatClampNeg)))) x0 48).toNatClampNeg) (gI (sI m x0 48 ((8 * (gI m x0 4)) + (gI m b_31 ((gI m x0 4).toNatClampNeg)))) x0 42)) x0 43)) b_34 ((gI (sI (sI (sI m x0 48 ((8 * (gI m x0 4)) + (gI m b_31 ((gI m x0 4).toNatClampNeg)))) b_32 ((gI (sI m x0 48 ((8 * (gI m x0 4)) + (gI m b_31 ((gI m x0 4).toNatClampNeg)))) x0 48).toNatClampNeg) (gI (sI m x0 48 ((8 * (gI m x0 4)) + (gI m b_31 ((gI m x0 4).toNatClampNeg)))) x0 42)) b_33 ((gI (sI (sI m x0 48 ((8 * (gI m x0 4)) + (gI m b_31 ((gI m x0 4).toNatClampNeg)))) b_32 ((gI (sI m x0 48 ((8 * (gI m x0 4)) + (gI m b_31 ((gI m x0 4).toNatClampNeg)))) x0 48).toNatClampNeg) (gI (sI m x0 48 ((8 * (gI m x0 4)) + (gI m b_31 ((gI m x0 4).toNatClampNeg)))) x0 42)) x0 48).toNatClampNeg) (gI (sI (sI m x0 48 ((8 * (gI m x0 4)) + (gI m b_31 ((gI m x0 4).toNatClampNeg)))) b_32 ((gI (sI m x0 48 ((8 * (gI m x0 4)) + (gI m b_31 ((gI m x0 4).toNatClampNeg)))) x0 48).toNatClampNeg) (gI (sI m x0 48 ((8 * (gI m x0 4)) + (gI m b_31 ((gI m x0 4).toNatClampNeg)))) x0 42)) x0 43)) x0 48).toNatClampNeg) 0) b_35 ((gI (sI (sI (sI (sI m x0 48 ((8 * (gI m x0 4)) + (gI m b_31 ((gI m x0 4).toNatClampNeg)))) b_32 ((gI (sI m x0 48 ((8 * (gI m x0 4)) + (gI m b_31 ((gI m x0 4).toNatClampNeg)))) x0 48).toNatClampNeg) (gI (sI m x0 48 ((8 * (gI m x0 4)) + (gI m b_31 ((gI m x0 4).toNatClampNeg)))) x0 42)) b_33 ((gI (sI (sI m x0 48 ((8 * (gI m x0 4)) + (gI m b_31 ((gI m x0 4).toNatClampNeg)))) b_32 ((gI (sI m x0 48 ((8 * (gI m x0 4)) + (gI m b_31 ((gI m x0 4).toNatClampNeg)))) x0 48).toNatClampNeg) (gI (sI m x0 48 ((8 * (gI m x0 4)) + (gI m b_31 ((gI m x0 4).toNatClampNeg)))) x0 42)) x0 48).toNatClampNeg) (gI (sI (sI m x0 48 ((8 * (gI m x0 4)) + (gI m b_31 ((gI m x0 4).toNatClampNeg)))) b_32 ((gI (sI m x0 48 ((8 * (gI m x0 4)) + (gI m b_31 ((gI m x0 4).toNatClampNeg)))) x0 48).toNatClampNeg) (gI (sI m x0 48 ((8 * (gI m x0 4)) + (gI m b_31 ((gI m x0 4).toNatClampNeg)))) x0 42)) x0 43)) b_34 ((gI (sI (sI (sI m x0 48 ((8 * (gI m x0 4)) + (gI m b_31 ((gI m x0 4).toNatClampNeg)))) b_32 ((gI (sI m x0 48 ((8 * (gI m x0 4)) + (gI m b_31 ((gI m x0 4).toNatClampNeg)))) x0 48).toNatClampNeg) (gI (sI m x0 48 ((8 * (gI m x0 4)) + (gI m b_31 ((gI m x0 4).toNatClampNeg)))) x0 42)) b_33 ((gI (sI (sI m x0 48 ((8 * (gI m x0 4)) + (gI m b_31 ((gI m x0 4).toNatClampNeg)))) b_32 ((gI (sI m x0 48 ((8 * (gI m x0 4)) + (gI m b_31 ((gI m x0 4).toNatClampNeg)))) x0 48).toNatClampNeg) (gI (sI m x0 48 ((8 * (gI m x0 4)) + (gI m b_31 ((gI m x0 4).toNatClampNeg)))) x0 42)) x0 48).toNatClampNeg) (gI (sI (sI m x0 48 ((8 * (gI m x0 4)) + (gI m b_31 ((gI m x0 4).toNatClampNeg)))) b_32 ((gI (sI m x0 48 ((8 * (gI m x0 4)) + (gI m b_31 ((gI m x0 4).toNatClampNeg)))) x0 48).toNatClampNeg) (gI (sI m x0 48 ((8 * (gI m x0 4)) + (gI m b_31 ((gI m x0 4).toNatClampNeg)))) x0 42)) x0 43)) x0 48).toNatClampNeg) 0) x0 48).toNatClampNeg) 0) x0 48).toNatClampNeg) 0) b_37 ((gI (sI (sI (sI (sI (sI (sI m x0 48 ((8 * (gI m x0 4)) + (gI m b_31 ((gI m x0 4).toNatClampNeg)))) b_32 ((gI (sI m x0 48 ((8 * (gI m x0 4)) + (gI m b_31 ((gI m x0 4).toNatClampNeg)))) x0 48).toNatClampNeg) (gI (sI m x0 48 ((8 * (gI m x0 4)) + (gI m b_31 ((gI m x0 4).toNatClampNeg)))) x0 42)) b_33 ((gI (sI (sI m x0 48 ((8 * (gI m x0 4)) + (gI m b_31 ((gI m x0 4).toNatClampNeg)))) b_32 ((gI (sI m x0 48 ((8 * (gI m x0 4)) + (gI m b_31 ((gI m x0 4).toNatClampNeg)))) x0 48).toNatClampNeg) (gI (sI m x0 48 ((8 * (gI m x0 4)) + (gI m b_31 ((gI m x0 4).toNatClampNeg)))) x0 42)) x0 48).toNatClampNeg) (gI (sI (sI m x0 48 ((8 * (gI m x0 4)) + (gI m b_31 ((gI m x0 4).toNatClampNeg)))) b_32 ((gI (sI m x0 48 ((8 * (gI m x0 4)) + (gI m b_31 ((gI m x0 4).toNatClampNeg)))) x0 48).toNatClampNeg) (gI (sI m x0 48 ((8 * (gI m x0 4)) + (gI m b_31 ((gI m x0 4).toNatClampNeg)))) x0 42)) x0 43)) b_34 ((gI (sI (sI (sI m x0 48 ((8 * (gI m x0 4)) + (gI m b_31 ((gI m x0 4).toNatClampNeg)))) b_32 ((gI (sI m x0 48 ((8 * (gI m x0 4)) + (gI m b_31 ((gI m x0 4).toNatClampNeg)))) x0 48).toNatClampNeg) (gI (sI m x0 48 ((8 * (gI m x0 4)) + (gI m b_31 ((gI m x0 4).toNatClampNeg)))) x0 42)) b_33 ((gI (sI (sI m x0 48 ((8 * (gI m x0 4)) + (gI m b_31 ((gI m x0 4).toNatClampNeg)))) b_32 ((gI (sI m x0 48 ((8 * (gI m x0 4)) + (gI m b_31 ((gI m x0 4).toNatClampNeg)))) x0 48).toNatClampNeg) (gI (sI m x0 48 ((8 * (gI m x0 4)) + (gI m b_31 ((gI m x0 4).toNatClampNeg)))) x0 42)) x0 48).toNatClampNeg) (gI (sI (sI m x0 48 ((8 * (gI m x0 4)) + (gI m b_31 ((gI m x0 4).toNatClampNeg)))) b_32 ((gI (sI m x0 48 ((8 * (gI m x0 4)) + (gI m b_31 ((gI m x0 4).toNatClampNeg)))) x0 48).toNatClampNeg) (gI (sI m x0 48 ((8 * (gI m x0 4)) + (gI m b_31 ((gI m x0 4).toNatClampNeg)))) x0 42)) x0 43)) x0 48).toNatClampNeg) 0) b_35 ((gI (sI (sI (sI (sI m x0 48 ((8 * (gI m x0 4)) + (gI m b_31 ((gI m x0 4).toNatClampNeg)))) b_32 ((gI (sI m x0 48 ((8 * (gI m x0 4)) + (gI m b_31 ((gI m x0 4).toNatClampNeg)))) x0 48).toNatClampNeg) (gI (sI m x0 48 ((8 * (gI m x0 4)) + (gI m b_31 ((gI m x0 4).toNatClampNeg)))) x0 42)) b_33 ((gI (sI (sI m x0 48 ((8 * (gI m x0 4)) + (gI m b_31 ((gI m x0 4).toNatClampNeg)))) b_32 ((gI (sI m x0 48 ((8 * (gI m x0 4)) + (gI m b_31 ((gI m x0 4).toNatClampNeg)))) x0 48).toNatClampNeg) (gI (sI m x0 48 ((8 * (gI m x0 4)) + (gI m b_31 ((gI m x0 4).toNatClampNeg)))) x0 42)) x0 48).toNatClampNeg) (gI (sI (sI m x0 48 ((8 * (gI m x0 4)) + (gI m b_31 ((gI m x0 4).toNatClampNeg)))) b_32 ((gI (sI m x0 48 ((8 * (gI m x0 4)) + (gI m b_31 ((gI m x0 4).toNatClampNeg)))) x0 48).toNatClampNeg) (gI (sI m x0 48 ((8 * (gI m x0 4)) + (gI m b_31 ((gI m x0 4).toNatClampNeg)))) x0 42)) x0 43)) b_34 ((gI (sI (sI (sI m x0 48 ((8 * (gI m x0 4)) + (gI m b_31 ((gI m x0 4).toNatClampNeg)))) b_32 ((gI (sI m x0 48 ((8 * (gI m x0 4)) + (gI m b_31 ((gI m x0 4).toNatClampNeg)))) x0 48).toNatClampNeg) (gI (sI m x0 48 ((8 * (gI m x0 4)) + (gI m b_31 ((gI m x0 4).toNatClampNeg)))) x0 42)) b_33 ((gI (sI (sI m x0 48 ((8 * (gI m x0 4)) + (gI m b_31 ((gI m x0 4).toNatClampNeg)))) b_32 ((gI (sI m x0 48 ((8 * (gI m x0 4)) + (gI m b_31 ((gI m x0 4).toNatClampNeg)))) x0 48).toNatClampNeg) (gI (sI m x0 48 ((8 * (gI m x0 4)) + (gI m b_31 ((gI m x0 4).toNatClampNeg)))) x0 42)) x0 48).toNatClampNeg) (gI (sI (sI m x0 48 ((8 * (gI m x0 4)) + (gI m b_31 ((gI m x0 4).toNatClampNeg)))) b_32 ((gI (sI m x0 48 ((8 * (gI m x0 4)) + (gI m b_31 ((gI m x0 4).toNatClampNeg)))) x0 48).toNatClampNeg) (gI (sI m x0 48 ((8 * (gI m x0 4)) + (gI m b_31 ((gI m x0 4).toNatClampNeg)))) x0 42)) x0 43)) x0 48).toNatClampNeg) 0) x0 48).toNatClampNeg) 0) b_36 ((gI (sI (sI (sI (sI (sI m x0 48 ((8 * (gI m x0 4)) + (gI m b_31 ((gI m x0 4).toNatClampNeg)))) b_32 ((gI (sI m x0 48 ((8 * (gI m x0 4)) + (gI m b_31 ((gI m x0 4).toNatClampNeg)))) x0 48).toNatClampNeg) (gI (sI m x0 48 ((8 * (gI m x0 4)) + (gI m b_31 ((gI m x0 4).toNatClampNeg)))) x0 42)) b_33 ((gI (sI (sI m x0 48 ((8 * (gI m x0 4)) + (gI m b_31 ((gI m x0 4).toNatClampNeg)))) b_32 ((gI (sI m x0 48 ((8 * (gI m x0 4)) + (gI m b_31 ((gI m x0 4).toNatClampNeg)))) x0 48).toNatClampNeg) (gI (sI m x0 48 ((8 * (gI m x0 4)) + (gI m b_31 ((gI m x0 4).toNatClampNeg)))) x0 42)) x0 48).toNatClampNeg) (gI (sI (sI m x0 48 ((8 * (gI m x0 4)) + (gI m b_31 ((gI m x0 4).toNatClampNeg)))) b_32 ((gI (sI m x0 48 ((8 * (gI m x0 4)) + (gI m b_31 ((gI m x0 4).toNatClampNeg)))) x0 48).toNatClampNeg) (gI (sI m x0 48 ((8 * (gI m x0 4)) + (gI m b_31 ((gI m x0 4).toNatClampNeg)))) x0 42)) x0 43)) b_34 ((gI (sI (sI (sI m x0 48 ((8 * (gI m x0 4)) + (gI m b_31 ((gI m x0 4).toNatClampNeg)))) b_32 ((gI (sI m x0 48 ((8 * (gI m x0 4)) + (gI m b_31 ((gI m x0 4).toNatClampNeg)))) x0 48).toNatClampNeg) (gI (sI m x0 48 ((8 * (gI m x0 4)) + (gI m b_31 ((gI m x0 4).toNatClampNeg)))) x0 42)) b_33 ((gI (sI (sI m x0 48 ((8 * (gI m x0 4)) + (gI m b_31 ((gI m x0 4).toNatClampNeg)))) b_32 ((gI (sI m x0 48 ((8 * (gI m x0 4)) + (gI m b_31 ((gI m x0 4).toNatClampNeg)))) x0 48).toNatClampNeg) (gI (sI m x0 48 ((8 * (gI m x0 4)) + (gI m b_31 ((gI m x0 4).toNatClampNeg)))) x0 42)) x0 48).toNatClampNeg) (gI (sI (sI m x0 48 ((8 * (gI m x0 4)) + (gI m b_31 ((gI m x0 4).toNatClampNeg)))) b_32 ((gI (sI m x0 48 ((8 * (gI m x0 4)) + (gI m b_31 ((gI m x0 4).toNatClampNeg)))) x0 48).toNatClampNeg) (gI (sI m x0 48 ((8 * (gI m x0 4)) + (gI m b_31 ((gI m x0 4).toNatClampNeg)))) x0 42)) x0 43)) x0 48).toNatClampNeg) 0) b_35 ((gI (sI (sI (sI (sI m x0 48 ((8 * (gI m x0 4)) + (gI m b_31 ((gI m x0 4).toNatClampNeg)))) b_32 ((gI (sI m x0 48 ((8 * (gI m x0 4)) + (gI m b_31 ((gI m x0 4).toNatClampNeg)))) x0 48).toNatClampNeg) (gI (sI m x0 48 ((8 * (gI m x0 4)) + (gI m b_31 ((gI m x0 4).toNatClampNeg)))) x0 42)) b_33 ((gI (sI (sI m x0 48 ((8 * (gI m x0 4)) + (gI m b_31 ((gI m x0 4).toNatClampNeg)))) b_32 ((gI (sI m x0 48 ((8 * (gI m x0 4)) + (gI m b_31 ((gI m x0 4).toNatClampNeg)))) x0 48).toNatClampNeg) (gI (sI m x0 48 ((8 * (gI m x0 4)) + (gI m b_31 ((gI m x0 4).toNatClampNeg)))) x0 42)) x0 48).toNatClampNeg) (gI (sI (sI m x0 48 ((8 * (gI m x0 4)) + (gI m b_31 ((gI m x0 4).toNatClampNeg)))) b_32 ((gI (sI m x0 48 ((8 * (gI m x0 4)) + (gI m b_31 ((gI m x0 4).toNatClampNeg)))) x0 48).toNatClampNeg) (gI (sI m x0 48 ((8 * (gI m x0 4)) + (gI m b_31 ((gI m x0 4).toNatClampNeg)))) x0 42)) x0 43)) b_34 ((gI (sI (sI (sI m x0 48 ((8 * (gI m x0 4)) + (gI m b_31 ((gI m x0 4).toNatClampNeg)))) b_32 ((gI (sI m x0 48 ((8 * (gI m x0 4)) + (gI m b_31 ((gI m x0 4).toNatClampNeg)))) x0 48).toNatClampNeg) (gI (sI m x0 48 ((8 * (gI m x0 4)) + (gI m b_31 ((gI m x0 4).toNatClampNeg)))) x0 42)) b_33 ((gI (sI (sI m x0 48 ((8 * (gI m x0 4)) + (gI m b_31 ((gI m x0 4).toNatClampNeg)))) b_32 ((gI (sI m x0 48 ((8 * (gI m x0 4)) + (gI m b_31 ((gI m x0 4).toNatClampNeg)))) x0 48).toNatClampNeg) (gI (sI m x0 48 ((8 * (gI m x0 4)) + (gI m b_31 ((gI m x0 4).toNatClampNeg)))) x0 42)) x0 48).toNatClampNeg) (gI (sI (sI m x0 48 ((8 * (gI m x0 4)) + (gI m b_31 ((gI m x0 4).toNatClampNeg)))) b_32 ((gI (sI m x0 48 ((8 * (gI m x0 4)) + (gI m b_31 ((gI m x0 4).toNatClampNeg)))) x0 48).toNatClampNeg) (gI (sI m x0 48 ((8 * (gI m x0 4)) + (gI m b_31 ((gI m x0 4).toNatClampNeg)))) x0 42)) x0 43)) x0 48).toNatClampNeg) 0) x0 48).toNatClampNeg) 0) x0 48).toNatClampNeg) 0) x0 48).toNatClampNeg) (-1)) x0 49) fun b_38 =>
                                      ib (gI (sI (sI (sI (sI (sI (sI (sI m x0 48 ((8 * (gI m x0 4)) + (gI m b_31 ((gI m x0 4).toNatClampNeg)))) b_32 ((gI (sI m x0 48 ((8 * (gI m x0 4)) + (gI m b_31 ((gI m x0 4).toNatClampNeg)))) x0 48).toNatClampNeg) (gI (sI m x0 48 ((8 * (gI m x0 4)) + (gI m b_31 ((gI m x0 4).toNatClampNeg)))) x0 42)) b_33 ((gI (sI (sI m x0 48 ((8 * (gI m x0 4)) + (gI m b_31 ((gI m x0 4).toNatClampNeg)))) b_32 ((gI (sI m x0 48 ((8 * (gI m x0 4)) + (gI m b_31 ((gI m x0 4).toNatClampNeg)))) x0 48).toNatClampNeg) (gI (sI m x0 48 ((8 * (gI m x0 4)) + (gI m b_31 ((gI m x0 4).toNatClampNeg)))) x0 42)) x0 48).toNatClampNeg) (gI (sI (sI m x0 48 ((8 * (gI m x0 4)) + (gI m b_31 ((gI m x0 4).toNatClampNeg)))) b_32 ((gI (sI m x0 48 ((8 * (gI m x0 4)) + (gI m b_31 ((gI m x0 4).toNatClampNeg)))) x0 48).toNatClampNeg) (gI (sI m x0 48 ((8 * (gI m x0 4)) + (gI m b_31 ((gI m x0 4).toNatClampNeg)))) x0 42)) x0 43)) b_34 ((gI (sI (sI (sI m x0 48 ((8 * (gI m x0 4)) + (gI m b_31 ((gI m x0 4).toNatClampNeg)))) b_32 ((gI (sI m x0 48 ((8 * (gI m x0 4)) + (gI m b_31 ((gI m x0 4).toNatClampNeg)))) x0 48).toNatClampNeg) (gI (sI m x0 48 ((8 * (gI m x0 4)) + (gI m b_31 ((gI m x0 4).toNatClampNeg)))) x0 42)) b_33 ((gI (sI (sI m x0 48 ((8 * (gI m x0 4)) + (gI m b_31 ((gI m x0 4).toNatClampNeg)))) b_32 ((gI (sI m x0 48 ((8 * (gI m x0 4)) + (gI m b_31 ((gI m x0 4).toNatClampNeg)))) x0 48).toNatClampNeg) (gI (sI m x0 48 ((8 * (gI m x0 4)) + (gI m b_31 ((gI m x0 4).toNatClampNeg)))) x0 42)) x0 48).toNatClampNeg) (gI (sI (sI m x0 48 ((8 * (gI m x0 4)) + (gI m b_31 ((gI m x0 4).toNatClampNeg)))) b_32 ((gI (sI m x0 48 ((8 * (gI m x0 4)) + (gI m b_31 ((gI m x0 4).toNatClampNeg)))) x0 48).toNatClampNeg) (gI (sI m x0 48 ((8 * (gI m x0 4)) + (gI m b_31 ((gI m x0 4).toNatClampNeg)))) x0 42)) x0 43)) x0 48).toNatClampNeg) 0) b_35 ((gI (sI (sI (sI (sI m x0 48 ((8 * (gI m x0 4)) + (gI m b_31 ((gI m x0 4).toNatClampNeg)))) b_32 ((gI (sI m x0 48 ((8 * (gI m x0 4)) + (gI m b_31 ((gI m x0 4).toNatClampNeg)))) x0 48).toNatClampNeg) (gI (sI m x0 48 ((8 * (gI m x0 4)) + (gI m b_31 ((gI m x0 4).toNatClampNeg)))) x0 42)) b_33 ((gI (sI (sI m x0 48 ((8 * (gI m x0 4)) + (gI m b_31 ((gI m x0 4).toNatClampNeg)))) b_32 ((gI (sI m x0 48 ((8 * (gI m x0 4)) + (gI m b_31 ((gI m x0 4).toNatClampNeg)))) x0 48).toNatClampNeg) (gI (sI m x0 48 ((8 * (gI m x0 4)) + (gI m b_31 ((gI m x0 4).toNatClampNeg)))) x0 42)) x0 48).toNatClampNeg) (gI (sI (sI m x0 48 ((8 * (gI m x0 4)) + (gI m b_31 ((gI m x0 4).toNatClampNeg)))) b_32 ((gI (sI m x0 48 ((8 * (gI m x0 4)) + (gI m b_31 ((gI m x0 4).toNatClampNeg)))) x0 48).toNatClampNeg) (gI (sI m x0 48 ((8 * (gI m x0 4)) + (gI m b_31 ((gI m x0 4).toNatClampNeg)))) x0 42)) x0 43)) b_34 ((gI (sI (sI (sI m x0 48 ((8 * (gI m x0 4)) + (gI m b_31 ((gI m x0 4).toNatClampNeg)))) b_32 ((gI (sI m x0 48 ((8 * (gI m x0 4)) + (gI m b_31 ((gI m x0 4).toNatClampNeg)))) x0 48).toNatClampNeg) (gI (sI m x0 48 ((8 * (gI m x0 4)) + (gI m b_31 ((gI m x0 4).toNatClampNeg)))) x0 42)) b_33 ((gI (sI (sI m x0 48 ((8 * (gI m x0 4)) + (gI m b_31 ((gI m x0 4).toNatClampNeg)))) b_32 ((gI (sI m x0 48 ((8 * (gI m x0 4)) + (gI m b_31 ((gI m x0 4).toNatClampNeg)))) x0 48).toNatClampNeg) (gI (sI m x0 48 ((8 * (gI m x0 4)) + (gI m b_31 ((gI m x0 4).toNatClampNeg)))) x0 42)) x0 48).toNatClampNeg) (gI (sI (sI m x0 48 ((8 * (gI m x0 4)) + (gI m b_31 ((gI m x0 4).toNatClampNeg)))) b_32 ((gI (sI m x0 48 ((8 * (gI m x0 4)) + (gI m b_31 ((gI m x0 4).toNatClampNeg)))) x0 48).toNatClampNeg) (gI (sI m x0 48 ((8 * (gI m x0 4)) + (gI m b_31 ((gI m x0 4).toNatClampNeg)))) x0 42)) x0 43)) x0 48).toNatClampNeg) 0) x0 48).toNatClampNeg) 0) b_36 ((gI (sI (sI (sI (sI (sI m x0 48 ((8 * (gI m x0 4)) + (gI m b_31 ((gI m x0 4).toNatClampNeg)))) b_32 ((gI (sI m x0 48 ((8 * (gI m x0 4)) + (gI m b_31 ((gI m x0 4).toNatClampNeg)))) x0 48).toNatClampNeg) (gI (sI m x0 48 ((8 * (gI m x0 4)) + (gI m b_31 ((gI m x0 4).toNatClampNeg)))) x0 42)) b_33 ((gI (sI (sI m x0 48 ((8 * (gI m x0 4)) + (gI m b_31 ((gI m x0 4).toNatClampNeg)))) b_32 ((gI (sI m x0 48 ((8 * (gI m x0 4)) + (gI m b_31 ((gI m x0 4).toNatClampNeg)))) x0 48).toNatClampNeg) (gI (sI m x0 48 ((8 * (gI m x0 4)) + (gI m b_31 ((gI m x0 4).toNatClampNeg)))) x0 42)) x0 48).toNatClampNeg) (gI (sI (sI m x0 48 ((8 * (gI m x0 4)) + (gI m b_31 ((gI m x0 4).toNatClampNeg)))) b_32 ((gI (sI m x0 48 ((8 * (gI m x0 4)) + (gI m b_31 ((gI m x0 4).toNatClampNeg)))) x0 48).toNatClampNeg) (gI (sI m x0 48 ((8 * (gI m x0 4)) + (gI m b_31 ((gI m x0 4).toNatClampNeg)))) x0 42)) x0 43)) b_34 ((gI (sI (sI (sI m x0 48 ((8 * (gI m x0 4)) + (gI m b_31 ((gI m x0 4).toNatClampNeg)))) b_32 ((gI (sI m x0 48 ((8 * (gI m x0 4)) + (gI m b_31 ((gI m x0 4).toNatClampNeg)))) x0 48).toNatClampNeg) (gI (sI m x0 48 ((8 * (gI m x0 4)) + (gI m b_31 ((gI m x0 4).toNatClampNeg)))) x0 42)) b_33 ((gI (sI (sI m x0 48 ((8 * (gI m x0 4)) + (gI m b_31 ((gI m x0 4).toNatClampNeg)))) b_32 ((gI (sI m x0 48 ((8 * (gI m x0 4)) + (gI m b_31 ((gI m x0 4).toNatClampNeg)))) x0 48).toNatClampNeg) (gI (sI m x0 48 ((8 * (gI m x0 4)) + (gI m b_31 ((gI m x0 4).toNatClampNeg)))) x0 42)) x0 48).toNatClampNeg) (gI (sI (sI m x0 48 ((8 * (gI m x0 4)) + (gI m b_31 ((gI m x0 4).toNatClampNeg)))) b_32 ((gI (sI m x0 48 ((8 * (gI m x0 4)) + (gI m b_31 ((gI m x0 4).toNatClampNeg)))) x0 48).toNatClampNeg) (gI (sI m x0 48 ((8 * (gI m x0 4)) + (gI m b_31 ((gI m x0 4).toNatClampNeg)))) x0 42)) x0 43)) x0 48).toNatClampNeg) 0) b_35 ((gI (sI (sI (sI (sI m x0 48 ((8 * (gI m x0 4)) + (gI m b_31 ((gI m x0 4).toNatClampNeg)))) b_32 ((gI (sI m x0 48 ((8 * (gI m x0 4)) + (gI m b_31 ((gI m x0 4).toNatClampNeg)))) x0 48).toNatClampNeg) (gI (sI m x0 48 ((8 * (gI m x0 4)) + (gI m b_31 ((gI m x0 4).toNatClampNeg)))) x0 42)) b_33 ((gI (sI (sI m x0 48 ((8 * (gI m x0 4)) + (gI m b_31 ((gI m x0 4).toNatClampNeg)))) b_32 ((gI (sI m x0 48 ((8 * (gI m x0 4)) + (gI m b_31 ((gI m x0 4).toNatClampNeg)))) x0 48).toNatClampNeg) (gI (sI m x0 48 ((8 * (gI m x0 4)) + (gI m b_31 ((gI m x0 4).toNatClampNeg)))) x0 42)) x0 48).toNatClampNeg) (gI (sI (sI m x0 48 ((8 * (gI m x0 4)) + (gI m b_31 ((gI m x0 4).toNatClampNeg)))) b_32 ((gI (sI m x0 48 ((8 * (gI m x0 4)) + (gI m b_31 ((gI m x0 4).toNatClampNeg)))) x0 48).toNatClampNeg) (gI (sI m x0 48 ((8 * (gI m x0 4)) + (gI m b_31 ((gI m x0 4).toNatClampNeg)))) x0 42)) x0 43)) b_34 ((gI (sI (sI (sI m x0 48 ((8 * (gI m x0 4)) + (gI m b_31 ((gI m x0 4).toNatClampNeg)))) b_32 ((gI (sI m x0 48 ((8 * (gI m x0 4)) + (gI m b_31 ((gI m x0 4).toNatClampNeg)))) x0 48).toNatClampNeg) (gI (sI m x0 48 ((8 * (gI m x0 4)) + (gI m b_31 ((gI m x0 4).toNatClampNeg)))) x0 42)) b_33 ((gI (sI (sI m x0 48 ((8 * (gI m x0 4)) + (gI m b_31 ((gI m x0 4).toNatClampNeg)))) b_32 ((gI (sI m x0 48 ((8 * (gI m x0 4)) + (gI m b_31 ((gI m x0 4).toNatClampNeg)))) x0 48).toNatClampNeg) (gI (sI m x0 48 ((8 * (gI m x0 4)) + (gI m b_31 ((gI m x0 4).toNatClampNeg)))) x0 42)) x0 48).toNatClampNeg) (gI (sI (sI m x0 48 ((8 * (gI m x0 4)) + (gI m b_31 ((gI m x0 4).toNatClampNeg)))) b_32 ((gI (sI m x0 48 ((8 * (gI m x0 4)) + (gI m b_31 ((gI m x0 4).toNatClampNeg)))) x0 48).toNatClampNeg) (gI (sI m x0 48 ((8 * (gI m x0 4)) + (gI m b_31 ((gI m x0 4).toNatClampNeg)))) x0 42)) x0 43)) x0 48).toNatClampNeg) 0) x0 48).toNatClampNeg) 0) x0 48).toNatClampNeg) 0) b_37 ((gI (sI (sI (sI (sI (sI (sI m x0 48 ((8 * (gI m x0 4)) + (gI m b_31 ((gI m x0 4).toNatClampNeg)))) b_32 ((gI (sI m x0 48 ((8 * (gI m x0 4)) + (gI m b_31 ((gI m x0 4).toNatClampNeg)))) x0 48).toNatClampNeg) (gI (sI m x0 48 ((8 * (gI m x0 4)) + (gI m b_31 ((gI m x0 4).toNatClampNeg)))) x0 42)) b_33 ((gI (sI (sI m x0 48 ((8 * (gI m x0 4)) + (gI m b_31 ((gI m x0 4).toNatClampNeg)))) b_32 ((gI (sI m x0 48 ((8 * (gI m x0 4)) + (gI m b_31 ((gI m x0 4).toNatClampNeg)))) x0 48).toNatClampNeg) (gI (sI m x0 48 ((8 * (gI m x0 4)) + (gI m b_31 ((gI m x0 4).toNatClampNeg)))) x0 42)) x0 48).toNatClampNeg) (gI (sI (sI m x0 48 ((8 * (gI m x0 4)) + (gI m b_31 ((gI m x0 4).toNatClampNeg)))) b_32 ((gI (sI m x0 48 ((8 * (gI m x0 4)) + (gI m b_31 ((gI m x0 4).toNatClampNeg)))) x0 48).toNatClampNeg) (gI (sI m x0 48 ((8 * (gI m x0 4)) + (gI m b_31 ((gI m x0 4).toNatClampNeg)))) x0 42)) x0 43)) b_34 ((gI (sI (sI (sI m x0 48 ((8 * (gI m x0 4)) + (gI m b_31 ((gI m x0 4).toNatClampNeg)))) b_32 ((gI (sI m x0 48 ((8 * (gI m x0 4)) + (gI m b_31 ((gI m x0 4).toNatClampNeg)))) x0 48).toNatClampNeg) (gI (sI m x0 48 ((8 * (gI m x0 4)) + (gI m b_31 ((gI m x0 4).toNatClampNeg)))) x0 42)) b_33 ((gI (sI (sI m x0 48 ((8 * (gI m x0 4)) + (gI m b_31 ((gI m x0 4).toNatClampNeg)))) b_32 ((gI (sI m x0 48 ((8 * (gI m x0 4)) + (gI m b_31 ((gI m x0 4).toNatClampNeg)))) x0 48).toNatClampNeg) (gI (sI m x0 48 ((8 * (gI m x0 4)) + (gI m b_31 ((gI m x0 4).toNatClampNeg)))) x0 42)) x0 48).toNatClampNeg) (gI (sI (sI m x0 48 ((8 * (gI m x0 4)) + (gI m b_31 ((gI m x0 4).toNatClampNeg)))) b_32 ((gI (sI m x0 48 ((8 * (gI m x0 4)) + (gI m b_31 ((gI m x0 4).toNatClampNeg)))) x0 48).toNatClampNeg) (gI (sI m x0 48 ((8 * (gI m x0 4)) + (gI m b_31 ((gI m x0 4).toNatClampNeg)))) x0 42)) x0 43)) x0 48).toNatClampNeg) 0) b_35 ((gI (sI (sI (sI (sI m x0 48 ((8 * (gI m x0 4)) + (gI m b_31 ((gI m x0 4).toNatClampNeg)))) b_32 ((gI (sI m x0 48 ((8 * (gI m x0 4)) + (gI m b_31 ((gI m x0 4).toNatClampNeg)))) x0 48).toNatClampNeg) (gI (sI m x0 48 ((8 * (gI m x0 4)) + (gI m b_31 ((gI m x0 4).toNatClampNeg)))) x0 42)) b_33 ((gI (sI (sI m x0 48 ((8 * (gI m x0 4)) + (gI m b_31 ((gI m x0 4).toNatClampNeg)))) b_32 ((gI (sI m x0 48 ((8 * (gI m x0 4)) + (gI m b_31 ((gI m x0 4).toNatClampNeg)))) x0 48).toNatClampNeg) (gI (sI m x0 48 ((8 * (gI m x0 4)) + (gI m b_31 ((gI m x0 4).toNatClampNeg)))) x0 42)) x0 48).toNatClampNeg) (gI (sI (sI m x0 48 ((8 * (gI m x0 4)) + (gI m b_31 ((gI m x0 4).toNatClampNeg)))) b_32 ((gI (sI m x0 48 ((8 * (gI m x0 4)) + (gI m b_31 ((gI m x0 4).toNatClampNeg)))) x0 48).toNatClampNeg) (gI (sI m x0 48 ((8 * (gI m x0 4)) + (gI m b_31 ((gI m x0 4).toNatClampNeg)))) x0 42)) x0 43)) b_34 ((gI (sI (sI (sI m x0 48 ((8 * (gI m x0 4)) + (gI m b_31 ((gI m x0 4).toNatClampNeg)))) b_32 ((gI (sI m x0 48 ((8 * (gI m x0 4)) + (gI m b_31 ((gI m x0 4).toNatClampNeg)))) x0 48).toNatClampNeg) (gI (sI m x0 48 ((8 * (gI m x0 4)) + (gI m b_31 ((gI m x0 4).toNatClampNeg)))) x0 42)) b_33 ((gI (sI (sI m x0 48 ((8 * (gI m x0 4)) + (gI m b_31 ((gI m x0 4).toNatClampNeg)))) b_32 ((gI (sI m x0 48 ((8 * (gI m x0 4)) + (gI m b_31 ((gI m x0 4).toNatClampNeg)))) x0 48).toNatClampNeg) (gI (sI m x0 48 ((8 * (gI m x0 4)) + (gI m b_31 ((gI m x0 4).toNatClampNeg)))) x0 42)) x0 48).toNatClampNeg) (gI (sI (sI m x0 48 ((8 * (gI m x0 4)) + (gI m b_31 ((gI m x0 4).toNatClampNeg)))) b_32 ((gI (sI m x0 48 ((8 * (gI m x0 4)) + (gI m b_31 ((gI m x0 4).toNatClampNeg)))) x0 48).toNatClampNeg) (gI (sI m x0 48 ((8 * (gI m x0 4)) + (gI m b_31 ((gI m x0 4).toNatClampNeg)))) x0 42)) x0 43)) x0 48).toNatClampNeg) 0) x0 48).toNatClampNeg) 0) b_36 ((gI (sI (sI (sI (sI (sI m x0 48 ((8 * (gI m x0 4)) + (gI m b_31 ((gI m x0 4).toNatClampNeg)))) b_32 ((gI (sI m x0 48 ((8 * (gI m x0 4)) + (gI m b_31 ((gI m x0 4).toNatClampNeg)))) x0 48).toNatClampNeg) (gI (sI m x0 48 ((8 * (gI m x0 4)) + (gI m b_31 ((gI m x0 4).toNatClampNeg)))) x0 42)) b_33 ((gI (sI (sI m x0 48 ((8 * (gI m x0 4)) + (gI m b_31 ((gI m x0 4).toNatClampNeg)))) b_32 ((gI (sI m x0 48 ((8 * (gI m x0 4)) + (gI m b_31 ((gI m x0 4).toNatClampNeg)))) x0 48).toNatClampNeg) (gI (sI m x0 48 ((8 * (gI m x0 4)) + (gI m b_31 ((gI m x0 4).toNatClampNeg)))) x0 42)) x0 48).toNatClampNeg) (gI (sI (sI m x0 48 ((8 * (gI m x0 4)) + (gI m b_31 ((gI m x0 4).toNatClampNeg)))) b_32 ((gI (sI m x0 48 ((8 * (gI m x0 4)) + (gI m b_31 ((gI m x0 4).toNatClampNeg)))) x0 48).toNatClampNeg) (gI (sI m x0 48 ((8 * (gI m x0 4)) + (gI m b_31 ((gI m x0 4).toNatClampNeg)))) x0 42)) x0 43)) b_34 ((gI (sI (sI (sI m x0 48 ((8 * (gI m x0 4)) + (gI m b_31 ((gI m x0 4).toNatClampNeg)))) b_32 ((gI (sI m x0 48 ((8 * (gI m x0 4)) + (gI m b_31 ((gI m x0 4).toNatClampNeg)))) x0 48).toNatClampNeg) (gI (sI m x0 48 ((8 * (gI m x0 4)) + (gI m b_31 ((gI m x0 4).toNatClampNeg)))) x0 42)) b_33 ((gI (sI (sI m x0 48 ((8 * (gI m x0 4)) + (gI m b_31 ((gI m x0 4).toNatClampNeg)))) b_32 ((gI (sI m x0 48 ((8 * (gI m x0 4)) + (gI m b_31 ((gI m x0 4).toNatClampNeg)))) x0 48).toNatClampNeg) (gI (sI m x0 48 ((8 * (gI m x0 4)) + (gI m b_31 ((gI m x0 4).toNatClampNeg)))) x0 42)) x0 48).toNatClampNeg) (gI (sI (sI m x0 48 ((8 * (gI m x0 4)) + (gI m b_31 ((gI m x0 4).toNatClampNeg)))) b_32 ((gI (sI m x0 48 ((8 * (gI m x0 4)) + (gI m b_31 ((gI m x0 4).toNatClampNeg)))) x0 48).toNatClampNeg) (gI (sI m x0 48 ((8 * (gI m x0 4)) + (gI m b_31 ((gI m x0 4).toNatClampNeg)))) x0 42)) x0 43)) x0 48).toNatClampNeg) 0) b_35 ((gI (sI (sI (sI (sI m x0 48 ((8 * (gI m x0 4)) + (gI m b_31 ((gI m x0 4).toNatClampNeg)))) b_32 ((gI (sI m x0 48 ((8 * (gI m x0 4)) + (gI m b_31 ((gI m x0 4).toNatClampNeg)))) x0 48).toNatClampNeg) (gI (sI m x0 48 ((8 * (gI m x0 4)) + (gI m b_31 ((gI m x0 4).toNatClampNeg)))) x0 42)) b_33 ((gI (sI (sI m x0 48 ((8 * (gI m x0 4)) + (gI m b_31 ((gI m x0 4).toNatClampNeg)))) b_32 ((gI (sI m x0 48 ((8 * (gI m x0 4)) + (gI m b_31 ((gI m x0 4).toNatClampNeg)))) x0 48).toNatClampNeg) (gI (sI m x0 48 ((8 * (gI m x0 4)) + (gI m b_31 ((gI m x0 4).toNatClampNeg)))) x0 42)) x0 48).toNatClampNeg) (gI (sI (sI m x0 48 ((8 * (gI m x0 4)) + (gI m b_31 ((gI m x0 4).toNatClampNeg)))) b_32 ((gI (sI m x0 48 ((8 * (gI m x0 4)) + (gI m b_31 ((gI m x0 4).toNatClampNeg)))) x0 48).toNatClampNeg) (gI (sI m x0 48 ((8 * (gI m x0 4)) + (gI m b_31 ((gI m x0 4).toNatClampNeg)))) x0 42)) x0 43)) b_34 ((gI (sI (sI (sI m x0 48 ((8 * (gI m x0 4)) + (gI m b_31 ((gI m x0 4).toNatClampNeg)))) b_32 ((gI (sI m x0 48 ((8 * (gI m x0 4)) + (gI m b_31 ((gI m x0 4).toNatClampNeg)))) x0 48).toNatClampNeg) (gI (sI m x0 48 ((8 * (gI m x0 4)) + (gI m b_31 ((gI m x0 4).toNatClampNeg)))) x0 42)) b_33 ((gI (sI (sI m x0 48 ((8 * (gI m x0 4)) + (gI m b_31 ((gI m x0 4).toNatClampNeg)))) b_32 ((gI (sI m x0 48 ((8 * (gI m x0 4)) + (gI m b_31 ((gI m x0 4).toNatClampNeg)))) x0 48).toNatClampNeg) (gI (sI m x0 48 ((8 * (gI m x0 4)) + (gI m b_31 ((gI m x0 4).toNatClampNeg)))) x0 42)) x0 48).toNatClampNeg) (gI (sI (sI m x0 48 ((8 * (gI m x0 4)) + (gI m b_31 ((gI m x0 4).toNatClampNeg)))) b_32 ((gI (sI m x0 48 ((8 * (gI m x0 4)) + (gI m b_31 ((gI m x0 4).toNatClampNeg)))) x0 48).toNatClampNeg) (gI (sI m x0 48 ((8 * (gI m x0 4)) + (gI m b_31 ((gI m x0 4).toNatClampNeg)))) x0 42)) x0 43)) x0 48).toNatClampNeg) 0) x0 48).toNatClampNeg) 0) x0 48).toNatClampNeg) 0) x0 48).toNatClampNeg) (-1)) x0 48) (G.2.2 b_38) <|
                                        nb (gR (sI (sI (sI (sI (sI (sI (sI (sI m x0 48 ((8 * (gI m x0 4)) + (gI m b_31 ((gI m x0 4).toNatClampNeg)))) b_32 ((gI (sI m x0 48 ((8 * (gI m x0 4)) + (gI m b_31 ((gI m x0 4).toNatClampNeg)))) x0 48).toNatClampNeg) (gI (sI m x0 48 ((8 * (gI m x0 4)) + (gI m b_31 ((gI m x0 4).toNatClampNeg)))) x0 42)) b_33 ((gI (sI (sI m x0 48 ((8 * (gI m x0 4)) + (gI m b_31 ((gI m x0 4).toNatClampNeg)))) b_32 ((gI (sI m x0 48 ((8 * (gI m x0 4)) + (gI m b_31 ((gI m x0 4).toNatClampNeg)))) x0 48).toNatClampNeg) (gI (sI m x0 48 ((8 * (gI m x0 4)) + (gI m b_31 ((gI m x0 4).toNatClampNeg)))) x0 42)) x0 48).toNatClampNeg) (gI (sI (sI m x0 48 ((8 * (gI m x0 4)) + (gI m b_31 ((gI m x0 4).toNatClampNeg)))) b_32 ((gI (sI m x0 48 ((8 * (gI m x0 4)) + (gI m b_31 ((gI m x0 4).toNatClampNeg)))) x0 48).toNatClampNeg) (gI (sI m x0 48 ((8 * (gI m x0 4)) + (gI m b_31 ((gI m x0 4).toNatClampNeg)))) x0 42)) x0 43)) b_34 ((gI (sI (sI (sI m x0 48 ((8 * (gI m x0 4)) + (gI m b_31 ((gI m x0 4).toNatClampNeg)))) b_32 ((gI (sI m x0 48 ((8 * (gI m x0 4)) + (gI m b_31 ((gI m x0 4).toNatClampNeg)))) x0 48).toNatClampNeg) (gI (sI m x0 48 ((8 * (gI m x0 4)) + (gI m b_31 ((gI m x0 4).toNatClampNeg)))) x0 42)) b_33 ((gI (sI (sI m x0 48 ((8 * (gI m x0 4)) + (gI m b_31 ((gI m x0 4).toNatClampNeg)))) b_32 ((gI (sI m x0 48 ((8 * (gI m x0 4)) + (gI m b_31 ((gI m x0 4).toNatClampNeg)))) x0 48).toNatClampNeg) (gI (sI m x0 48 ((8 * (gI m x0 4)) + (gI m b_31 ((gI m x0 4).toNatClampNeg)))) x0 42)) x0 48).toNatClampNeg) (gI (sI (sI m x0 48 ((8 * (gI m x0 4)) + (gI m b_31 ((gI m x0 4).toNatClampNeg)))) b_32 ((gI (sI m x0 48 ((8 * (gI m x0 4)) + (gI m b_31 ((gI m x0 4).toNatClampNeg)))) x0 48).toNatClampNeg) (gI (sI m x0 48 ((8 * (gI m x0 4)) + (gI m b_31 ((gI m x0 4).toNatClampNeg)))) x0 42)) x0 43)) x0 48).toNatClampNeg) 0) b_35 ((gI (sI (sI (sI (sI m x0 48 ((8 * (gI m x0 4)) + (gI m b_31 ((gI m x0 4).toNatClampNeg)))) b_32 ((gI (sI m x0 48 ((8 * (gI m x0 4)) + (gI m b_31 ((gI m x0 4).toNatClampNeg)))) x0 48).toNatClampNeg) (gI (sI m x0 48 ((8 * (gI m x0 4)) + (gI m b_31 ((gI m x0 4).toNatClampNeg)))) x0 42)) b_33 ((gI (sI (sI m x0 48 ((8 * (gI m x0 4)) + (gI m b_31 ((gI m x0 4).toNatClampNeg)))) b_32 ((gI (sI m x0 48 ((8 * (gI m x0 4)) + (gI m b_31 ((gI m x0 4).toNatClampNeg)))) x0 48).toNatClampNeg) (gI (sI m x0 48 ((8 * (gI m x0 4)) + (gI m b_31 ((gI m x0 4).toNatClampNeg)))) x0 42)) x0 48).toNatClampNeg) (gI (sI (sI m x0 48 ((8 * (gI m x0 4)) + (gI m b_31 ((gI m x0 4).toNatClampNeg)))) b_32 ((gI (sI m x0 48 ((8 * (gI m x0 4)) + (gI m b_31 ((gI m x0 4).toNatClampNeg)))) x0 48).toNatClampNeg) (gI (sI m x0 48 ((8 * (gI m x0 4)) + (gI m b_31 ((gI m x0 4).toNatClampNeg)))) x0 42)) x0 43)) b_34 ((gI (sI (sI (sI m x0 48 ((8 * (gI m x0 4)) + (gI m b_31 ((gI m x0 4).toNatClampNeg)))) b_32 ((gI (sI m x0 48 ((8 * (gI m x0 4)) + (gI m b_31 ((gI m x0 4).toNatClampNeg)))) x0 48).toNatClampNeg) (gI (sI m x0 48 ((8 * (gI m x0 4)) + (gI m b_31 ((gI m x0 4).toNatClampNeg)))) x0 42)) b_33 ((gI (sI (sI m x0 48 ((8 * (gI m x0 4)) + (gI m b_31 ((gI m x0 4).toNatClampNeg)))) b_32 ((gI (sI m x0 48 ((8 * (gI m x0 4)) + (gI m b_31 ((gI m x0 4).toNatClampNeg)))) x0 48).toNatClampNeg) (gI (sI m x0 48 ((8 * (gI m x0 4)) + (gI m b_31 ((gI m x0 4).toNatClampNeg)))) x0 42)) x0 48).toNatClampNeg) (gI (sI (sI m x0 48 ((8 * (gI m x0 4)) + (gI m b_31 ((gI m x0 4).toNatClampNeg)))) b_32 ((gI (sI m x0 48 ((8 * (gI m x0 4)) + (gI m b_31 ((gI m x0 4).toNatClampNeg)))) x0 48).toNatClampNeg) (gI (sI m x0 48 ((8 * (gI m x0 4)) + (gI m b_31 ((gI m x0 4).toNatClampNeg)))) x0 42)) x0 43)) x0 48).toNatClampNeg) 0) x0 48).toNatClampNeg) 0) b_36 ((gI (sI (sI (sI (sI (sI m x0 48 ((8 * (gI m x0 4)) + (gI m b_31 ((gI m x0 4).toNatClampNeg)))) b_32 ((gI (sI m x0 48 ((8 * (gI m x0 4)) + (gI m b_31 ((gI m x0 4).toNatClampNeg)))) x0 48).toNatClampNeg) (gI (sI m x0 48 ((8 * (gI m x0 4)) + (gI m b_31 ((gI m x0 4).toNatClampNeg)))) x0 42)) b_33 ((gI (sI (sI m x0 48 ((8 * (gI m x0 4)) + (gI m b_31 ((gI m x0 4).toNatClampNeg)))) b_32 ((gI (sI m x0 48 ((8 * (gI m x0 4)) + (gI m b_31 ((gI m x0 4).toNatClampNeg)))) x0 48).toNatClampNeg) (gI (sI m x0 48 ((8 * (gI m x0 4)) + (gI m b_31 ((gI m x0 4).toNatClampNeg)))) x0 42)) x0 48).toNatClampNeg) (gI (sI (sI m x0 48 ((8 * (gI m x0 4)) + (gI m b_31 ((gI m x0 4).toNatClampNeg)))) b_32 ((gI (sI m x0 48 ((8 * (gI m x0 4)) + (gI m b_31 ((gI m x0 4).toNatClampNeg)))) x0 48).toNatClampNeg) (gI (sI m x0 48 ((8 * (gI m x0 4)) + (gI m b_31 ((gI m x0 4).toNatClampNeg)))) x0 42)) x0 43)) b_34 ((gI (sI (sI (sI m x0 48 ((8 * (gI m x0 4)) + (gI m b_31 ((gI m x0 4).toNatClampNeg)))) b_32 ((gI (sI m x0 48 ((8 * (gI m x0 4)) + (gI m b_31 ((gI m x0 4).toNatClampNeg)))) x0 48).toNatClampNeg) (gI (sI m x0 48 ((8 * (gI m x0 4)) + (gI m b_31 ((gI m x0 4).toNatClampNeg)))) x0 42)) b_33 ((gI (sI (sI m x0 48 ((8 * (gI m x0 4)) + (gI m b_31 ((gI m x0 4).toNatClampNeg)))) b_32 ((gI (sI m x0 48 ((8 * (gI m x0 4)) + (gI m b_31 ((gI m x0 4).toNatClampNeg)))) x0 48).toNatClampNeg) (gI (sI m x0 48 ((8 * (gI m x0 4)) + (gI m b_31 ((gI m x0 4).toNatClampNeg)))) x0 42)) x0 48).toNatClampNeg) (gI (sI (sI m x0 48 ((8 * (gI m x0 4)) + (gI m b_31 ((gI m x0 4).toNatClampNeg)))) b_32 ((gI (sI m x0 48 ((8 * (gI m x0 4)) + (gI m b_31 ((gI m x0 4).toNatClampNeg)))) x0 48).toNatClampNeg) (gI (sI m x0 48 ((8 * (gI m x0 4)) + (gI m b_31 ((gI m x0 4).toNatClampNeg)))) x0 42)) x0 43)) x0 48).toNatClampNeg) 0) b_35 ((gI (sI (sI (sI (sI m x0 48 ((8 * (gI m x0 4)) + (gI m b_31 ((gI m x0 4).toNatClampNeg)))) b_32 ((gI (sI m x0 48 ((8 * (gI m x0 4)) + (gI m b_31 ((gI m x0 4).toNatClampNeg)))) x0 48).toNatClampNeg) (gI (sI m x0 48 ((8 * (gI m x0 4)) + (gI m b_31 ((gI m x0 4).toNatClampNeg)))) x0 42)) b_33 ((gI (sI (sI m x0 48 ((8 * (gI m x0 4)) + (gI m b_31 ((gI m x0 4).toNatClampNeg)))) b_32 ((gI (sI m x0 48 ((8 * (gI m x0 4)) + (gI m b_31 ((gI m x0 4).toNatClampNeg)))) x0 48).toNatClampNeg) (gI (sI m x0 48 ((8 * (gI m x0 4)) + (gI m b_31 ((gI m x0 4).toNatClampNeg)))) x0 42)) x0 48).toNatClampNeg) (gI (sI (sI m x0 48 ((8 * (gI m x0 4)) + (gI m b_31 ((gI m x0 4).toNatClampNeg)))) b_32 ((gI (sI m x0 48 ((8 * (gI m x0 4)) + (gI m b_31 ((gI m x0 4).toNatClampNeg)))) x0 48).toNatClampNeg) (gI (sI m x0 48 ((8 * (gI m x0 4)) + (gI m b_31 ((gI m x0 4).toNatClampNeg)))) x0 42)) x0 43)) b_34 ((gI (sI (sI (sI m x0 48 ((8 * (gI m x0 4)) + (gI m b_31 ((gI m x0 4).toNatClampNeg)))) b_32 ((gI (sI m x0 48 ((8 * (gI m x0 4)) + (gI m b_31 ((gI m x0 4).toNatClampNeg)))) x0 48).toNatClampNeg) (gI (sI m x0 48 ((8 * (gI m x0 4)) + (gI m b_31 ((gI m x0 4).toNatClampNeg)))) x0 42)) b_33 ((gI (sI (sI m x0 48 ((8 * (gI m x0 4)) + (gI m b_31 ((gI m x0 4).toNatClampNeg)))) b_32 ((gI (sI m x0 48 ((8 * (gI m x0 4)) + (gI m b_31 ((gI m x0 4).toNatClampNeg)))) x0 48).toNatClampNeg) (gI (sI m x0 48 ((8 * (gI m x0 4)) + (gI m b_31 ((gI m x0 4).toNatClampNeg)))) x0 42)) x0 48).toNatClampNeg) (gI (sI (sI m x0 48 ((8 * (gI m x0 4)) + (gI m b_31 ((gI m x0 4).toNatClampNeg)))) b_32 ((gI (sI m x0 48 ((8 * (gI m x0 4)) + (gI m b_31 ((gI m x0 4).toNatClampNeg)))) x0 48).toNatClampNeg) (gI (sI m x0 48 ((8 * (gI m x0 4)) + (gI m b_31 ((gI m x0 4).toNatClampNeg)))) x0 42)) x0 43)) x0 48).toNatClampNeg) 0) x0 48).toNatClampNeg) 0) x0 48).toNatClampNeg) 0) b_37 ((gI (sI (sI (sI (sI (sI (sI m x0 48 ((8 * (gI m x0 4)) + (gI m b_31 ((gI m x0 4).toNatClampNeg)))) b_32 ((gI (sI m x0 48 ((8 * (gI m x0 4)) + (gI m b_31 ((gI m x0 4).toNatClampNeg)))) x0 48).toNatClampNeg) (gI (sI m x0 48 ((8 * (gI m x0 4)) + (gI m b_31 ((gI m x0 4).toNatClampNeg)))) x0 42)) b_33 ((gI (sI (sI m x0 48 ((8 * (gI m x0 4)) + (gI m b_31 ((gI m x0 4).toNatClampNeg)))) b_32 ((gI (sI m x0 48 ((8 * (gI m x0 4)) + (gI m b_31 ((gI m x0 4).toNatClampNeg)))) x0 48).toNatClampNeg) (gI (sI m x0 48 ((8 * (gI m x0 4)) + (gI m b_31 ((gI m x0 4).toNatClampNeg)))) x0 42)) x0 48).toNatClampNeg) (gI (sI (sI m x0 48 ((8 * (gI m x0 4)) + (gI m b_31 ((gI m x0 4).toNatClampNeg)))) b_32 ((gI (sI m x0 48 ((8 * (gI m x0 4)) + (gI m b_31 ((gI m x0 4).toNatClampNeg)))) x0 48).toNatClampNeg) (gI (sI m x0 48 ((8 * (gI m x0 4)) + (gI m b_31 ((gI m x0 4).toNatClampNeg)))) x0 42)) x0 43)) b_34 ((gI (sI (sI (sI m x0 48 ((8 * (gI m x0 4)) + (gI m b_31 ((gI m x0 4).toNatClampNeg)))) b_32 ((gI (sI m x0 48 ((8 * (gI m x0 4)) + (gI m b_31 ((gI m x0 4).toNatClampNeg)))) x0 48).toNatClampNeg) (gI (sI m x0 48 ((8 * (gI m x0 4)) + (gI m b_31 ((gI m x0 4).toNatClampNeg)))) x0 42)) b_33 ((gI (sI (sI m x0 48 ((8 * (gI m x0 4)) + (gI m b_31 ((gI m x0 4).toNatClampNeg)))) b_32 ((gI (sI m x0 48 ((8 * (gI m x0 4)) + (gI m b_31 ((gI m x0 4).toNatClampNeg)))) x0 48).toNatClampNeg) (gI (sI m x0 48 ((8 * (gI m x0 4)) + (gI m b_31 ((gI m x0 4).toNatClampNeg)))) x0 42)) x0 48).toNatClampNeg) (gI (sI (sI m x0 48 ((8 * (gI m x0 4)) + (gI m b_31 ((gI m x0 4).toNatClampNeg)))) b_32 ((gI (sI m x0 48 ((8 * (gI m x0 4)) + (gI m b_31 ((gI m x0 4).toNatClampNeg)))) x0 48).toNatClampNeg) (gI (sI m x0 48 ((8 * (gI m x0 4)) + (gI m b_31 ((gI m x0 4).toNatClampNeg)))) x0 42)) x0 43)) x0 48).toNatClampNeg) 0) b_35 ((gI (sI (sI (sI (sI m x0 48 ((8 * (gI m x0 4)) + (gI m b_31 ((gI m x0 4).toNatClampNeg)))) b_32 ((gI (sI m x0 48 ((8 * (gI m x0 4)) + (gI m b_31 ((gI m x0 4).toNatClampNeg)))) x0 48).toNatClampNeg) (gI (sI m x0 48 ((8 * (gI m x0 4)) + (gI m b_31 ((gI m x0 4).toNatClampNeg)))) x0 42)) b_33 ((gI (sI (sI m x0 48 ((8 * (gI m x0 4)) + (gI m b_31 ((gI m x0 4).toNatClampNeg)))) b_32 ((gI (sI m x0 48 ((8 * (gI m x0 4)) + (gI m b_31 ((gI m x0 4).toNatClampNeg)))) x0 48).toNatClampNeg) (gI (sI m x0 48 ((8 * (gI m x0 4)) + (gI m b_31 ((gI m x0 4).toNatClampNeg)))) x0 42)) x0 48).toNatClampNeg) (gI (sI (sI m x0 48 ((8 * (gI m x0 4)) + (gI m b_31 ((gI m x0 4).toNatClampNeg)))) b_32 ((gI (sI m x0 48 ((8 * (gI m x0 4)) + (gI m b_31 ((gI m x0 4).toNatClampNeg)))) x0 48).toNatClampNeg) (gI (sI m x0 48 ((8 * (gI m x0 4)) + (gI m b_31 ((gI m x0 4).toNatClampNeg)))) x0 42)) x0 43)) b_34 ((gI (sI (sI (sI m x0 48 ((8 * (gI m x0 4)) + (gI m b_31 ((gI m x0 4).toNatClampNeg)))) b_32 ((gI (sI m x0 48 ((8 * (gI m x0 4)) + (gI m b_31 ((gI m x0 4).toNatClampNeg)))) x0 48).toNatClampNeg) (gI (sI m x0 48 ((8 * (gI m x0 4)) + (gI m b_31 ((gI m x0 4).toNatClampNeg)))) x0 42)) b_33 ((gI (sI (sI m x0 48 ((8 * (gI m x0 4)) + (gI m b_31 ((gI m x0 4).toNatClampNeg)))) b_32 ((gI (sI m x0 48 ((8 * (gI m x0 4)) + (gI m b_31 ((gI m x0 4).toNatClampNeg)))) x0 48).toNatClampNeg) (gI (sI m x0 48 ((8 * (gI m x0 4)) + (gI m b_31 ((gI m x0 4).toNatClampNeg)))) x0 42)) x0 48).toNatClampNeg) (gI (sI (sI m x0 48 ((8 * (gI m x0 4)) + (gI m b_31 ((gI m x0 4).toNatClampNeg)))) b_32 ((gI (sI m x0 48 ((8 * (gI m x0 4)) + (gI m b_31 ((gI m x0 4).toNatClampNeg)))) x0 48).toNatClampNeg) (gI (sI m x0 48 ((8 * (gI m x0 4)) + (gI m b_31 ((gI m x0 4).toNatClampNeg)))) x0 42)) x0 43)) x0 48).toNatClampNeg) 0) x0 48).toNatClampNeg) 0) b_36 ((gI (sI (sI (sI (sI (sI m x0 48 ((8 * (gI m x0 4)) + (gI m b_31 ((gI m x0 4).toNatClampNeg)))) b_32 ((gI (sI m x0 48 ((8 * (gI m x0 4)) + (gI m b_31 ((gI m x0 4).toNatClampNeg)))) x0 48).toNatClampNeg) (gI (sI m x0 48 ((8 * (gI m x0 4)) + (gI m b_31 ((gI m x0 4).toNatClampNeg)))) x0 42)) b_33 ((gI (sI (sI m x0 48 ((8 * (gI m x0 4)) + (gI m b_31 ((gI m x0 4).toNatClampNeg)))) b_32 ((gI (sI m x0 48 ((8 * (gI m x0 4)) + (gI m b_31 ((gI m x0 4).toNatClampNeg)))) x0 48).toNatClampNeg) (gI (sI m x0 48 ((8 * (gI m x0 4)) + (gI m b_31 ((gI m x0 4).toNatClampNeg)))) x0 42)) x0 48).toNatClampNeg) (gI (sI (sI m x0 48 ((8 * (gI m x0 4)) + (gI m b_31 ((gI m x0 4).toNatClampNeg)))) b_32 ((gI (sI m x0 48 ((8 * (gI m x0 4)) + (gI m b_31 ((gI m x0 4).toNatClampNeg)))) x0 48).toNatClampNeg) (gI (sI m x0 48 ((8 * (gI m x0 4)) + (gI m b_31 ((gI m x0 4).toNatClampNeg)))) x0 42)) x0 43)) b_34 ((gI (sI (sI (sI m x0 48 ((8 * (gI m x0 4)) + (gI m b_31 ((gI m x0 4).toNatClampNeg)))) b_32 ((gI (sI m x0 48 ((8 * (gI m x0 4)) + (gI m b_31 ((gI m x0 4).toNatClampNeg)))) x0 48).toNatClampNeg) (gI (sI m x0 48 ((8 * (gI m x0 4)) + (gI m b_31 ((gI m x0 4).toNatClampNeg)))) x0 42)) b_33 ((gI (sI (sI m x0 48 ((8 * (gI m x0 4)) + (gI m b_31 ((gI m x0 4).toNatClampNeg)))) b_32 ((gI (sI m x0 48 ((8 * (gI m x0 4)) + (gI m b_31 ((gI m x0 4).toNatClampNeg)))) x0 48).toNatClampNeg) (gI (sI m x0 48 ((8 * (gI m x0 4)) + (gI m b_31 ((gI m x0 4).toNatClampNeg)))) x0 42)) x0 48).toNatClampNeg) (gI (sI (sI m x0 48 ((8 * (gI m x0 4)) + (gI m b_31 ((gI m x0 4).toNatClampNeg)))) b_32 ((gI (sI m x0 48 ((8 * (gI m x0 4)) + (gI m b_31 ((gI m x0 4).toNatClampNeg)))) x0 48).toNatClampNeg) (gI (sI m x0 48 ((8 * (gI m x0 4)) + (gI m b_31 ((gI m x0 4).toNatClampNeg)))) x0 42)) x0 43)) x0 48).toNatClampNeg) 0) b_35 ((gI (sI (sI (sI (sI m x0 48 ((8 * (gI m x0 4)) + (gI m b_31 ((gI m x0 4).toNatClampNeg)))) b_32 ((gI (sI m x0 48 ((8 * (gI m x0 4)) + (gI m b_31 ((gI m x0 4).toNatClampNeg)))) x0 48).toNatClampNeg) (gI (sI m x0 48 ((8 * (gI m x0 4)) + (gI m b_31 ((gI m x0 4).toNatClampNeg)))) x0 42)) b_33 ((gI (sI (sI m x0 48 ((8 * (gI m x0 4)) + (gI m b_31 ((gI m x0 4).toNatClampNeg)))) b_32 ((gI (sI m x0 48 ((8 * (gI m x0 4)) + (gI m b_31 ((gI m x0 4).toNatClampNeg)))) x0 48).toNatClampNeg) (gI (sI m x0 48 ((8 * (gI m x0 4)) + (gI m b_31 ((gI m x0 4).toNatClampNeg)))) x0 42)) x0 48).toNatClampNeg) (gI (sI (sI m x0 48 ((8 * (gI m x0 4)) + (gI m b_31 ((gI m x0 4).toNatClampNeg)))) b_32 ((gI (sI m x0 48 ((8 * (gI m x0 4)) + (gI m b_31 ((gI m x0 4).toNatClampNeg)))) x0 48).toNatClampNeg) (gI (sI m x0 48 ((8 * (gI m x0 4)) + (gI m b_31 ((gI m x0 4).toNatClampNeg)))) x0 42)) x0 43)) b_34 ((gI (sI (sI (sI m x0 48 ((8 * (gI m x0 4)) + (gI m b_31 ((gI m x0 4).toNatClampNeg)))) b_32 ((gI (sI m x0 48 ((8 * (gI m x0 4)) + (gI m b_31 ((gI m x0 4).toNatClampNeg)))) x0 48).toNatClampNeg) (gI (sI m x0 48 ((8 * (gI m x0 4)) + (gI m b_31 ((gI m x0 4).toNatClampNeg)))) x0 42)) b_33 ((gI (sI (sI m x0 48 ((8 * (gI m x0 4)) + (gI m b_31 ((gI m x0 4).toNatClampNeg)))) b_32 ((gI (sI m x0 48 ((8 * (gI m x0 4)) + (gI m b_31 ((gI m x0 4).toNatClampNeg)))) x0 48).toNatClampNeg) (gI (sI m x0 48 ((8 * (gI m x0 4)) + (gI m b_31 ((gI m x0 4).toNatClampNeg)))) x0 42)) x0 48).toNatClampNeg) (gI (sI (sI m x0 48 ((8 * (gI m x0 4)) + (gI m b_31 ((gI m x0 4).toNatClampNeg)))) b_32 ((gI (sI m x0 48 ((8 * (gI m x0 4)) + (gI m b_31 ((gI m x0 4).toNatClampNeg)))) x0 48).toNatClampNeg) (gI (sI m x0 48 ((8 * (gI m x0 4)) + (gI m b_31 ((gI m x0 4).toNatClampNeg)))) x0 42)) x0 43)) x0 48).toNatClampNeg) 0) x0 48).toNatClampNeg) 0) x0 48).toNatClampNeg) 0) x0 48).toNatClampNeg) (-1)) b_38 ((gI (sI (sI (sI (sI (sI (sI (sI m x0 48 ((8 * (gI m x0 4)) + (gI m b_31 ((gI m x0 4).toNatClampNeg)))) b_32 ((gI (sI m x0 48 ((8 * (gI m x0 4)) + (gI m b_31 ((gI m x0 4).toNatClampNeg)))) x0 48).toNatClampNeg) (gI (sI m x0 48 ((8 * (gI m x0 4)) + (gI m b_31 ((gI m x0 4).toNatClampNeg)))) x0 42)) b_33 ((gI (sI (sI m x0 48 ((8 * (gI m x0 4)) + (gI m b_31 ((gI m x0 4).toNatClampNeg)))) b_32 ((gI (sI m x0 48 ((8 * (gI m x0 4)) + (gI m b_31 ((gI m x0 4).toNatClampNeg)))) x0 48).toNatClampNeg) (gI (sI m x0 48 ((8 * (gI m x0 4)) + (gI m b_31 ((gI m x0 4).toNatClampNeg)))) x0 42)) x0 48).toNatClampNeg) (gI (sI (sI m x0 48 ((8 * (gI m x0 4)) + (gI m b_31 ((gI m x0 4).toNatClampNeg)))) b_32 ((gI (sI m x0 48 ((8 * (gI m x0 4)) + (gI m b_31 ((gI m x0 4).toNatClampNeg)))) x0 48).toNatClampNeg) (gI (sI m x0 48 ((8 * (gI m x0 4)) + (gI m b_31 ((gI m x0 4).toNatClampNeg)))) x0 42)) x0 43)) b_34 ((gI (sI (sI (sI m x0 48 ((8 * (gI m x0 4)) + (gI m b_31 ((gI m x0 4).toNatClampNeg)))) b_32 ((gI (sI m x0 48 ((8 * (gI m x0 4)) + (gI m b_31 ((gI m x0 4).toNatClampNeg)))) x0 48).toNatClampNeg) (gI (sI m x0 48 ((8 * (gI m x0 4)) + (gI m b_31 ((gI m x0 4).toNatClampNeg)))) x0 42)) b_33 ((gI (sI (sI m x0 48 ((8 * (gI m x0 4)) + (gI m b_31 ((gI m x0 4).toNatClampNeg)))) b_32 ((gI (sI m x0 48 ((8 * (gI m x0 4)) + (gI m b_31 ((gI m x0 4).toNatClampNeg)))) x0 48).toNatClampNeg) (gI (sI m x0 48 ((8 * (gI m x0 4)) + (gI m b_31 ((gI m x0 4).toNatClampNeg)))) x0 42)) x0 48).toNatClampNeg) (gI (sI (sI m x0 48 ((8 * (gI m x0 4)) + (gI m b_31 ((gI m x0 4).toNatClampNeg)))) b_32 ((gI (sI m x0 48 ((8 * (gI m x0 4)) + (gI m b_31 ((gI m x0 4).toNatClampNeg)))) x0 48).toNatClampNeg) (gI (sI m x0 48 ((8 * (gI m x0 4)) + (gI m b_31 ((gI m x0 4).toNatClampNeg)))) x0 42)) x0 43)) x0 48).toNatClampNeg) 0) b_35 ((gI (sI (sI (sI (sI m x0 48 ((8 * (gI m x0 4)) + (gI m b_31 ((gI m x0 4).toNatClampNeg)))) b_32 ((gI (sI m x0 48 ((8 * (gI m x0 4)) + (gI m b_31 ((gI m x0 4).toNatClampNeg)))) x0 48).toNatClampNeg) (gI (sI m x0 48 ((8 * (gI m x0 4)) + (gI m b_31 ((gI m x0 4).toNatClampNeg)))) x0 42)) b_33 ((gI (sI (sI m x0 48 ((8 * (gI m x0 4)) + (gI m b_31 ((gI m x0 4).toNatClampNeg)))) b_32 ((gI (sI m x0 48 ((8 * (gI m x0 4)) + (gI m b_31 ((gI m x0 4).toNatClampNeg)))) x0 48).toNatClampNeg) (gI (sI m x0 48 ((8 * (gI m x0 4)) + (gI m b_31 ((gI m x0 4).toNatClampNeg)))) x0 42)) x0 48).toNatClampNeg) (gI (sI (sI m x0 48 ((8 * (gI m x0 4)) + (gI m b_31 ((gI m x0 4).toNatClampNeg)))) b_32 ((gI (sI m x0 48 ((8 * (gI m x0 4)) + (gI m b_31 ((gI m x0 4).toNatClampNeg)))) x0 48).toNatClampNeg) (gI (sI m x0 48 ((8 * (gI m x0 4)) + (gI m b_31 ((gI m x0 4).toNatClampNeg)))) x0 42)) x0 43)) b_34 ((gI (sI (sI (sI m x0 48 ((8 * (gI m x0 4)) + (gI m b_31 ((gI m x0 4).toNatClampNeg)))) b_32 ((gI (sI m x0 48 ((8 * (gI m x0 4)) + (gI m b_31 ((gI m x0 4).toNatClampNeg)))) x0 48).toNatClampNeg) (gI (sI m x0 48 ((8 * (gI m x0 4)) + (gI m b_31 ((gI m x0 4).toNatClampNeg)))) x0 42)) b_33 ((gI (sI (sI m x0 48 ((8 * (gI m x0 4)) + (gI m b_31 ((gI m x0 4).toNatClampNeg)))) b_32 ((gI (sI m x0 48 ((8 * (gI m x0 4)) + (gI m b_31 ((gI m x0 4).toNatClampNeg)))) x0 48).toNatClampNeg) (gI (sI m x0 48 ((8 * (gI m x0 4)) + (gI m b_31 ((gI m x0 4).toNatClampNeg)))) x0 42)) x0 48).toNatClampNeg) (gI (sI (sI m x0 48 ((8 * (gI m x0 4)) + (gI m b_31 ((gI m x0 4).toNatClampNeg)))) b_32 ((gI (sI m x0 48 ((8 * (gI m x0 4)) + (gI m b_31 ((gI m x0 4).toNatClampNeg)))) x0 48).toNatClampNeg) (gI (sI m x0 48 ((8 * (gI m x0 4)) + (gI m b_31 ((gI m x0 4).toNatClampNeg)))) x0 42)) x0 43)) x0 48).toNatClampNeg) 0) x0 48).toNatClampNeg) 0) b_36 ((gI (sI (sI (sI (sI (sI m x0 48 ((8 * (gI m x0 4)) + (gI m b_31 ((gI m x0 4).toNatClampNeg)))) b_32 ((gI (sI m x0 48 ((8 * (gI m x0 4)) + (gI m b_31 ((gI m x0 4).toNatClampNeg)))) x0 48).toNatClampNeg) (gI (sI m x0 48 ((8 * (gI m x0 4)) + (gI m b_31 ((gI m x0 4).toNatClampNeg)))) x0 42)) b_33 ((gI (sI (sI m x0 48 ((8 * (gI m x0 4)) + (gI m b_31 ((gI m x0 4).toNatClampNeg)))) b_32 ((gI (sI m x0 48 ((8 * (gI m x0 4)) + (gI m b_31 ((gI m x0 4).toNatClampNeg)))) x0 48).toNatClampNeg) (gI (sI m x0 48 ((8 * (gI m x0 4)) + (gI m b_31 ((gI m x0 4).toNatClampNeg)))) x0 42)) x0 48).toNatClampNeg) (gI (sI (sI m x0 48 ((8 * (gI m x0 4)) + (gI m b_31 ((gI m x0 4).toNatClampNeg)))) b_32 ((gI (sI m x0 48 ((8 * (gI m x0 4)) + (gI m b_31 ((gI m x0 4).toNatClampNeg)))) x0 48).toNatClampNeg) (gI (sI m x0 48 ((8 * (gI m x0 4)) + (gI m b_31 ((gI m x0 4).toNatClampNeg)))) x0 42)) x0 43)) b_34 ((gI (sI (sI (sI m x0 48 ((8 * (gI m x0 4)) + (gI m b_31 ((gI m x0 4).toNatClampNeg)))) b_32 ((gI (sI m x0 48 ((8 * (gI m x0 4)) + (gI m b_31 ((gI m x0 4).toNatClampNeg)))) x0 48).toNatClampNeg) (gI (sI m x0 48 ((8 * (gI m x0 4)) + (gI m b_31 ((gI m x0 4).toNatClampNeg)))) x0 42)) b_33 ((gI (sI (sI m x0 48 ((8 * (gI m x0 4)) + (gI m b_31 ((gI m x0 4).toNatClampNeg)))) b_32 ((gI (sI m x0 48 ((8 * (gI m x0 4)) + (gI m b_31 ((gI m x0 4).toNatClampNeg)))) x0 48).toNatClampNeg) (gI (sI m x0 48 ((8 * (gI m x0 4)) + (gI m b_31 ((gI m x0 4).toNatClampNeg)))) x0 42)) x0 48).toNatClampNeg) (gI (sI (sI m x0 48 ((8 * (gI m x0 4)) + (gI m b_31 ((gI m x0 4).toNatClampNeg)))) b_32 ((gI (sI m x0 48 ((8 * (gI m x0 4)) + (gI m b_31 ((gI m x0 4).toNatClampNeg)))) x0 48).toNatClampNeg) (gI (sI m x0 48 ((8 * (gI m x0 4)) + (gI m b_31 ((gI m x0 4).toNatClampNeg)))) x0 42)) x0 43)) x0 48).toNatClampNeg) 0) b_35 ((gI (sI (sI (sI (sI m x0 48 ((8 * (gI m x0 4)) + (gI m b_31 ((gI m x0 4).toNatClampNeg)))) b_32 ((gI (sI m x0 48 ((8 * (gI m x0 4)) + (gI m b_31 ((gI m x0 4).toNatClampNeg)))) x0 48).toNatClampNeg) (gI (sI m x0 48 ((8 * (gI m x0 4)) + (gI m b_31 ((gI m x0 4).toNatClampNeg)))) x0 42)) b_33 ((gI (sI (sI m x0 48 ((8 * (gI m x0 4)) + (gI m b_31 ((gI m x0 4).toNatClampNeg)))) b_32 ((gI (sI m x0 48 ((8 * (gI m x0 4)) + (gI m b_31 ((gI m x0 4).toNatClampNeg)))) x0 48).toNatClampNeg) (gI (sI m x0 48 ((8 * (gI m x0 4)) + (gI m b_31 ((gI m x0 4).toNatClampNeg)))) x0 42)) x0 48).toNatClampNeg) (gI (sI (sI m x0 48 ((8 * (gI m x0 4)) + (gI m b_31 ((gI m x0 4).toNatClampNeg)))) b_32 ((gI (sI m x0 48 ((8 * (gI m x0 4)) + (gI m b_31 ((gI m x0 4).toNatClampNeg)))) x0 48).toNatClampNeg) (gI (sI m x0 48 ((8 * (gI m x0 4)) + (gI m b_31 ((gI m x0 4).toNatClampNeg)))) x0 42)) x0 43)) b_34 ((gI (sI (sI (sI m x0 48 ((8 * (gI m x0 4)) + (gI m b_31 ((gI m x0 4).toNatClampNeg)))) b_32 ((gI (sI m x0 48 ((8 * (gI m x0 4)) + (gI m b_31 ((gI m x0 4).toNatClampNeg)))) x0 48).toNatClampNeg) (gI (sI m x0 48 ((8 * (gI m x0 4)) + (gI m b_31 ((gI m x0 4).toNatClampNeg)))) x0 42)) b_33 ((gI (sI (sI m x0 48 ((8 * (gI m x0 4)) + (gI m b_31 ((gI m x0 4).toNatClampNeg)))) b_32 ((gI (sI m x0 48 ((8 * (gI m x0 4)) + (gI m b_31 ((gI m x0 4).toNatClampNeg)))) x0 48).toNatClampNeg) (gI (sI m x0 48 ((8 * (gI m x0 4)) + (gI m b_31 ((gI m x0 4).toNatClampNeg)))) x0 42)) x0 48).toNatClampNeg) (gI (sI (sI m x0 48 ((8 * (gI m x0 4)) + (gI m b_31 ((gI m x0 4).toNatClampNeg)))) b_32 ((gI (sI m x0 48 ((8 * (gI m x0 4)) + (gI m b_31 ((gI m x0 4).toNatClampNeg)))) x0 48).toNatClampNeg) (gI (sI m x0 48 ((8 * (gI m x0 4)) + (gI m b_31 ((gI m x0 4).toNatClampNeg)))) x0 42)) x0 43)) x0 48).toNatClampNeg) 0) x0 48).toNatClampNeg) 0) x0 48).toNatClampNeg) 0) b_37 ((gI (sI (sI (sI (sI (sI (sI m x0 48 ((8 * (gI m x0 4)) + (gI m b_31 ((gI m x0 4).toNatClampNeg)))) b_32 ((gI (sI m x0 48 ((8 * (gI m x0 4)) + (gI m b_31 ((gI m x0 4).toNatClampNeg)))) x0 48).toNatClampNeg) (gI (sI m x0 48 ((8 * (gI m x0 4)) + (gI m b_31 ((gI m x0 4).toNatClampNeg)))) x0 42)) b_33 ((gI (sI (sI m x0 48 ((8 * (gI m x0 4)) + (gI m b_31 ((gI m x0 4).toNatClampNeg)))) b_32 ((gI (sI m x0 48 ((8 * (gI m x0 4)) + (gI m b_31 ((gI m x0 4).toNatClampNeg)))) x0 48).toNatClampNeg) (gI (sI m x0 48 ((8 * (gI m x0 4)) + (gI m b_31 ((gI m x0 4).toNatClampNeg)))) x0 42)) x0 48).toNatClampNeg) (gI (sI (sI m x0 48 ((8 * (gI m x0 4)) + (gI m b_31 ((gI m x0 4).toNatClampNeg)))) b_32 ((gI (sI m x0 48 ((8 * (gI m x0 4)) + (gI m b_31 ((gI m x0 4).toNatClampNeg)))) x0 48).toNatClampNeg) (gI (sI m x0 48 ((8 * (gI m x0 4)) + (gI m b_31 ((gI m x0 4).toNatClampNeg)))) x0 42)) x0 43)) b_34 ((gI (sI (sI (sI m x0 48 ((8 * (gI m x0 4)) + (gI m b_31 ((gI m x0 4).toNatClampNeg)))) b_32 ((gI (sI m x0 48 ((8 * (gI m x0 4)) + (gI m b_31 ((gI m x0 4).toNatClampNeg)))) x0 48).toNatClampNeg) (gI (sI m x0 48 ((8 * (gI m x0 4)) + (gI m b_31 ((gI m x0 4).toNatClampNeg)))) x0 42)) b_33 ((gI (sI (sI m x0 48 ((8 * (gI m x0 4)) + (gI m b_31 ((gI m x0 4).toNatClampNeg)))) b_32 ((gI (sI m x0 48 ((8 * (gI m x0 4)) + (gI m b_31 ((gI m x0 4).toNatClampNeg)))) x0 48).toNatClampNeg) (gI (sI m x0 48 ((8 * (gI m x0 4)) + (gI m b_31 ((gI m x0 4).toNatClampNeg)))) x0 42)) x0 48).toNatClampNeg) (gI (sI (sI m x0 48 ((8 * (gI m x0 4)) + (gI m b_31 ((gI m x0 4).toNatClampNeg)))) b_32 ((gI (sI m x0 48 ((8 * (gI m x0 4)) + (gI m b_31 ((gI m x0 4).toNatClampNeg)))) x0 48).toNatClampNeg) (gI (sI m x0 48 ((8 * (gI m x0 4)) + (gI m b_31 ((gI m x0 4).toNatClampNeg)))) x0 42)) x0 43)) x0 48).toNatClampNeg) 0) b_35 ((gI (sI (sI (sI (sI m x0 48 ((8 * (gI m x0 4)) + (gI m b_31 ((gI m x0 4).toNatClampNeg)))) b_32 ((gI (sI m x0 48 ((8 * (gI m x0 4)) + (gI m b_31 ((gI m x0 4).toNatClampNeg)))) x0 48).toNatClampNeg) (gI (sI m x0 48 ((8 * (gI m x0 4)) + (gI m b_31 ((gI m x0 4).toNatClampNeg)))) x0 42)) b_33 ((gI (sI (sI m x0 48 ((8 * (gI m x0 4)) + (gI m b_31 ((gI m x0 4).toNatClampNeg)))) b_32 ((gI (sI m x0 48 ((8 * (gI m x0 4)) + (gI m b_31 ((gI m x0 4).toNatClampNeg)))) x0 48).toNatClampNeg) (gI (sI m x0 48 ((8 * (gI m x0 4)) + (gI m b_31 ((gI m x0 4).toNatClampNeg)))) x0 42)) x0 48).toNatClampNeg) (gI (sI (sI m x0 48 ((8 * (gI m x0 4)) + (gI m b_31 ((gI m x0 4).toNatClampNeg)))) b_32 ((gI (sI m x0 48 ((8 * (gI m x0 4)) + (gI m b_31 ((gI m x0 4).toNatClampNeg)))) x0 48).toNatClampNeg) (gI (sI m x0 48 ((8 * (gI m x0 4)) + (gI m b_31 ((gI m x0 4).toNatClampNeg)))) x0 42)) x0 43)) b_34 ((gI (sI (sI (sI m x0 48 ((8 * (gI m x0 4)) + (gI m b_31 ((gI m x0 4).toNatClampNeg)))) b_32 ((gI (sI m x0 48 ((8 * (gI m x0 4)) + (gI m b_31 ((gI m x0 4).toNatClampNeg)))) x0 48).toNatClampNeg) (gI (sI m x0 48 ((8 * (gI m x0 4)) + (gI m b_31 ((gI m x0 4).toNatClampNeg)))) x0 42)) b_33 ((gI (sI (sI m x0 48 ((8 * (gI m x0 4)) + (gI m b_31 ((gI m x0 4).toNatClampNeg)))) b_32 ((gI (sI m x0 48 ((8 * (gI m x0 4)) + (gI m b_31 ((gI m x0 4).toNatClampNeg)))) x0 48).toNatClampNeg) (gI (sI m x0 48 ((8 * (gI m x0 4)) + (gI m b_31 ((gI m x0 4).toNatClampNeg)))) x0 42)) x0 48).toNatClampNeg) (gI (sI (sI m x0 48 ((8 * (gI m x0 4)) + (gI m b_31 ((gI m x0 4).toNatClampNeg)))) b_32 ((gI (sI m x0 48 ((8 * (gI m x0 4)) + (gI m b_31 ((gI m x0 4).toNatClampNeg)))) x0 48).toNatClampNeg) (gI (sI m x0 48 ((8 * (gI m x0 4)) + (gI m b_31 ((gI m x0 4).toNatClampNeg)))) x0 42)) x0 43)) x0 48).toNatClampNeg) 0) x0 48).toNatClampNeg) 0) b_36 ((gI (sI (sI (sI (sI (sI m x0 48 ((8 * (gI m x0 4)) + (gI m b_31 ((gI m x0 4).toNatClampNeg)))) b_32 ((gI (sI m x0 48 ((8 * (gI m x0 4)) + (gI m b_31 ((gI m x0 4).toNatClampNeg)))) x0 48).toNatClampNeg) (gI (sI m x0 48 ((8 * (gI m x0 4)) + (gI m b_31 ((gI m x0 4).toNatClampNeg)))) x0 42)) b_33 ((gI (sI (sI m x0 48 ((8 * (gI m x0 4)) + (gI m b_31 ((gI m x0 4).toNatClampNeg)))) b_32 ((gI (sI m x0 48 ((8 * (gI m x0 4)) + (gI m b_31 ((gI m x0 4).toNatClampNeg)))) x0 48).toNatClampNeg) (gI (sI m x0 48 ((8 * (gI m x0 4)) + (gI m b_31 ((gI m x0 4).toNatClampNeg)))) x0 42)) x0 48).toNatClampNeg) (gI (sI (sI m x0 48 ((8 * (gI m x0 4)) + (gI m b_31 ((gI m x0 4).toNatClampNeg)))) b_32 ((gI (sI m x0 48 ((8 * (gI m x0 4)) + (gI m b_31 ((gI m x0 4).toNatClampNeg)))) x0 48).toNatClampNeg) (gI (sI m x0 48 ((8 * (gI m x0 4)) + (gI m b_31 ((gI m x0 4).toNatClampNeg)))) x0 42)) x0 43)) b_34 ((gI (sI (sI (sI m x0 48 ((8 * (gI m x0 4)) + (gI m b_31 ((gI m x0 4).toNatClampNeg)))) b_32 ((gI (sI m x0 48 ((8 * (gI m x0 4)) + (gI m b_31 ((gI m x0 4).toNatClampNeg)))) x0 48).toNatClampNeg) (gI (sI m x0 48 ((8 * (gI m x0 4)) + (gI m b_31 ((gI m x0 4).toNatClampNeg)))) x0 42)) b_33 ((gI (sI (sI m x0 48 ((8 * (gI m x0 4)) + (gI m b_31 ((gI m x0 4).toNatClampNeg)))) b_32 ((gI (sI m x0 48 ((8 * (gI m x0 4)) + (gI m b_31 ((gI m x0 4).toNatClampNeg)))) x0 48).toNatClampNeg) (gI (sI m x0 48 ((8 * (gI m x0 4)) + (gI m b_31 ((gI m x0 4).toNatClampNeg)))) x0 42)) x0 48).toNatClampNeg) (gI (sI (sI m x0 48 ((8 * (gI m x0 4)) + (gI m b_31 ((gI m x0 4).toNatClampNeg)))) b_32 ((gI (sI m x0 48 ((8 * (gI m x0 4)) + (gI m b_31 ((gI m x0 4).toNatClampNeg)))) x0 48).toNatClampNeg) (gI (sI m x0 48 ((8 * (gI m x0 4)) + (gI m b_31 ((gI m x0 4).toNatClampNeg)))) x0 42)) x0 43)) x0 48).toNatClampNeg) 0) b_35 ((gI (sI (sI (sI (sI m x0 48 ((8 * (gI m x0 4)) + (gI m b_31 ((gI m x0 4).toNatClampNeg)))) b_32 ((gI (sI m x0 48 ((8 * (gI m x0 4)) + (gI m b_31 ((gI m x0 4).toNatClampNeg)))) x0 48).toNatClampNeg) (gI (sI m x0 48 ((8 * (gI m x0 4)) + (gI m b_31 ((gI m x0 4).toNatClampNeg)))) x0 42)) b_33 ((gI (sI (sI m x0 48 ((8 * (gI m x0 4)) + (gI m b_31 ((gI m x0 4).toNatClampNeg)))) b_32 ((gI (sI m x0 48 ((8 * (gI m x0 4)) + (gI m b_31 ((gI m x0 4).toNatClampNeg)))) x0 48).toNatClampNeg) (gI (sI m x0 48 ((8 * (gI m x0 4)) + (gI m b_31 ((gI m x0 4).toNatClampNeg)))) x0 42)) x0 48).toNatClampNeg) (gI (sI (sI m x0 48 ((8 * (gI m x0 4)) + (gI m b_31 ((gI m x0 4).toNatClampNeg)))) b_32 ((gI (sI m x0 48 ((8 * (gI m x0 4)) + (gI m b_31 ((gI m x0 4).toNatClampNeg)))) x0 48).toNatClampNeg) (gI (sI m x0 48 ((8 * (gI m x0 4)) + (gI m b_31 ((gI m x0 4).toNatClampNeg)))) x0 42)) x0 43)) b_34 ((gI (sI (sI (sI m x0 48 ((8 * (gI m x0 4)) + (gI m b_31 ((gI m x0 4).toNatClampNeg)))) b_32 ((gI (sI m x0 48 ((8 * (gI m x0 4)) + (gI m b_31 ((gI m x0 4).toNatClampNeg)))) x0 48).toNatClampNeg) (gI (sI m x0 48 ((8 * (gI m x0 4)) + (gI m b_31 ((gI m x0 4).toNatClampNeg)))) x0 42)) b_33 ((gI (sI (sI m x0 48 ((8 * (gI m x0 4)) + (gI m b_31 ((gI m x0 4).toNatClampNeg)))) b_32 ((gI (sI m x0 48 ((8 * (gI m x0 4)) + (gI m b_31 ((gI m x0 4).toNatClampNeg)))) x0 48).toNatClampNeg) (gI (sI m x0 48 ((8 * (gI m x0 4)) + (gI m b_31 ((gI m x0 4).toNatClampNeg)))) x0 42)) x0 48).toNatClampNeg) (gI (sI (sI m x0 48 ((8 * (gI m x0 4)) + (gI m b_31 ((gI m x0 4).toNatClampNeg)))) b_32 ((gI (sI m x0 48 ((8 * (gI m x0 4)) + (gI m b_31 ((gI m x0 4).toNatClampNeg)))) x0 48).toNatClampNeg) (gI (sI m x0 48 ((8 * (gI m x0 4)) + (gI m b_31 ((gI m x0 4).toNatClampNeg)))) x0 42)) x0 43)) x0 48).toNatClampNeg) 0) x0 48).toNatClampNeg) 0) x0 48).toNatClampNeg) 0) x0 48).toNatClampNeg) (-1)) x0 48).toNatClampNeg) (-1)) x0 6) fun b_39 =>
                                          ib (gI (sI (sI (sI (sI (sI (sI (sI (sI m x0 48 ((8 * (gI m x0 4)) + (gI m b_31 ((gI m x0 4).toNatClampNeg)))) b_32 ((gI (sI m x0 48 ((8 * (gI m x0 4)) + (gI m b_31 ((gI m x0 4).toNatClampNeg)))) x0 48).toNatClampNeg) (gI (sI m x0 48 ((8 * (gI m x0 4)) + (gI m b_31 ((gI m x0 4).toNatClampNeg)))) x0 42)) b_33 ((gI (sI (sI m x0 48 ((8 * (gI m x0 4)) + (gI m b_31 ((gI m x0 4).toNatClampNeg)))) b_32 ((gI (sI m x0 48 ((8 * (gI m x0 4)) + (gI m b_31 ((gI m x0 4).toNatClampNeg)))) x0 48).toNatClampNeg) (gI (sI m x0 48 ((8 * (gI m x0 4)) + (gI m b_31 ((gI m x0 4).toNatClampNeg)))) x0 42)) x0 48).toNatClampNeg) (gI (sI (sI m x0 48 ((8 * (gI m x0 4)) + (gI m b_31 ((gI m x0 4).toNatClampNeg)))) b_32 ((gI (sI m x0 48 ((8 * (gI m x0 4)) + (gI m b_31 ((gI m x0 4).toNatClampNeg)))) x0 48).toNatClampNeg) (gI (sI m x0 48 ((8 * (gI m x0 4)) + (gI m b_31 ((gI m x0 4).toNatClampNeg)))) x0 42)) x0 43)) b_34 ((gI (sI (sI (sI m x0 48 ((8 * (gI m x0 4)) + (gI m b_31 ((gI m x0 4).toNatClampNeg)))) b_32 ((gI (sI m x0 48 ((8 * (gI m x0 4)) + (gI m b_31 ((gI m x0 4).toNatClampNeg)))) x0 48).toNatClampNeg) (gI (sI m x0 48 ((8 * (gI m x0 4)) + (gI m b_31 ((gI m x0 4).toNatClampNeg)))) x0 42)) b_33 ((gI (sI (sI m x0 48 ((8 * (gI m x0 4)) + (gI m b_31 ((gI m x0 4).toNatClampNeg)))) b_32 ((gI (sI m x0 48 ((8 * (gI m x0 4)) + (gI m b_31 ((gI m x0 4).toNatClampNeg)))) x0 48).toNatClampNeg) (gI (sI m x0 48 ((8 * (gI m x0 4)) + (gI m b_31 ((gI m x0 4).toNatClampNeg)))) x0 42)) x0 48).toNatClampNeg) (gI (sI (sI m x0 48 ((8 * (gI m x0 4)) + (gI m b_31 ((gI m x0 4).toNatClampNeg)))) b_32 ((gI (sI m x0 48 ((8 * (gI m x0 4)) + (gI m b_31 ((gI m x0 4).toNatClampNeg)))) x0 48).toNatClampNeg) (gI (sI m x0 48 ((8 * (gI m x0 4)) + (gI m b_31 ((gI m x0 4).toNatClampNeg)))) x0 42)) x0 43)) x0 48).toNatClampNeg) 0) b_35 ((gI (sI (sI (sI (sI m x0 48 ((8 * (gI m x0 4)) + (gI m b_31 ((gI m x0 4).toNatClampNeg)))) b_32 ((gI (sI m x0 48 ((8 * (gI m x0 4)) + (gI m b_31 ((gI m x0 4).toNatClampNeg)))) x0 48).toNatClampNeg) (gI (sI m x0 48 ((8 * (gI m x0 4)) + (gI m b_31 ((gI m x0 4).toNatClampNeg)))) x0 42)) b_33 ((gI (sI (sI m x0 48 ((8 * (gI m x0 4)) + (gI m b_31 ((gI m x0 4).toNatClampNeg)))) b_32 ((gI (sI m x0 48 ((8 * (gI m x0 4)) + (gI m b_31 ((gI m x0 4).toNatClampNeg)))) x0 48).toNatClampNeg) (gI (sI m x0 48 ((8 * (gI m x0 4)) + (gI m b_31 ((gI m x0 4).toNatClampNeg)))) x0 42)) x0 48).toNatClampNeg) (gI (sI (sI m x0 48 ((8 * (gI m x0 4)) + (gI m b_31 ((gI m x0 4).toNatClampNeg)))) b_32 ((gI (sI m x0 48 ((8 * (gI m x0 4)) + (gI m b_31 ((gI m x0 4).toNatClampNeg)))) x0 48).toNatClampNeg) (gI (sI m x0 48 ((8 * (gI m x0 4)) + (gI m b_31 ((gI m x0 4).toNatClampNeg)))) x0 42)) x0 43)) b_34 ((gI (sI (sI (sI m x0 48 ((8 * (gI m x0 4)) + (gI m b_31 ((gI m x0 4).toNatClampNeg)))) b_32 ((gI (sI m x0 48 ((8 * (gI m x0 4)) + (gI m b_31 ((gI m x0 4).toNatClampNeg)))) x0 48).toNatClampNeg) (gI (sI m x0 48 ((8 * (gI m x0 4)) + (gI m b_31 ((gI m x0 4).toNatClampNeg)))) x0 42)) b_33 ((gI (sI (sI m x0 48 ((8 * (gI m x0 4)) + (gI m b_31 ((gI m x0 4).toNatClampNeg)))) b_32 ((gI (sI m x0 48 ((8 * (gI m x0 4)) + (gI m b_31 ((gI m x0 4).toNatClampNeg)))) x0 48).toNatClampNeg) (gI (sI m x0 48 ((8 * (gI m x0 4)) + (gI m b_31 ((gI m x0 4).toNatClampNeg)))) x0 42)) x0 48).toNatClampNeg) (gI (sI (sI m x0 48 ((8 * (gI m x0 4)) + (gI m b_31 ((gI m x0 4).toNatClampNeg)))) b_32 ((gI (sI m x0 48 ((8 * (gI m x0 4)) + (gI m b_31 ((gI m x0 4).toNatClampNeg)))) x0 48).toNatClampNeg) (gI (sI m x0 48 ((8 * (gI m x0 4)) + (gI m b_31 ((gI m x0 4).toNatClampNeg)))) x0 42)) x0 43)) x0 48).toNatClampNeg) 0) x0 48).toNatClampNeg) 0) b_36 ((gI (sI (sI (sI (sI (sI m x0 48 ((8 * (gI m x0 4)) + (gI m b_31 ((gI m x0 4).toNatClampNeg)))) b_32 ((gI (sI m x0 48 ((8 * (gI m x0 4)) + (gI m b_31 ((gI m x0 4).toNatClampNeg)))) x0 48).toNatClampNeg) (gI (sI m x0 48 ((8 * (gI m x0 4)) + (gI m b_31 ((gI m x0 4).toNatClampNeg)))) x0 42)) b_33 ((gI (sI (sI m x0 48 ((8 * (gI m x0 4)) + (gI m b_31 ((gI m x0 4).toNatClampNeg)))) b_32 ((gI (sI m x0 48 ((8 * (gI m x0 4)) + (gI m b_31 ((gI m x0 4).toNatClampNeg)))) x0 48).toNatClampNeg) (gI (sI m x0 48 ((8 * (gI m x0 4)) + (gI m b_31 ((gI m x0 4).toNatClampNeg)))) x0 42)) x0 48).toNatClampNeg) (gI (sI (sI m x0 48 ((8 * (gI m x0 4)) + (gI m b_31 ((gI m x0 4).toNatClampNeg)))) b_32 ((gI (sI m x0 48 ((8 * (gI m x0 4)) + (gI m b_31 ((gI m x0 4).toNatClampNeg)))) x0 48).toNatClampNeg) (gI (sI m x0 48 ((8 * (gI m x0 4)) + (gI m b_31 ((gI m x0 4).toNatClampNeg)))) x0 42)) x0 43)) b_34 ((gI (sI (sI (sI m x0 48 ((8 * (gI m x0 4)) + (gI m b_31 ((gI m x0 4).toNatClampNeg)))) b_32 ((gI (sI m x0 48 ((8 * (gI m x0 4)) + (gI m b_31 ((gI m x0 4).toNatClampNeg)))) x0 48).toNatClampNeg) (gI (sI m x0 48 ((8 * (gI m x0 4)) + (gI m b_31 ((gI m x0 4).toNatClampNeg)))) x0 42)) b_33 ((gI (sI (sI m x0 48 ((8 * (gI m x0 4)) + (gI m b_31 ((gI m x0 4).toNatClampNeg)))) b_32 ((gI (sI m x0 48 ((8 * (gI m x0 4)) + (gI m b_31 ((gI m x0 4).toNatClampNeg)))) x0 48).toNatClampNeg) (gI (sI m x0 48 ((8 * (gI m x0 4)) + (gI m b_31 ((gI m x0 4).toNatClampNeg)))) x0 42)) x0 48).toNatClampNeg) (gI (sI (sI m x0 48 ((8 * (gI m x0 4)) + (gI m b_31 ((gI m x0 4).toNatClampNeg)))) b_32 ((gI (sI m x0 48 ((8 * (gI m x0 4)) + (gI m b_31 ((gI m x0 4).toNatClampNeg)))) x0 48).toNatClampNeg) (gI (sI m x0 48 ((8 * (gI m x0 4)) + (gI m b_31 ((gI m x0 4).toNatClampNeg)))) x0 42)) x0 43)) x0 48).toNatClampNeg) 0) b_35 ((gI (sI (sI (sI (sI m x0 48 ((8 * (gI m x0 4)) + (gI m b_31 ((gI m x0 4).toNatClampNeg)))) b_32 ((gI (sI m x0 48 ((8 * (gI m x0 4)) + (gI m b_31 ((gI m x0 4).toNatClampNeg)))) x0 48).toNatClampNeg) (gI (sI m x0 48 ((8 * (gI m x0 4)) + (gI m b_31 ((gI m x0 4).toNatClampNeg)))) x0 42)) b_33 ((gI (sI (sI m x0 48 ((8 * (gI m x0 4)) + (gI m b_31 ((gI m x0 4).toNatClampNeg)))) b_32 ((gI (sI m x0 48 ((8 * (gI m x0 4)) + (gI m b_31 ((gI m x0 4).toNatClampNeg)))) x0 48).toNatClampNeg) (gI (sI m x0 48 ((8 * (gI m x0 4)) + (gI m b_31 ((gI m x0 4).toNatClampNeg)))) x0 42)) x0 48).toNatClampNeg) (gI (sI (sI m x0 48 ((8 * (gI m x0 4)) + (gI m b_31 ((gI m x0 4).toNatClampNeg)))) b_32 ((gI (sI m x0 48 ((8 * (gI m x0 4)) + (gI m b_31 ((gI m x0 4).toNatClampNeg)))) x0 48).toNatClampNeg) (gI (sI m x0 48 ((8 * (gI m x0 4)) + (gI m b_31 ((gI m x0 4).toNatClampNeg)))) x0 42)) x0 43)) b_34 ((gI (sI (sI (sI m x0 48 ((8 * (gI m x0 4)) + (gI m b_31 ((gI m x0 4).toNatClampNeg)))) b_32 ((gI (sI m x0 48 ((8 * (gI m x0 4)) + (gI m b_31 ((gI m x0 4).toNatClampNeg)))) x0 48).toNatClampNeg) (gI (sI m x0 48 ((8 * (gI m x0 4)) + (gI m b_31 ((gI m x0 4).toNatClampNeg)))) x0 42)) b_33 ((gI (sI (sI m x0 48 ((8 * (gI m x0 4)) + (gI m b_31 ((gI m x0 4).toNatClampNeg)))) b_32 ((gI (sI m x0 48 ((8 * (gI m x0 4)) + (gI m b_31 ((gI m x0 4).toNatClampNeg)))) x0 48).toNatClampNeg) (gI (sI m x0 48 ((8 * (gI m x0 4)) + (gI m b_31 ((gI m x0 4).toNatClampNeg)))) x0 42)) x0 48).toNatClampNeg) (gI (sI (sI m x0 48 ((8 * (gI m x0 4)) + (gI m b_31 ((gI m x0 4).toNatClampNeg)))) b_32 ((gI (sI m x0 48 ((8 * (gI m x0 4)) + (gI m b_31 ((gI m x0 4).toNatClampNeg)))) x0 48).toNatClampNeg) (gI (sI m x0 48 ((8 * (gI m x0 4)) + (gI m b_31 ((gI m x0 4).toNatClampNeg)))) x0 42)) x0 43)) x0 48).toNatClampNeg) 0) x0 48).toNatClampNeg) 0) x0 48).toNatClampNeg) 0) b_37 ((gI (sI (sI (sI (sI (sI (sI m x0 48 ((8 * (gI m x0 4)) + (gI m b_31 ((gI m x0 4).toNatClampNeg)))) b_32 ((gI (sI m x0 48 ((8 * (gI m x0 4)) + (gI m b_31 ((gI m x0 4).toNatClampNeg)))) x0 48).toNatClampNeg) (gI (sI m x0 48 ((8 * (gI m x0 4)) + (gI m b_31 ((gI m x0 4).toNatClampNeg)))) x0 42)) b_33 ((gI (sI (sI m x0 48 ((8 * (gI m x0 4)) + (gI m b_31 ((gI m x0 4).toNatClampNeg)))) b_32 ((gI (sI m x0 48 ((8 * (gI m x0 4)) + (gI m b_31 ((gI m x0 4).toNatClampNeg)))) x0 48).toNatClampNeg) (gI (sI m x0 48 ((8 * (gI m x0 4)) + (gI m b_31 ((gI m x0 4).toNatClampNeg)))) x0 42)) x0 48).toNatClampNeg) (gI (sI (sI m x0 48 ((8 * (gI m x0 4)) + (gI m b_31 ((gI m x0 4).toNatClampNeg)))) b_32 ((gI (sI m x0 48 ((8 * (gI m x0 4)) + (gI m b_31 ((gI m x0 4).toNatClampNeg)))) x0 48).toNatClampNeg) (gI (sI m x0 48 ((8 * (gI m x0 4)) + (gI m b_31 ((gI m x0 4).toNatClampNeg)))) x0 42)) x0 43)) b_34 ((gI (sI (sI (sI m x0 48 ((8 * (gI m x0 4)) + (gI m b_31 ((gI m x0 4).toNatClampNeg)))) b_32 ((gI (sI m x0 48 ((8 * (gI m x0 4)) + (gI m b_31 ((gI m x0 4).toNatClampNeg)))) x0 48).toNatClampNeg) (gI (sI m x0 48 ((8 * (gI m x0 4)) + (gI m b_31 ((gI m x0 4).toNatClampNeg)))) x0 42)) b_33 ((gI (sI (sI m x0 48 ((8 * (gI m x0 4)) + (gI m b_31 ((gI m x0 4).toNatClampNeg)))) b_32 ((gI (sI m x0 48 ((8 * (gI m x0 4)) + (gI m b_31 ((gI m x0 4).toNatClampNeg)))) x0 48).toNatClampNeg) (gI (sI m x0 48 ((8 * (gI m x0 4)) + (gI m b_31 ((gI m x0 4).toNatClampNeg)))) x0 42)) x0 48).toNatClampNeg) (gI (sI (sI m x0 48 ((8 * (gI m x0 4)) + (gI m b_31 ((gI m x0 4).toNatClampNeg)))) b_32 ((gI (sI m x0 48 ((8 * (gI m x0 4)) + (gI m b_31 ((gI m x0 4).toNatClampNeg)))) x0 48).toNatClampNeg) (gI (sI m x0 48 ((8 * (gI m x0 4)) + (gI m b_31 ((gI m x0 4).toNatClampNeg)))) x0 42)) x0 43)) x0 48).toNatClampNeg) 0) b_35 ((gI (sI (sI (sI (sI m x0 48 ((8 * (gI m x0 4)) + (gI m b_31 ((gI m x0 4).toNatClampNeg)))) b_32 ((gI (sI m x0 48 ((8 * (gI m x0 4)) + (gI m b_31 ((gI m x0 4).toNatClampNeg)))) x0 48).toNatClampNeg) (gI (sI m x0 48 ((8 * (gI m x0 4)) + (gI m b_31 ((gI m x0 4).toNatClampNeg)))) x0 42)) b_33 ((gI (sI (sI m x0 48 ((8 * (gI m x0 4)) + (gI m b_31 ((gI m x0 4).toNatClampNeg)))) b_32 ((gI (sI m x0 48 ((8 * (gI m x0 4)) + (gI m b_31 ((gI m x0 4).toNatClampNeg)))) x0 48).toNatClampNeg) (gI (sI m x0 48 ((8 * (gI m x0 4)) + (gI m b_31 ((gI m x0 4).toNatClampNeg)))) x0 42)) x0 48).toNatClampNeg) (gI (sI (sI m x0 48 ((8 * (gI m x0 4)) + (gI m b_31 ((gI m x0 4).toNatClampNeg)))) b_32 ((gI (sI m x0 48 ((8 * (gI m x0 4)) + (gI m b_31 ((gI m x0 4).toNatClampNeg)))) x0 48).toNatClampNeg) (gI (sI m x0 48 ((8 * (gI m x0 4)) + (gI m b_31 ((gI m x0 4).toNatClampNeg)))) x0 42)) x0 43)) b_34 ((gI (sI (sI (sI m x0 48 ((8 * (gI m x0 4)) + (gI m b_31 ((gI m x0 4).toNatClampNeg)))) b_32 ((gI (sI m x0 48 ((8 * (gI m x0 4)) + (gI m b_31 ((gI m x0 4).toNatClampNeg)))) x0 48).toNatClampNeg) (gI (sI m x0 48 ((8 * (gI m x0 4)) + (gI m b_31 ((gI m x0 4).toNatClampNeg)))) x0 42)) b_33 ((gI (sI (sI m x0 48 ((8 * (gI m x0 4)) + (gI m b_31 ((gI m x0 4).toNatClampNeg)))) b_32 ((gI (sI m x0 48 ((8 * (gI m x0 4)) + (gI m b_31 ((gI m x0 4).toNatClampNeg)))) x0 48).toNatClampNeg) (gI (sI m x0 48 ((8 * (gI m x0 4)) + (gI m b_31 ((gI m x0 4).toNatClampNeg)))) x0 42)) x0 48).toNatClampNeg) (gI (sI (sI m x0 48 ((8 * (gI m x0 4)) + (gI m b_31 ((gI m x0 4).toNatClampNeg)))) b_32 ((gI (sI m x0 48 ((8 * (gI m x0 4)) + (gI m b_31 ((gI m x0 4).toNatClampNeg)))) x0 48).toNatClampNeg) (gI (sI m x0 48 ((8 * (gI m x0 4)) + (gI m b_31 ((gI m x0 4).toNatClampNeg)))) x0 42)) x0 43)) x0 48).toNatClampNeg) 0) x0 48).toNatClampNeg) 0) b_36 ((gI (sI (sI (sI (sI (sI m x0 48 ((8 * (gI m x0 4)) + (gI m b_31 ((gI m x0 4).toNatClampNeg)))) b_32 ((gI (sI m x0 48 ((8 * (gI m x0 4)) + (gI m b_31 ((gI m x0 4).toNatClampNeg)))) x0 48).toNatClampNeg) (gI (sI m x0 48 ((8 * (gI m x0 4)) + (gI m b_31 ((gI m x0 4).toNatClampNeg)))) x0 42)) b_33 ((gI (sI (sI m x0 48 ((8 * (gI m x0 4)) + (gI m b_31 ((gI m x0 4).toNatClampNeg)))) b_32 ((gI (sI m x0 48 ((8 * (gI m x0 4)) + (gI m b_31 ((gI m x0 4).toNatClampNeg)))) x0 48).toNatClampNeg) (gI (sI m x0 48 ((8 * (gI m x0 4)) + (gI m b_31 ((gI m x0 4).toNatClampNeg)))) x0 42)) x0 48).toNatClampNeg) (gI (sI (sI m x0 48 ((8 * (gI m x0 4)) + (gI m b_31 ((gI m x0 4).toNatClampNeg)))) b_32 ((gI (sI m x0 48 ((8 * (gI m x0 4)) + (gI m b_31 ((gI m x0 4).toNatClampNeg)))) x0 48).toNatClampNeg) (gI (sI m x0 48 ((8 * (gI m x0 4)) + (gI m b_31 ((gI m x0 4).toNatClampNeg)))) x0 42)) x0 43)) b_34 ((gI (sI (sI (sI m x0 48 ((8 * (gI m x0 4)) + (gI m b_31 ((gI m x0 4).toNatClampNeg)))) b_32 ((gI (sI m x0 48 ((8 * (gI m x0 4)) + (gI m b_31 ((gI m x0 4).toNatClampNeg)))) x0 48).toNatClampNeg) (gI (sI m x0 48 ((8 * (gI m x0 4)) + (gI m b_31 ((gI m x0 4).toNatClampNeg)))) x0 42)) b_33 ((gI (sI (sI m x0 48 ((8 * (gI m x0 4)) + (gI m b_31 ((gI m x0 4).toNatClampNeg)))) b_32 ((gI (sI m x0 48 ((8 * (gI m x0 4)) + (gI m b_31 ((gI m x0 4).toNatClampNeg)))) x0 48).toNatClampNeg) (gI (sI m x0 48 ((8 * (gI m x0 4)) + (gI m b_31 ((gI m x0 4).toNatClampNeg)))) x0 42)) x0 48).toNatClampNeg) (gI (sI (sI m x0 48 ((8 * (gI m x0 4)) + (gI m b_31 ((gI m x0 4).toNatClampNeg)))) b_32 ((gI (sI m x0 48 ((8 * (gI m x0 4)) + (gI m b_31 ((gI m x0 4).toNatClampNeg)))) x0 48).toNatClampNeg) (gI (sI m x0 48 ((8 * (gI m x0 4)) + (gI m b_31 ((gI m x0 4).toNatClampNeg)))) x0 42)) x0 43)) x0 48).toNatClampNeg) 0) b_35 ((gI (sI (sI (sI (sI m x0 48 ((8 * (gI m x0 4)) + (gI m b_31 ((gI m x0 4).toNatClampNeg)))) b_32 ((gI (sI m x0 48 ((8 * (gI m x0 4)) + (gI m b_31 ((gI m x0 4).toNatClampNeg)))) x0 48).toNatClampNeg) (gI (sI m x0 48 ((8 * (gI m x0 4)) + (gI m b_31 ((gI m x0 4).toNatClampNeg)))) x0 42)) b_33 ((gI (sI (sI m x0 48 ((8 * (gI m x0 4)) + (gI m b_31 ((gI m x0 4).toNatClampNeg)))) b_32 ((gI (sI m x0 48 ((8 * (gI m x0 4)) + (gI m b_31 ((gI m x0 4).toNatClampNeg)))) x0 48).toNatClampNeg) (gI (sI m x0 48 ((8 * (gI m x0 4)) + (gI m b_31 ((gI m x0 4).toNatClampNeg)))) x0 42)) x0 48).toNatClampNeg) (gI (sI (sI m x0 48 ((8 * (gI m x0 4)) + (gI m b_31 ((gI m x0 4).toNatClampNeg)))) b_32 ((gI (sI m x0 48 ((8 * (gI m x0 4)) + (gI m b_31 ((gI m x0 4).toNatClampNeg)))) x0 48).toNatClampNeg) (gI (sI m x0 48 ((8 * (gI m x0 4)) + (gI m b_31 ((gI m x0 4).toNatClampNeg)))) x0 42)) x0 43)) b_34 ((gI (sI (sI (sI m x0 48 ((8 * (gI m x0 4)) + (gI m b_31 ((gI m x0 4).toNatClampNeg)))) b_32 ((gI (sI m x0 48 ((8 * (gI m x0 4)) + (gI m b_31 ((gI m x0 4).toNatClampNeg)))) x0 48).toNatClampNeg) (gI (sI m x0 48 ((8 * (gI m x0 4)) + (gI m b_31 ((gI m x0 4).toNatClampNeg)))) x0 42)) b_33 ((gI (sI (sI m x0 48 ((8 * (gI m x0 4)) + (gI m b_31 ((gI m x0 4).toNatClampNeg)))) b_32 ((gI (sI m x0 48 ((8 * (gI m x0 4)) + (gI m b_31 ((gI m x0 4).toNatClampNeg)))) x0 48).toNatClampNeg) (gI (sI m x0 48 ((8 * (gI m x0 4)) + (gI m b_31 ((gI m x0 4).toNatClampNeg)))) x0 42)) x0 48).toNatClampNeg) (gI (sI (sI m x0 48 ((8 * (gI m x0 4)) + (gI m b_31 ((gI m x0 4).toNatClampNeg)))) b_32 ((gI (sI m x0 48 ((8 * (gI m x0 4)) + (gI m b_31 ((gI m x0 4).toNatClampNeg)))) x0 48).toNatClampNeg) (gI (sI m x0 48 ((8 * (gI m x0 4)) + (gI m b_31 ((gI m x0 4).toNatClampNeg)))) x0 42)) x0 43)) x0 48).toNatClampNeg) 0) x0 48).toNatClampNeg) 0) x0 48).toNatClampNeg) 0) x0 48).toNatClampNeg) (-1)) b_38 ((gI (sI (sI (sI (sI (sI (sI (sI m x0 48 ((8 * (gI m x0 4)) + (gI m b_31 ((gI m x0 4).toNatClampNeg)))) b_32 ((gI (sI m x0 48 ((8 * (gI m x0 4)) + (gI m b_31 ((gI m x0 4).toNatClampNeg)))) x0 48).toNatClampNeg) (gI (sI m x0 48 ((8 * (gI m x0 4)) + (gI m b_31 ((gI m x0 4).toNatClampNeg)))) x0 42)) b_33 ((gI (sI (sI m x0 48 ((8 * (gI m x0 4)) + (gI m b_31 ((gI m x0 4).toNatClampNeg)))) b_32 ((gI (sI m x0 48 ((8 * (gI m x0 4)) + (gI m b_31 ((gI m x0 4).toNatClampNeg)))) x0 48).toNatClampNeg) (gI (sI m x0 48 ((8 * (gI m x0 4)) + (gI m b_31 ((gI m x0 4).toNatClampNeg)))) x0 42)) x0 48).toNatClampNeg) (gI (sI (sI m x0 48 ((8 * (gI m x0 4)) + (gI m b_31 ((gI m x0 4).toNatClampNeg)))) b_32 ((gI (sI m x0 48 ((8 * (gI m x0 4)) + (gI m b_31 ((gI m x0 4).toNatClampNeg)))) x0 48).toNatClampNeg) (gI (sI m x0 48 ((8 * (gI m x0 4)) + (gI m b_31 ((gI m x0 4).toNatClampNeg)))) x0 42)) x0 43)) b_34 ((gI (sI (sI (sI m x0 48 ((8 * (gI m x0 4)) + (gI m b_31 ((gI m x0 4).toNatClampNeg)))) b_32 ((gI (sI m x0 48 ((8 * (gI m x0 4)) + (gI m b_31 ((gI m x0 4).toNatClampNeg)))) x0 48).toNatClampNeg) (gI (sI m x0 48 ((8 * (gI m x0 4)) + (gI m b_31 ((gI m x0 4).toNatClampNeg)))) x0 42)) b_33 ((gI (sI (sI m x0 48 ((8 * (gI m x0 4)) + (gI m b_31 ((gI m x0 4).toNatClampNeg)))) b_32 ((gI (sI m x0 48 ((8 * (gI m x0 4)) + (gI m b_31 ((gI m x0 4).toNatClampNeg)))) x0 48).toNatClampNeg) (gI (sI m x0 48 ((8 * (gI m x0 4)) + (gI m b_31 ((gI m x0 4).toNatClampNeg)))) x0 42)) x0 48).toNatClampNeg) (gI (sI (sI m x0 48 ((8 * (gI m x0 4)) + (gI m b_31 ((gI m x0 4).toNatClampNeg)))) b_32 ((gI (sI m x0 48 ((8 * (gI m x0 4)) + (gI m b_31 ((gI m x0 4).toNatClampNeg)))) x0 48).toNatClampNeg) (gI (sI m x0 48 ((8 * (gI m x0 4)) + (gI m b_31 ((gI m x0 4).toNatClampNeg)))) x0 42)) x0 43)) x0 48).toNatClampNeg) 0) b_35 ((gI (sI (sI (sI (sI m x0 48 ((8 * (gI m x0 4)) + (gI m b_31 ((gI m x0 4).toNatClampNeg)))) b_32 ((gI (sI m x0 48 ((8 * (gI m x0 4)) + (gI m b_31 ((gI m x0 4).toNatClampNeg)))) x0 48).toNatClampNeg) (gI (sI m x0 48 ((8 * (gI m x0 4)) + (gI m b_31 ((gI m x0 4).toNatClampNeg)))) x0 42)) b_33 ((gI (sI (sI m x0 48 ((8 * (gI m x0 4)) + (gI m b_31 ((gI m x0 4).toNatClampNeg)))) b_32 ((gI (sI m x0 48 ((8 * (gI m x0 4)) + (gI m b_31 ((gI m x0 4).toNatClampNeg)))) x0 48).toNatClampNeg) (gI (sI m x0 48 ((8 * (gI m x0 4)) + (gI m b_31 ((gI m x0 4).toNatClampNeg)))) x0 42)) x0 48).toNatClampNeg) (gI (sI (sI m x0 48 ((8 * (gI m x0 4)) + (gI m b_31 ((gI m x0 4).toNatClampNeg)))) b_32 ((gI (sI m x0 48 ((8 * (gI m x0 4)) + (gI m b_31 ((gI m x0 4).toNatClampNeg)))) x0 48).toNatClampNeg) (gI (sI m x0 48 ((8 * (gI m x0 4)) + (gI m b_31 ((gI m x0 4).toNatClampNeg)))) x0 42)) x0 43)) b_34 ((gI (sI (sI (sI m x0 48 ((8 * (gI m x0 4)) + (gI m b_31 ((gI m x0 4).toNatClampNeg)))) b_32 ((gI (sI m x0 48 ((8 * (gI m x0 4)) + (gI m b_31 ((gI m x0 4).toNatClampNeg)))) x0 48).toNatClampNeg) (gI (sI m x0 48 ((8 * (gI m x0 4)) + (gI m b_31 ((gI m x0 4).toNatClampNeg)))) x0 42)) b_33 ((gI (sI (sI m x0 48 ((8 * (gI m x0 4)) + (gI m b_31 ((gI m x0 4).toNatClampNeg)))) b_32 ((gI (sI m x0 48 ((8 * (gI m x0 4)) + (gI m b_31 ((gI m x0 4).toNatClampNeg)))) x0 48).toNatClampNeg) (gI (sI m x0 48 ((8 * (gI m x0 4)) + (gI m b_31 ((gI m x0 4).toNatClampNeg)))) x0 42)) x0 48).toNatClampNeg) (gI (sI (sI m x0 48 ((8 * (gI m x0 4)) + (gI m b_31 ((gI m x0 4).toNatClampNeg)))) b_32 ((gI (sI m x0 48 ((8 * (gI m x0 4)) + (gI m b_31 ((gI m x0 4).toNatClampNeg)))) x0 48).toNatClampNeg) (gI (sI m x0 48 ((8 * (gI m x0 4)) + (gI m b_31 ((gI m x0 4).toNatClampNeg)))) x0 42)) x0 43)) x0 48).toNatClampNeg) 0) x0 48).toNatClampNeg) 0) b_36 ((gI (sI (sI (sI (sI (sI m x0 48 ((8 * (gI m x0 4)) + (gI m b_31 ((gI m x0 4).toNatClampNeg)))) b_32 ((gI (sI m x0 48 ((8 * (gI m x0 4)) + (gI m b_31 ((gI m x0 4).toNatClampNeg)))) x0 48).toNatClampNeg) (gI (sI m x0 48 ((8 * (gI m x0 4)) + (gI m b_31 ((gI m x0 4).toNatClampNeg)))) x0 42)) b_33 ((gI (sI (sI m x0 48 ((8 * (gI m x0 4)) + (gI m b_31 ((gI m x0 4).toNatClampNeg)))) b_32 ((gI (sI m x0 48 ((8 * (gI m x0 4)) + (gI m b_31 ((gI m x0 4).toNatClampNeg)))) x0 48).toNatClampNeg) (gI (sI m x0 48 ((8 * (gI m x0 4)) + (gI m b_31 ((gI m x0 4).toNatClampNeg)))) x0 42)) x0 48).toNatClampNeg) (gI (sI (sI m x0 48 ((8 * (gI m x0 4)) + (gI m b_31 ((gI m x0 4).toNatClampNeg)))) b_32 ((gI (sI m x0 48 ((8 * (gI m x0 4)) + (gI m b_31 ((gI m x0 4).toNatClampNeg)))) x0 48).toNatClampNeg) (gI (sI m x0 48 ((8 * (gI m x0 4)) + (gI m b_31 ((gI m x0 4).toNatClampNeg)))) x0 42)) x0 43)) b_34 ((gI (sI (sI (sI m x0 48 ((8 * (gI m x0 4)) + (gI m b_31 ((gI m x0 4).toNatClampNeg)))) b_32 ((gI (sI m x0 48 ((8 * (gI m x0 4)) + (gI m b_31 ((gI m x0 4).toNatClampNeg)))) x0 48).toNatClampNeg) (gI (sI m x0 48 ((8 * (gI m x0 4)) + (gI m b_31 ((gI m x0 4).toNatClampNeg)))) x0 42)) b_33 ((gI (sI (sI m x0 48 ((8 * (gI m x0 4)) + (gI m b_31 ((gI m x0 4).toNatClampNeg)))) b_32 ((gI (sI m x0 48 ((8 * (gI m x0 4)) + (gI m b_31 ((gI m x0 4).toNatClampNeg)))) x0 48).toNatClampNeg) (gI (sI m x0 48 ((8 * (gI m x0 4)) + (gI m b_31 ((gI m x0 4).toNatClampNeg)))) x0 42)) x0 48).toNatClampNeg) (gI (sI (sI m x0 48 ((8 * (gI m x0 4)) + (gI m b_31 ((gI m x0 4).toNatClampNeg)))) b_32 ((gI (sI m x0 48 ((8 * (gI m x0 4)) + (gI m b_31 ((gI m x0 4).toNatClampNeg)))) x0 48).toNatClampNeg) (gI (sI m x0 48 ((8 * (gI m x0 4)) + (gI m b_31 ((gI m x0 4).toNatClampNeg)))) x0 42)) x0 43)) x0 48).toNatClampNeg) 0) b_35 ((gI (sI (sI (sI (sI m x0 48 ((8 * (gI m x0 4)) + (gI m b_31 ((gI m x0 4).toNatClampNeg)))) b_32 ((gI (sI m x0 48 ((8 * (gI m x0 4)) + (gI m b_31 ((gI m x0 4).toNatClampNeg)))) x0 48).toNatClampNeg) (gI (sI m x0 48 ((8 * (gI m x0 4)) + (gI m b_31 ((gI m x0 4).toNatClampNeg)))) x0 42)) b_33 ((gI (sI (sI m x0 48 ((8 * (gI m x0 4)) + (gI m b_31 ((gI m x0 4).toNatClampNeg)))) b_32 ((gI (sI m x0 48 ((8 * (gI m x0 4)) + (gI m b_31 ((gI m x0 4).toNatClampNeg)))) x0 48).toNatClampNeg) (gI (sI m x0 48 ((8 * (gI m x0 4)) + (gI m b_31 ((gI m x0 4).toNatClampNeg)))) x0 42)) x0 48).toNatClampNeg) (gI (sI (sI m x0 48 ((8 * (gI m x0 4)) + (gI m b_31 ((gI m x0 4).toNatClampNeg)))) b_32 ((gI (sI m x0 48 ((8 * (gI m x0 4)) + (gI m b_31 ((gI m x0 4).toNatClampNeg)))) x0 48).toNatClampNeg) (gI (sI m x0 48 ((8 * (gI m x0 4)) + (gI m b_31 ((gI m x0 4).toNatClampNeg)))) x0 42)) x0 43)) b_34 ((gI (sI (sI (sI m x0 48 ((8 * (gI m x0 4)) + (gI m b_31 ((gI m x0 4).toNatClampNeg)))) b_32 ((gI (sI m x0 48 ((8 * (gI m x0 4)) + (gI m b_31 ((gI m x0 4).toNatClampNeg)))) x0 48).toNatClampNeg) (gI (sI m x0 48 ((8 * (gI m x0 4)) + (gI m b_31 ((gI m x0 4).toNatClampNeg)))) x0 42)) b_33 ((gI (sI (sI m x0 48 ((8 * (gI m x0 4)) + (gI m b_31 ((gI m x0 4).toNatClampNeg)))) b_32 ((gI (sI m x0 48 ((8 * (gI m x0 4)) + (gI m b_31 ((gI m x0 4).toNatClampNeg)))) x0 48).toNatClampNeg) (gI (sI m x0 48 ((8 * (gI m x0 4)) + (gI m b_31 ((gI m x0 4).toNatClampNeg)))) x0 42)) x0 48).toNatClampNeg) (gI (sI (sI m x0 48 ((8 * (gI m x0 4)) + (gI m b_31 ((gI m x0 4).toNatClampNeg)))) b_32 ((gI (sI m x0 48 ((8 * (gI m x0 4)) + (gI m b_31 ((gI m x0 4).toNatClampNeg)))) x0 48).toNatClampNeg) (gI (sI m x0 48 ((8 * (gI m x0 4)) + (gI m b_31 ((gI m x0 4).toNatClampNeg)))) x0 42)) x0 43)) x0 48).toNatClampNeg) 0) x0 48).toNatClampNeg) 0) x0 48).toNatClampNeg) 0) b_37 ((gI (sI (sI (sI (sI (sI (sI m x0 48 ((8 * (gI m x0 4)) + (gI m b_31 ((gI m x0 4).toNatClampNeg)))) b_32 ((gI (sI m x0 48 ((8 * (gI m x0 4)) + (gI m b_31 ((gI m x0 4).toNatClampNeg)))) x0 48).toNatClampNeg) (gI (sI m x0 48 ((8 * (gI m x0 4)) + (gI m b_31 ((gI m x0 4).toNatClampNeg)))) x0 42)) b_33 ((gI (sI (sI m x0 48 ((8 * (gI m x0 4)) + (gI m b_31 ((gI m x0 4).toNatClampNeg)))) b_32 ((gI (sI m x0 48 ((8 * (gI m x0 4)) + (gI m b_31 ((gI m x0 4).toNatClampNeg)))) x0 48).toNatClampNeg) (gI (sI m x0 48 ((8 * (gI m x0 4)) + (gI m b_31 ((gI m x0 4).toNatClampNeg)))) x0 42)) x0 48).toNatClampNeg) (gI (sI (sI m x0 48 ((8 * (gI m x0 4)) + (gI m b_31 ((gI m x0 4).toNatClampNeg)))) b_32 ((gI (sI m x0 48 ((8 * (gI m x0 4)) + (gI m b_31 ((gI m x0 4).toNatClampNeg)))) x0 48).toNatClampNeg) (gI (sI m x0 48 ((8 * (gI m x0 4)) + (gI m b_31 ((gI m x0 4).toNatClampNeg)))) x0 42)) x0 43)) b_34 ((gI (sI (sI (sI m x0 48 ((8 * (gI m x0 4)) + (gI m b_31 ((gI m x0 4).toNatClampNeg)))) b_32 ((gI (sI m x0 48 ((8 * (gI m x0 4)) + (gI m b_31 ((gI m x0 4).toNatClampNeg)))) x0 48).toNatClampNeg) (gI (sI m x0 48 ((8 * (gI m x0 4)) + (gI m b_31 ((gI m x0 4).toNatClampNeg)))) x0 42)) b_33 ((gI (sI (sI m x0 48 ((8 * (gI m x0 4)) + (gI m b_31 ((gI m x0 4).toNatClampNeg)))) b_32 ((gI (sI m x0 48 ((8 * (gI m x0 4)) + (gI m b_31 ((gI m x0 4).toNatClampNeg)))) x0 48).toNatClampNeg) (gI (sI m x0 48 ((8 * (gI m x0 4)) + (gI m b_31 ((gI m x0 4).toNatClampNeg)))) x0 42)) x0 48).toNatClampNeg) (gI (sI (sI m x0 48 ((8 * (gI m x0 4)) + (gI m b_31 ((gI m x0 4).toNatClampNeg)))) b_32 ((gI (sI m x0 48 ((8 * (gI m x0 4)) + (gI m b_31 ((gI m x0 4).toNatClampNeg)))) x0 48).toNatClampNeg) (gI (sI m x0 48 ((8 * (gI m x0 4)) + (gI m b_31 ((gI m x0 4).toNatClampNeg)))) x0 42)) x0 43)) x0 48).toNatClampNeg) 0) b_35 ((gI (sI (sI (sI (sI m x0 48 ((8 * (gI m x0 4)) + (gI m b_31 ((gI m x0 4).toNatClampNeg)))) b_32 ((gI (sI m x0 48 ((8 * (gI m x0 4)) + (gI m b_31 ((gI m x0 4).toNatClampNeg)))) x0 48).toNatClampNeg) (gI (sI m x0 48 ((8 * (gI m x0 4)) + (gI m b_31 ((gI m x0 4).toNatClampNeg)))) x0 42)) b_33 ((gI (sI (sI m x0 48 ((8 * (gI m x0 4)) + (gI m b_31 ((gI m x0 4).toNatClampNeg)))) b_32 ((gI (sI m x0 48 ((8 * (gI m x0 4)) + (gI m b_31 ((gI m x0 4).toNatClampNeg)))) x0 48).toNatClampNeg) (gI (sI m x0 48 ((8 * (gI m x0 4)) + (gI m b_31 ((gI m x0 4).toNatClampNeg)))) x0 42)) x0 48).toNatClampNeg) (gI (sI (sI m x0 48 ((8 * (gI m x0 4)) + (gI m b_31 ((gI m x0 4).toNatClampNeg)))) b_32 ((gI (sI m x0 48 ((8 * (gI m x0 4)) + (gI m b_31 ((gI m x0 4).toNatClampNeg)))) x0 48).toNatClampNeg) (gI (sI m x0 48 ((8 * (gI m x0 4)) + (gI m b_31 ((gI m x0 4).toNatClampNeg)))) x0 42)) x0 43)) b_34 ((gI (sI (sI (sI m x0 48 ((8 * (gI m x0 4)) + (gI m b_31 ((gI m x0 4).toNatClampNeg)))) b_32 ((gI (sI m x0 48 ((8 * (gI m x0 4)) + (gI m b_31 ((gI m x0 4).toNatClampNeg)))) x0 48).toNatClampNeg) (gI (sI m x0 48 ((8 * (gI m x0 4)) + (gI m b_31 ((gI m x0 4).toNatClampNeg)))) x0 42)) b_33 ((gI (sI (sI m x0 48 ((8 * (gI m x0 4)) + (gI m b_31 ((gI m x0 4).toNatClampNeg)))) b_32 ((gI (sI m x0 48 ((8 * (gI m x0 4)) + (gI m b_31 ((gI m x0 4).toNatClampNeg)))) x0 48).toNatClampNeg) (gI (sI m x0 48 ((8 * (gI m x0 4)) + (gI m b_31 ((gI m x0 4).toNatClampNeg)))) x0 42)) x0 48).toNatClampNeg) (gI (sI (sI m x0 48 ((8 * (gI m x0 4)) + (gI m b_31 ((gI m x0 4).toNatClampNeg)))) b_32 ((gI (sI m x0 48 ((8 * (gI m x0 4)) + (gI m b_31 ((gI m x0 4).toNatClampNeg)))) x0 48).toNatClampNeg) (gI (sI m x0 48 ((8 * (gI m x0 4)) + (gI m b_31 ((gI m x0 4).toNatClampNeg)))) x0 42)) x0 43)) x0 48).toNatClampNeg) 0) x0 48).toNatClampNeg) 0) b_36 ((gI (sI (sI (sI (sI (sI m x0 48 ((8 * (gI m x0 4)) + (gI m b_31 ((gI m x0 4).toNatClampNeg)))) b_32 ((gI (sI m x0 48 ((8 * (gI m x0 4)) + (gI m b_31 ((gI m x0 4).toNatClampNeg)))) x0 48).toNatClampNeg) (gI (sI m x0 48 ((8 * (gI m x0 4)) + (gI m b_31 ((gI m x0 4).toNatClampNeg)))) x0 42)) b_33 ((gI (sI (sI m x0 48 ((8 * (gI m x0 4)) + (gI m b_31 ((gI m x0 4).toNatClampNeg)))) b_32 ((gI (sI m x0 48 ((8 * (gI m x0 4)) + (gI m b_31 ((gI m x0 4).toNatClampNeg)))) x0 48).toNatClampNeg) (gI (sI m x0 48 ((8 * (gI m x0 4)) + (gI m b_31 ((gI m x0 4).toNatClampNeg)))) x0 42)) x0 48).toNatClampNeg) (gI (sI (sI m x0 48 ((8 * (gI m x0 4)) + (gI m b_31 ((gI m x0 4).toNatClampNeg)))) b_32 ((gI (sI m x0 48 ((8 * (gI m x0 4)) + (gI m b_31 ((gI m x0 4).toNatClampNeg)))) x0 48).toNatClampNeg) (gI (sI m x0 48 ((8 * (gI m x0 4)) + (gI m b_31 ((gI m x0 4).toNatClampNeg)))) x0 42)) x0 43)) b_34 ((gI (sI (sI (sI m x0 48 ((8 * (gI m x0 4)) + (gI m b_31 ((gI m x0 4).toNatClampNeg)))) b_32 ((gI (sI m x0 48 ((8 * (gI m x0 4)) + (gI m b_31 ((gI m x0 4).toNatClampNeg)))) x0 48).toNatClampNeg) (gI (sI m x0 48 ((8 * (gI m x0 4)) + (gI m b_31 ((gI m x0 4).toNatClampNeg)))) x0 42)) b_33 ((gI (sI (sI m x0 48 ((8 * (gI m x0 4)) + (gI m b_31 ((gI m x0 4).toNatClampNeg)))) b_32 ((gI (sI m x0 48 ((8 * (gI m x0 4)) + (gI m b_31 ((gI m x0 4).toNatClampNeg)))) x0 48).toNatClampNeg) (gI (sI m x0 48 ((8 * (gI m x0 4)) + (gI m b_31 ((gI m x0 4).toNatClampNeg)))) x0 42)) x0 48).toNatClampNeg) (gI (sI (sI m x0 48 ((8 * (gI m x0 4)) + (gI m b_31 ((gI m x0 4).toNatClampNeg)))) b_32 ((gI (sI m x0 48 ((8 * (gI m x0 4)) + (gI m b_31 ((gI m x0 4).toNatClampNeg)))) x0 48).toNatClampNeg) (gI (sI m x0 48 ((8 * (gI m x0 4)) + (gI m b_31 ((gI m x0 4).toNatClampNeg)))) x0 42)) x0 43)) x0 48).toNatClampNeg) 0) b_35 ((gI (sI (sI (sI (sI m x0 48 ((8 * (gI m x0 4)) + (gI m b_31 ((gI m x0 4).toNatClampNeg)))) b_32 ((gI (sI m x0 48 ((8 * (gI m x0 4)) + (gI m b_31 ((gI m x0 4).toNatClampNeg)))) x0 48).toNatClampNeg) (gI (sI m x0 48 ((8 * (gI m x0 4)) + (gI m b_31 ((gI m x0 4).toNatClampNeg)))) x0 42)) b_33 ((gI (sI (sI m x0 48 ((8 * (gI m x0 4)) + (gI m b_31 ((gI m x0 4).toNatClampNeg)))) b_32 ((gI (sI m x0 48 ((8 * (gI m x0 4)) + (gI m b_31 ((gI m x0 4).toNatClampNeg)))) x0 48).toNatClampNeg) (gI (sI m x0 48 ((8 * (gI m x0 4)) + (gI m b_31 ((gI m x0 4).toNatClampNeg)))) x0 42)) x0 48).toNatClampNeg) (gI (sI (sI m x0 48 ((8 * (gI m x0 4)) + (gI m b_31 ((gI m x0 4).toNatClampNeg)))) b_32 ((gI (sI m x0 48 ((8 * (gI m x0 4)) + (gI m b_31 ((gI m x0 4).toNatClampNeg)))) x0 48).toNatClampNeg) (gI (sI m x0 48 ((8 * (gI m x0 4)) + (gI m b_31 ((gI m x0 4).toNatClampNeg)))) x0 42)) x0 43)) b_34 ((gI (sI (sI (sI m x0 48 ((8 * (gI m x0 4)) + (gI m b_31 ((gI m x0 4).toNatClampNeg)))) b_32 ((gI (sI m x0 48 ((8 * (gI m x0 4)) + (gI m b_31 ((gI m x0 4).toNatClampNeg)))) x0 48).toNatClampNeg) (gI (sI m x0 48 ((8 * (gI m x0 4)) + (gI m b_31 ((gI m x0 4).toNatClampNeg)))) x0 42)) b_33 ((gI (sI (sI m x0 48 ((8 * (gI m x0 4)) + (gI m b_31 ((gI m x0 4).toNatClampNeg)))) b_32 ((gI (sI m x0 48 ((8 * (gI m x0 4)) + (gI m b_31 ((gI m x0 4).toNatClampNeg)))) x0 48).toNatClampNeg) (gI (sI m x0 48 ((8 * (gI m x0 4)) + (gI m b_31 ((gI m x0 4).toNatClampNeg)))) x0 42)) x0 48).toNatClampNeg) (gI (sI (sI m x0 48 ((8 * (gI m x0 4)) + (gI m b_31 ((gI m x0 4).toNatClampNeg)))) b_32 ((gI (sI m x0 48 ((8 * (gI m x0 4)) + (gI m b_31 ((gI m x0 4).toNatClampNeg)))) x0 48).toNatClampNeg) (gI (sI m x0 48 ((8 * (gI m x0 4)) + (gI m b_31 ((gI m x0 4).toNatClampNeg)))) x0 42)) x0 43)) x0 48).toNatClampNeg) 0) x0 48).toNatClampNeg) 0) x0 48).toNatClampNeg) 0) x0 48).toNatClampNeg) (-1)) x0 48).toNatClampNeg) (-1)) x0 4) (G.2.2 b_39) <|
                                            ib (gI (sI (sI (sI (sI (sI (sI (sI (sI m x0 48 ((8 * (gI m x0 4)) + (gI m b_31 ((gI m x0 4).toNatClampNeg)))) b_32 ((gI (sI m x0 48 ((8 * (gI m x0 4)) + (gI m b_31 ((gI m x0 4).toNatClampNeg)))) x0 48).toNatClampNeg) (gI (sI m x0 48 ((8 * (gI m x0 4)) + (gI m b_31 ((gI m x0 4).toNatClampNeg)))) x0 42)) b_33 ((gI (sI (sI m x0 48 ((8 * (gI m x0 4)) + (gI m b_31 ((gI m x0 4).toNatClampNeg)))) b_32 ((gI (sI m x0 48 ((8 * (gI m x0 4)) + (gI m b_31 ((gI m x0 4).toNatClampNeg)))) x0 48).toNatClampNeg) (gI (sI m x0 48 ((8 * (gI m x0 4)) + (gI m b_31 ((gI m x0 4).toNatClampNeg)))) x0 42)) x0 48).toNatClampNeg) (gI (sI (sI m x0 48 ((8 * (gI m x0 4)) + (gI m b_31 ((gI m x0 4).toNatClampNeg)))) b_32 ((gI (sI m x0 48 ((8 * (gI m x0 4)) + (gI m b_31 ((gI m x0 4).toNatClampNeg)))) x0 48).toNatClampNeg) (gI (sI m x0 48 ((8 * (gI m x0 4)) + (gI m b_31 ((gI m x0 4).toNatClampNeg)))) x0 42)) x0 43)) b_34 ((gI (sI (sI (sI m x0 48 ((8 * (gI m x0 4)) + (gI m b_31 ((gI m x0 4).toNatClampNeg)))) b_32 ((gI (sI m x0 48 ((8 * (gI m x0 4)) + (gI m b_31 ((gI m x0 4).toNatClampNeg)))) x0 48).toNatClampNeg) (gI (sI m x0 48 ((8 * (gI m x0 4)) + (gI m b_31 ((gI m x0 4).toNatClampNeg)))) x0 42)) b_33 ((gI (sI (sI m x0 48 ((8 * (gI m x0 4)) + (gI m b_31 ((gI m x0 4).toNatClampNeg)))) b_32 ((gI (sI m x0 48 ((8 * (gI m x0 4)) + (gI m b_31 ((gI m x0 4).toNatClampNeg)))) x0 48).toNatClampNeg) (gI (sI m x0 48 ((8 * (gI m x0 4)) + (gI m b_31 ((gI m x0 4).toNatClampNeg)))) x0 42)) x0 48).toNatClampNeg) (gI (sI (sI m x0 48 ((8 * (gI m x0 4)) + (gI m b_31 ((gI m x0 4).toNatClampNeg)))) b_32 ((gI (sI m x0 48 ((8 * (gI m x0 4)) + (gI m b_31 ((gI m x0 4).toNatClampNeg)))) x0 48).toNatClampNeg) (gI (sI m x0 48 ((8 * (gI m x0 4)) + (gI m b_31 ((gI m x0 4).toNatClampNeg)))) x0 42)) x0 43)) x0 48).toNatClampNeg) 0) b_35 ((gI (sI (sI (sI (sI m x0 48 ((8 * (gI m x0 4)) + (gI m b_31 ((gI m x0 4).toNatClampNeg)))) b_32 ((gI (sI m x0 48 ((8 * (gI m x0 4)) + (gI m b_31 ((gI m x0 4).toNatClampNeg)))) x0 48).toNatClampNeg) (gI (sI m x0 48 ((8 * (gI m x0 4)) + (gI m b_31 ((gI m x0 4).toNatClampNeg)))) x0 42)) b_33 ((gI (sI (sI m x0 48 ((8 * (gI m x0 4)) + (gI m b_31 ((gI m x0 4).toNatClampNeg)))) b_32 ((gI (sI m x0 48 ((8 * (gI m x0 4)) + (gI m b_31 ((gI m x0 4).toNatClampNeg)))) x0 48).toNatClampNeg) (gI (sI m x0 48 ((8 * (gI m x0 4)) + (gI m b_31 ((gI m x0 4).toNatClampNeg)))) x0 42)) x0 48).toNatClampNeg) (gI (sI (sI m x0 48 ((8 * (gI m x0 4)) + (gI m b_31 ((gI m x0 4).toNatClampNeg)))) b_32 ((gI (sI m x0 48 ((8 * (gI m x0 4)) + (gI m b_31 ((gI m x0 4).toNatClampNeg)))) x0 48).toNatClampNeg) (gI (sI m x0 48 ((8 * (gI m x0 4)) + (gI m b_31 ((gI m x0 4).toNatClampNeg)))) x0 42)) x0 43)) b_34 ((gI (sI (sI (sI m x0 48 ((8 * (gI m x0 4)) + (gI m b_31 ((gI m x0 4).toNatClampNeg)))) b_32 ((gI (sI m x0 48 ((8 * (gI m x0 4)) + (gI m b_31 ((gI m x0 4).toNatClampNeg)))) x0 48).toNatClampNeg) (gI (sI m x0 48 ((8 * (gI m x0 4)) + (gI m b_31 ((gI m x0 4).toNatClampNeg)))) x0 42)) b_33 ((gI (sI (sI m x0 48 ((8 * (gI m x0 4)) + (gI m b_31 ((gI m x0 4).toNatClampNeg)))) b_32 ((gI (sI m x0 48 ((8 * (gI m x0 4)) + (gI m b_31 ((gI m x0 4).toNatClampNeg)))) x0 48).toNatClampNeg) (gI (sI m x0 48 ((8 * (gI m x0 4)) + (gI m b_31 ((gI m x0 4).toNatClampNeg)))) x0 42)) x0 48).toNatClampNeg) (gI (sI (sI m x0 48 ((8 * (gI m x0 4)) + (gI m b_31 ((gI m x0 4).toNatClampNeg)))) b_32 ((gI (sI m x0 48 ((8 * (gI m x0 4)) + (gI m b_31 ((gI m x0 4).toNatClampNeg)))) x0 48).toNatClampNeg) (gI (sI m x0 48 ((8 * (gI m x0 4)) + (gI m b_31 ((gI m x0 4).toNatClampNeg)))) x0 42)) x0 43)) x0 48).toNatClampNeg) 0) x0 48).toNatClampNeg) 0) b_36 ((gI (sI (sI (sI (sI (sI m x0 48 ((8 * (gI m x0 4)) + (gI m b_31 ((gI m x0 4).toNatClampNeg)))) b_32 ((gI (sI m x0 48 ((8 * (gI m x0 4)) + (gI m b_31 ((gI m x0 4).toNatClampNeg)))) x0 48).toNatClampNeg) (gI (sI m x0 48 ((8 * (gI m x0 4)) + (gI m b_31 ((gI m x0 4).toNatClampNeg)))) x0 42)) b_33 ((gI (sI (sI m x0 48 ((8 * (gI m x0 4)) + (gI m b_31 ((gI m x0 4).toNatClampNeg)))) b_32 ((gI (sI m x0 48 ((8 * (gI m x0 4)) + (gI m b_31 ((gI m x0 4).toNatClampNeg)))) x0 48).toNatClampNeg) (gI (sI m x0 48 ((8 * (gI m x0 4)) + (gI m b_31 ((gI m x0 4).toNatClampNeg)))) x0 42)) x0 48).toNatClampNeg) (gI (sI (sI m x0 48 ((8 * (gI m x0 4)) + (gI m b_31 ((gI m x0 4).toNatClampNeg)))) b_32 ((gI (sI m x0 48 ((8 * (gI m x0 4)) + (gI m b_31 ((gI m x0 4).toNatClampNeg)))) x0 48).toNatClampNeg) (gI (sI m x0 48 ((8 * (gI m x0 4)) + (gI m b_31 ((gI m x0 4).toNatClampNeg)))) x0 42)) x0 43)) b_34 ((gI (sI (sI (sI m x0 48 ((8 * (gI m x0 4)) + (gI m b_31 ((gI m x0 4).toNatClampNeg)))) b_32 ((gI (sI m x0 48 ((8 * (gI m x0 4)) + (gI m b_31 ((gI m x0 4).toNatClampNeg)))) x0 48).toNatClampNeg) (gI (sI m x0 48 ((8 * (gI m x0 4)) + (gI m b_31 ((gI m x0 4).toNatClampNeg)))) x0 42)) b_33 ((gI (sI (sI m x0 48 ((8 * (gI m x0 4)) + (gI m b_31 ((gI m x0 4).toNatClampNeg)))) b_32 ((gI (sI m x0 48 ((8 * (gI m x0 4)) + (gI m b_31 ((gI m x0 4).toNatClampNeg)))) x0 48).toNatClampNeg) (gI (sI m x0 48 ((8 * (gI m x0 4)) + (gI m b_31 ((gI m x0 4).toNatClampNeg)))) x0 42)) x0 48).toNatClampNeg) (gI (sI (sI m x0 48 ((8 * (gI m x0 4)) + (gI m b_31 ((gI m x0 4).toNatClampNeg)))) b_32 ((gI (sI m x0 48 ((8 * (gI m x0 4)) + (gI m b_31 ((gI m x0 4).toNatClampNeg)))) x0 48).toNatClampNeg) (gI (sI m x0 48 ((8 * (gI m x0 4)) + (gI m b_31 ((gI m x0 4).toNatClampNeg)))) x0 42)) x0 43)) x0 48).toNatClampNeg) 0) b_35 ((gI (sI (sI (sI (sI m x0 48 ((8 * (gI m x0 4)) + (gI m b_31 ((gI m x0 4).toNatClampNeg)))) b_32 ((gI (sI m x0 48 ((8 * (gI m x0 4)) + (gI m b_31 ((gI m x0 4).toNatClampNeg)))) x0 48).toNatClampNeg) (gI (sI m x0 48 ((8 * (gI m x0 4)) + (gI m b_31 ((gI m x0 4).toNatClampNeg)))) x0 42)) b_33 ((gI (sI (sI m x0 48 ((8 * (gI m x0 4)) + (gI m b_31 ((gI m x0 4).toNatClampNeg)))) b_32 ((gI (sI m x0 48 ((8 * (gI m x0 4)) + (gI m b_31 ((gI m x0 4).toNatClampNeg)))) x0 48).toNatClampNeg) (gI (sI m x0 48 ((8 * (gI m x0 4)) + (gI m b_31 ((gI m x0 4).toNatClampNeg)))) x0 42)) x0 48).toNatClampNeg) (gI (sI (sI m x0 48 ((8 * (gI m x0 4)) + (gI m b_31 ((gI m x0 4).toNatClampNeg)))) b_32 ((gI (sI m x0 48 ((8 * (gI m x0 4)) + (gI m b_31 ((gI m x0 4).toNatClampNeg)))) x0 48).toNatClampNeg) (gI (sI m x0 48 ((8 * (gI m x0 4)) + (gI m b_31 ((gI m x0 4).toNatClampNeg)))) x0 42)) x0 43)) b_34 ((gI (sI (sI (sI m x0 48 ((8 * (gI m x0 4)) + (gI m b_31 ((gI m x0 4).toNatClampNeg)))) b_32 ((gI (sI m x0 48 ((8 * (gI m x0 4)) + (gI m b_31 ((gI m x0 4).toNatClampNeg)))) x0 48).toNatClampNeg) (gI (sI m x0 48 ((8 * (gI m x0 4)) + (gI m b_31 ((gI m x0 4).toNatClampNeg)))) x0 42)) b_33 ((gI (sI (sI m x0 48 ((8 * (gI m x0 4)) + (gI m b_31 ((gI m x0 4).toNatClampNeg)))) b_32 ((gI (sI m x0 48 ((8 * (gI m x0 4)) + (gI m b_31 ((gI m x0 4).toNatClampNeg)))) x0 48).toNatClampNeg) (gI (sI m x0 48 ((8 * (gI m x0 4)) + (gI m b_31 ((gI m x0 4).toNatClampNeg)))) x0 42)) x0 48).toNatClampNeg) (gI (sI (sI m x0 48 ((8 * (gI m x0 4)) + (gI m b_31 ((gI m x0 4).toNatClampNeg)))) b_32 ((gI (sI m x0 48 ((8 * (gI m x0 4)) + (gI m b_31 ((gI m x0 4).toNatClampNeg)))) x0 48).toNatClampNeg) (gI (sI m x0 48 ((8 * (gI m x0 4)) + (gI m b_31 ((gI m x0 4).toNatClampNeg)))) x0 42)) x0 43)) x0 48).toNatClampNeg) 0) x0 48).toNatClampNeg) 0) x0 48).toNatClampNeg) 0) b_37 ((gI (sI (sI (sI (sI (sI (sI m x0 48 ((8 * (gI m x0 4)) + (gI m b_31 ((gI m x0 4).toNatClampNeg)))) b_32 ((gI (sI m x0 48 ((8 * (gI m x0 4)) + (gI m b_31 ((gI m x0 4).toNatClampNeg)))) x0 48).toNatClampNeg) (gI (sI m x0 48 ((8 * (gI m x0 4)) + (gI m b_31 ((gI m x0 4).toNatClampNeg)))) x0 42)) b_33 ((gI (sI (sI m x0 48 ((8 * (gI m x0 4)) + (gI m b_31 ((gI m x0 4).toNatClampNeg)))) b_32 ((gI (sI m x0 48 ((8 * (gI m x0 4)) + (gI m b_31 ((gI m x0 4).toNatClampNeg)))) x0 48).toNatClampNeg) (gI (sI m x0 48 ((8 * (gI m x0 4)) + (gI m b_31 ((gI m x0 4).toNatClampNeg)))) x0 42)) x0 48).toNatClampNeg) (gI (sI (sI m x0 48 ((8 * (gI m x0 4)) + (gI m b_31 ((gI m x0 4).toNatClampNeg)))) b_32 ((gI (sI m x0 48 ((8 * (gI m x0 4)) + (gI m b_31 ((gI m x0 4).toNatClampNeg)))) x0 48).toNatClampNeg) (gI (sI m x0 48 ((8 * (gI m x0 4)) + (gI m b_31 ((gI m x0 4).toNatClampNeg)))) x0 42)) x0 43)) b_34 ((gI (sI (sI (sI m x0 48 ((8 * (gI m x0 4)) + (gI m b_31 ((gI m x0 4).toNatClampNeg)))) b_32 ((gI (sI m x0 48 ((8 * (gI m x0 4)) + (gI m b_31 ((gI m x0 4).toNatClampNeg)))) x0 48).toNatClampNeg) (gI (sI m x0 48 ((8 * (gI m x0 4)) + (gI m b_31 ((gI m x0 4).toNatClampNeg)))) x0 42)) b_33 ((gI (sI (sI m x0 48 ((8 * (gI m x0 4)) + (gI m b_31 ((gI m x0 4).toNatClampNeg)))) b_32 ((gI (sI m x0 48 ((8 * (gI m x0 4)) + (gI m b_31 ((gI m x0 4).toNatClampNeg)))) x0 48).toNatClampNeg) (gI (sI m x0 48 ((8 * (gI m x0 4)) + (gI m b_31 ((gI m x0 4).toNatClampNeg)))) x0 42)) x0 48).toNatClampNeg) (gI (sI (sI m x0 48 ((8 * (gI m x0 4)) + (gI m b_31 ((gI m x0 4).toNatClampNeg)))) b_32 ((gI (sI m x0 48 ((8 * (gI m x0 4)) + (gI m b_31 ((gI m x0 4).toNatClampNeg)))) x0 48).toNatClampNeg) (gI (sI m x0 48 ((8 * (gI m x0 4)) + (gI m b_31 ((gI m x0 4).toNatClampNeg)))) x0 42)) x0 43)) x0 48).toNatClampNeg) 0) b_35 ((gI (sI (sI (sI (sI m x0 48 ((8 * (gI m x0 4)) + (gI m b_31 ((gI m x0 4).toNatClampNeg)))) b_32 ((gI (sI m x0 48 ((8 * (gI m x0 4)) + (gI m b_31 ((gI m x0 4).toNatClampNeg)))) x0 48).toNatClampNeg) (gI (sI m x0 48 ((8 * (gI m x0 4)) + (gI m b_31 ((gI m x0 4).toNatClampNeg)))) x0 42)) b_33 ((gI (sI (sI m x0 48 ((8 * (gI m x0 4)) + (gI m b_31 ((gI m x0 4).toNatClampNeg)))) b_32 ((gI (sI m x0 48 ((8 * (gI m x0 4)) + (gI m b_31 ((gI m x0 4).toNatClampNeg)))) x0 48).toNatClampNeg) (gI (sI m x0 48 ((8 * (gI m x0 4)) + (gI m b_31 ((gI m x0 4).toNatClampNeg)))) x0 42)) x0 48).toNatClampNeg) (gI (sI (sI m x0 48 ((8 * (gI m x0 4)) + (gI m b_31 ((gI m x0 4).toNatClampNeg)))) b_32 ((gI (sI m x0 48 ((8 * (gI m x0 4)) + (gI m b_31 ((gI m x0 4).toNatClampNeg)))) x0 48).toNatClampNeg) (gI (sI m x0 48 ((8 * (gI m x0 4)) + (gI m b_31 ((gI m x0 4).toNatClampNeg)))) x0 42)) x0 43)) b_34 ((gI (sI (sI (sI m x0 48 ((8 * (gI m x0 4)) + (gI m b_31 ((gI m x0 4).toNatClampNeg)))) b_32 ((gI (sI m x0 48 ((8 * (gI m x0 4)) + (gI m b_31 ((gI m x0 4).toNatClampNeg)))) x0 48).toNatClampNeg) (gI (sI m x0 48 ((8 * (gI m x0 4)) + (gI m b_31 ((gI m x0 4).toNatClampNeg)))) x0 42)) b_33 ((gI (sI (sI m x0 48 ((8 * (gI m x0 4)) + (gI m b_31 ((gI m x0 4).toNatClampNeg)))) b_32 ((gI (sI m x0 48 ((8 * (gI m x0 4)) + (gI m b_31 ((gI m x0 4).toNatClampNeg)))) x0 48).toNatClampNeg) (gI (sI m x0 48 ((8 * (gI m x0 4)) + (gI m b_31 ((gI m x0 4).toNatClampNeg)))) x0 42)) x0 48).toNatClampNeg) (gI (sI (sI m x0 48 ((8 * (gI m x0 4)) + (gI m b_31 ((gI m x0 4).toNatClampNeg)))) b_32 ((gI (sI m x0 48 ((8 * (gI m x0 4)) + (gI m b_31 ((gI m x0 4).toNatClampNeg)))) x0 48).toNatClampNeg) (gI (sI m x0 48 ((8 * (gI m x0 4)) + (gI m b_31 ((gI m x0 4).toNatClampNeg)))) x0 42)) x0 43)) x0 48).toNatClampNeg) 0) x0 48).toNatClampNeg) 0) b_36 ((gI (sI (sI (sI (sI (sI m x0 48 ((8 * (gI m x0 4)) + (gI m b_31 ((gI m x0 4).toNatClampNeg)))) b_32 ((gI (sI m x0 48 ((8 * (gI m x0 4)) + (gI m b_31 ((gI m x0 4).toNatClampNeg)))) x0 48).toNatClampNeg) (gI (sI m x0 48 ((8 * (gI m x0 4)) + (gI m b_31 ((gI m x0 4).toNatClampNeg)))) x0 42)) b_33 ((gI (sI (sI m x0 48 ((8 * (gI m x0 4)) + (gI m b_31 ((gI m x0 4).toNatClampNeg)))) b_32 ((gI (sI m x0 48 ((8 * (gI m x0 4)) + (gI m b_31 ((gI m x0 4).toNatClampNeg)))) x0 48).toNatClampNeg) (gI (sI m x0 48 ((8 * (gI m x0 4)) + (gI m b_31 ((gI m x0 4).toNatClampNeg)))) x0 42)) x0 48).toNatClampNeg) (gI (sI (sI m x0 48 ((8 * (gI m x0 4)) + (gI m b_31 ((gI m x0 4).toNatClampNeg)))) b_32 ((gI (sI m x0 48 ((8 * (gI m x0 4)) + (gI m b_31 ((gI m x0 4).toNatClampNeg)))) x0 48).toNatClampNeg) (gI (sI m x0 48 ((8 * (gI m x0 4)) + (gI m b_31 ((gI m x0 4).toNatClampNeg)))) x0 42)) x0 43)) b_34 ((gI (sI (sI (sI m x0 48 ((8 * (gI m x0 4)) + (gI m b_31 ((gI m x0 4).toNatClampNeg)))) b_32 ((gI (sI m x0 48 ((8 * (gI m x0 4)) + (gI m b_31 ((gI m x0 4).toNatClampNeg)))) x0 48).toNatClampNeg) (gI (sI m x0 48 ((8 * (gI m x0 4)) + (gI m b_31 ((gI m x0 4).toNatClampNeg)))) x0 42)) b_33 ((gI (sI (sI m x0 48 ((8 * (gI m x0 4)) + (gI m b_31 ((gI m x0 4).toNatClampNeg)))) b_32 ((gI (sI m x0 48 ((8 * (gI m x0 4)) + (gI m b_31 ((gI m x0 4).toNatClampNeg)))) x0 48).toNatClampNeg) (gI (sI m x0 48 ((8 * (gI m x0 4)) + (gI m b_31 ((gI m x0 4).toNatClampNeg)))) x0 42)) x0 48).toNatClampNeg) (gI (sI (sI m x0 48 ((8 * (gI m x0 4)) + (gI m b_31 ((gI m x0 4).toNatClampNeg)))) b_32 ((gI (sI m x0 48 ((8 * (gI m x0 4)) + (gI m b_31 ((gI m x0 4).toNatClampNeg)))) x0 48).toNatClampNeg) (gI (sI m x0 48 ((8 * (gI m x0 4)) + (gI m b_31 ((gI m x0 4).toNatClampNeg)))) x0 42)) x0 43)) x0 48).toNatClampNeg) 0) b_35 ((gI (sI (sI (sI (sI m x0 48 ((8 * (gI m x0 4)) + (gI m b_31 ((gI m x0 4).toNatClampNeg)))) b_32 ((gI (sI m x0 48 ((8 * (gI m x0 4)) + (gI m b_31 ((gI m x0 4).toNatClampNeg)))) x0 48).toNatClampNeg) (gI (sI m x0 48 ((8 * (gI m x0 4)) + (gI m b_31 ((gI m x0 4).toNatClampNeg)))) x0 42)) b_33 ((gI (sI (sI m x0 48 ((8 * (gI m x0 4)) + (gI m b_31 ((gI m x0 4).toNatClampNeg)))) b_32 ((gI (sI m x0 48 ((8 * (gI m x0 4)) + (gI m b_31 ((gI m x0 4).toNatClampNeg)))) x0 48).toNatClampNeg) (gI (sI m x0 48 ((8 * (gI m x0 4)) + (gI m b_31 ((gI m x0 4).toNatClampNeg)))) x0 42)) x0 48).toNatClampNeg) (gI (sI (sI m x0 48 ((8 * (gI m x0 4)) + (gI m b_31 ((gI m x0 4).toNatClampNeg)))) b_32 ((gI (sI m x0 48 ((8 * (gI m x0 4)) + (gI m b_31 ((gI m x0 4).toNatClampNeg)))) x0 48).toNatClampNeg) (gI (sI m x0 48 ((8 * (gI m x0 4)) + (gI m b_31 ((gI m x0 4).toNatClampNeg)))) x0 42)) x0 43)) b_34 ((gI (sI (sI (sI m x0 48 ((8 * (gI m x0 4)) + (gI m b_31 ((gI m x0 4).toNatClampNeg)))) b_32 ((gI (sI m x0 48 ((8 * (gI m x0 4)) + (gI m b_31 ((gI m x0 4).toNatClampNeg)))) x0 48).toNatClampNeg) (gI (sI m x0 48 ((8 * (gI m x0 4)) + (gI m b_31 ((gI m x0 4).toNatClampNeg)))) x0 42)) b_33 ((gI (sI (sI m x0 48 ((8 * (gI m x0 4)) + (gI m b_31 ((gI m x0 4).toNatClampNeg)))) b_32 ((gI (sI m x0 48 ((8 * (gI m x0 4)) + (gI m b_31 ((gI m x0 4).toNatClampNeg)))) x0 48).toNatClampNeg) (gI (sI m x0 48 ((8 * (gI m x0 4)) + (gI m b_31 ((gI m x0 4).toNatClampNeg)))) x0 42)) x0 48).toNatClampNeg) (gI (sI (sI m x0 48 ((8 * (gI m x0 4)) + (gI m b_31 ((gI m x0 4).toNatClampNeg)))) b_32 ((gI (sI m x0 48 ((8 * (gI m x0 4)) + (gI m b_31 ((gI m x0 4).toNatClampNeg)))) x0 48).toNatClampNeg) (gI (sI m x0 48 ((8 * (gI m x0 4)) + (gI m b_31 ((gI m x0 4).toNatClampNeg)))) x0 42)) x0 43)) x0 48).toNatClampNeg) 0) x0 48).toNatClampNeg) 0) x0 48).toNatClampNeg) 0) x0 48).toNatClampNeg) (-1)) b_38 ((gI (sI (sI (sI (sI (sI (sI (sI m x0 48 ((8 * (gI m x0 4)) + (gI m b_31 ((gI m x0 4).toNatClampNeg)))) b_32 ((gI (sI m x0 48 ((8 * (gI m x0 4)) + (gI m b_31 ((gI m x0 4).toNatClampNeg)))) x0 48).toNatClampNeg) (gI (sI m x0 48 ((8 * (gI m x0 4)) + (gI m b_31 ((gI m x0 4).toNatClampNeg)))) x0 42)) b_33 ((gI (sI (sI m x0 48 ((8 * (gI m x0 4)) + (gI m b_31 ((gI m x0 4).toNatClampNeg)))) b_32 ((gI (sI m x0 48 ((8 * (gI m x0 4)) + (gI m b_31 ((gI m x0 4).toNatClampNeg)))) x0 48).toNatClampNeg) (gI (sI m x0 48 ((8 * (gI m x0 4)) + (gI m b_31 ((gI m x0 4).toNatClampNeg)))) x0 42)) x0 48).toNatClampNeg) (gI (sI (sI m x0 48 ((8 * (gI m x0 4)) + (gI m b_31 ((gI m x0 4).toNatClampNeg)))) b_32 ((gI (sI m x0 48 ((8 * (gI m x0 4)) + (gI m b_31 ((gI m x0 4).toNatClampNeg)))) x0 48).toNatClampNeg) (gI (sI m x0 48 ((8 * (gI m x0 4)) + (gI m b_31 ((gI m x0 4).toNatClampNeg)))) x0 42)) x0 43)) b_34 ((gI (sI (sI (sI m x0 48 ((8 * (gI m x0 4)) + (gI m b_31 ((gI m x0 4).toNatClampNeg)))) b_32 ((gI (sI m x0 48 ((8 * (gI m x0 4)) + (gI m b_31 ((gI m x0 4).toNatClampNeg)))) x0 48).toNatClampNeg) (gI (sI m x0 48 ((8 * (gI m x0 4)) + (gI m b_31 ((gI m x0 4).toNatClampNeg)))) x0 42)) b_33 ((gI (sI (sI m x0 48 ((8 * (gI m x0 4)) + (gI m b_31 ((gI m x0 4).toNatClampNeg)))) b_32 ((gI (sI m x0 48 ((8 * (gI m x0 4)) + (gI m b_31 ((gI m x0 4).toNatClampNeg)))) x0 48).toNatClampNeg) (gI (sI m x0 48 ((8 * (gI m x0 4)) + (gI m b_31 ((gI m x0 4).toNatClampNeg)))) x0 42)) x0 48).toNatClampNeg) (gI (sI (sI m x0 48 ((8 * (gI m x0 4)) + (gI m b_31 ((gI m x0 4).toNatClampNeg)))) b_32 ((gI (sI m x0 48 ((8 * (gI m x0 4)) + (gI m b_31 ((gI m x0 4).toNatClampNeg)))) x0 48).toNatClampNeg) (gI (sI m x0 48 ((8 * (gI m x0 4)) + (gI m b_31 ((gI m x0 4).toNatClampNeg)))) x0 42)) x0 43)) x0 48).toNatClampNeg) 0) b_35 ((gI (sI (sI (sI (sI m x0 48 ((8 * (gI m x0 4)) + (gI m b_31 ((gI m x0 4).toNatClampNeg)))) b_32 ((gI (sI m x0 48 ((8 * (gI m x0 4)) + (gI m b_31 ((gI m x0 4).toNatClampNeg)))) x0 48).toNatClampNeg) (gI (sI m x0 48 ((8 * (gI m x0 4)) + (gI m b_31 ((gI m x0 4).toNatClampNeg)))) x0 42)) b_33 ((gI (sI (sI m x0 48 ((8 * (gI m x0 4)) + (gI m b_31 ((gI m x0 4).toNatClampNeg)))) b_32 ((gI (sI m x0 48 ((8 * (gI m x0 4)) + (gI m b_31 ((gI m x0 4).toNatClampNeg)))) x0 48).toNatClampNeg) (gI (sI m x0 48 ((8 * (gI m x0 4)) + (gI m b_31 ((gI m x0 4).toNatClampNeg)))) x0 42)) x0 48).toNatClampNeg) (gI (sI (sI m x0 48 ((8 * (gI m x0 4)) + (gI m b_31 ((gI m x0 4).toNatClampNeg)))) b_32 ((gI (sI m x0 48 ((8 * (gI m x0 4)) + (gI m b_31 ((gI m x0 4).toNatClampNeg)))) x0 48).toNatClampNeg) (gI (sI m x0 48 ((8 * (gI m x0 4)) + (gI m b_31 ((gI m x0 4).toNatClampNeg)))) x0 42)) x0 43)) b_34 ((gI (sI (sI (sI m x0 48 ((8 * (gI m x0 4)) + (gI m b_31 ((gI m x0 4).toNatClampNeg)))) b_32 ((gI (sI m x0 48 ((8 * (gI m x0 4)) + (gI m b_31 ((gI m x0 4).toNatClampNeg)))) x0 48).toNatClampNeg) (gI (sI m x0 48 ((8 * (gI m x0 4)) + (gI m b_31 ((gI m x0 4).toNatClampNeg)))) x0 42)) b_33 ((gI (sI (sI m x0 48 ((8 * (gI m x0 4)) + (gI m b_31 ((gI m x0 4).toNatClampNeg)))) b_32 ((gI (sI m x0 48 ((8 * (gI m x0 4)) + (gI m b_31 ((gI m x0 4).toNatClampNeg)))) x0 48).toNatClampNeg) (gI (sI m x0 48 ((8 * (gI m x0 4)) + (gI m b_31 ((gI m x0 4).toNatClampNeg)))) x0 42)) x0 48).toNatClampNeg) (gI (sI (sI m x0 48 ((8 * (gI m x0 4)) + (gI m b_31 ((gI m x0 4).toNatClampNeg)))) b_32 ((gI (sI m x0 48 ((8 * (gI m x0 4)) + (gI m b_31 ((gI m x0 4).toNatClampNeg)))) x0 48).toNatClampNeg) (gI (sI m x0 48 ((8 * (gI m x0 4)) + (gI m b_31 ((gI m x0 4).toNatClampNeg)))) x0 42)) x0 43)) x0 48).toNatClampNeg) 0) x0 48).toNatClampNeg) 0) b_36 ((gI (sI (sI (sI (sI (sI m x0 48 ((8 * (gI m x0 4)) + (gI m b_31 ((gI m x0 4).toNatClampNeg)))) b_32 ((gI (sI m x0 48 ((8 * (gI m x0 4)) + (gI m b_31 ((gI m x0 4).toNatClampNeg)))) x0 48).toNatClampNeg) (gI (sI m x0 48 ((8 * (gI m x0 4)) + (gI m b_31 ((gI m x0 4).toNatClampNeg)))) x0 42)) b_33 ((gI (sI (sI m x0 48 ((8 * (gI m x0 4)) + (gI m b_31 ((gI m x0 4).toNatClampNeg)))) b_32 ((gI (sI m x0 48 ((8 * (gI m x0 4)) + (gI m b_31 ((gI m x0 4).toNatClampNeg)))) x0 48).toNatClampNeg) (gI (sI m x0 48 ((8 * (gI m x0 4)) + (gI m b_31 ((gI m x0 4).toNatClampNeg)))) x0 42)) x0 48).toNatClampNeg) (gI (sI (sI m x0 48 ((8 * (gI m x0 4)) + (gI m b_31 ((gI m x0 4).toNatClampNeg)))) b_32 ((gI (sI m x0 48 ((8 * (gI m x0 4)) + (gI m b_31 ((gI m x0 4).toNatClampNeg)))) x0 48).toNatClampNeg) (gI (sI m x0 48 ((8 * (gI m x0 4)) + (gI m b_31 ((gI m x0 4).toNatClampNeg)))) x0 42)) x0 43)) b_34 ((gI (sI (sI (sI m x0 48 ((8 * (gI m x0 4)) + (gI m b_31 ((gI m x0 4).toNatClampNeg)))) b_32 ((gI (sI m x0 48 ((8 * (gI m x0 4)) + (gI m b_31 ((gI m x0 4).toNatClampNeg)))) x0 48).toNatClampNeg) (gI (sI m x0 48 ((8 * (gI m x0 4)) + (gI m b_31 ((gI m x0 4).toNatClampNeg)))) x0 42)) b_33 ((gI (sI (sI m x0 48 ((8 * (gI m x0 4)) + (gI m b_31 ((gI m x0 4).toNatClampNeg)))) b_32 ((gI (sI m x0 48 ((8 * (gI m x0 4)) + (gI m b_31 ((gI m x0 4).toNatClampNeg)))) x0 48).toNatClampNeg) (gI (sI m x0 48 ((8 * (gI m x0 4)) + (gI m b_31 ((gI m x0 4).toNatClampNeg)))) x0 42)) x0 48).toNatClampNeg) (gI (sI (sI m x0 48 ((8 * (gI m x0 4)) + (gI m b_31 ((gI m x0 4).toNatClampNeg)))) b_32 ((gI (sI m x0 48 ((8 * (gI m x0 4)) + (gI m b_31 ((gI m x0 4).toNatClampNeg)))) x0 48).toNatClampNeg) (gI (sI m x0 48 ((8 * (gI m x0 4)) + (gI m b_31 ((gI m x0 4).toNatClampNeg)))) x0 42)) x0 43)) x0 48).toNatClampNeg) 0) b_35 ((gI (sI (sI (sI (sI m x0 48 ((8 * (gI m x0 4)) + (gI m b_31 ((gI m x0 4).toNatClampNeg)))) b_32 ((gI (sI m x0 48 ((8 * (gI m x0 4)) + (gI m b_31 ((gI m x0 4).toNatClampNeg)))) x0 48).toNatClampNeg) (gI (sI m x0 48 ((8 * (gI m x0 4)) + (gI m b_31 ((gI m x0 4).toNatClampNeg)))) x0 42)) b_33 ((gI (sI (sI m x0 48 ((8 * (gI m x0 4)) + (gI m b_31 ((gI m x0 4).toNatClampNeg)))) b_32 ((gI (sI m x0 48 ((8 * (gI m x0 4)) + (gI m b_31 ((gI m x0 4).toNatClampNeg)))) x0 48).toNatClampNeg) (gI (sI m x0 48 ((8 * (gI m x0 4)) + (gI m b_31 ((gI m x0 4).toNatClampNeg)))) x0 42)) x0 48).toNatClampNeg) (gI (sI (sI m x0 48 ((8 * (gI m x0 4)) + (gI m b_31 ((gI m x0 4).toNatClampNeg)))) b_32 ((gI (sI m x0 48 ((8 * (gI m x0 4)) + (gI m b_31 ((gI m x0 4).toNatClampNeg)))) x0 48).toNatClampNeg) (gI (sI m x0 48 ((8 * (gI m x0 4)) + (gI m b_31 ((gI m x0 4).toNatClampNeg)))) x0 42)) x0 43)) b_34 ((gI (sI (sI (sI m x0 48 ((8 * (gI m x0 4)) + (gI m b_31 ((gI m x0 4).toNatClampNeg)))) b_32 ((gI (sI m x0 48 ((8 * (gI m x0 4)) + (gI m b_31 ((gI m x0 4).toNatClampNeg)))) x0 48).toNatClampNeg) (gI (sI m x0 48 ((8 * (gI m x0 4)) + (gI m b_31 ((gI m x0 4).toNatClampNeg)))) x0 42)) b_33 ((gI (sI (sI m x0 48 ((8 * (gI m x0 4)) + (gI m b_31 ((gI m x0 4).toNatClampNeg)))) b_32 ((gI (sI m x0 48 ((8 * (gI m x0 4)) + (gI m b_31 ((gI m x0 4).toNatClampNeg)))) x0 48).toNatClampNeg) (gI (sI m x0 48 ((8 * (gI m x0 4)) + (gI m b_31 ((gI m x0 4).toNatClampNeg)))) x0 42)) x0 48).toNatClampNeg) (gI (sI (sI m x0 48 ((8 * (gI m x0 4)) + (gI m b_31 ((gI m x0 4).toNatClampNeg)))) b_32 ((gI (sI m x0 48 ((8 * (gI m x0 4)) + (gI m b_31 ((gI m x0 4).toNatClampNeg)))) x0 48).toNatClampNeg) (gI (sI m x0 48 ((8 * (gI m x0 4)) + (gI m b_31 ((gI m x0 4).toNatClampNeg)))) x0 42)) x0 43)) x0 48).toNatClampNeg) 0) x0 48).toNatClampNeg) 0) x0 48).toNatClampNeg) 0) b_37 ((gI (sI (sI (sI (sI (sI (sI m x0 48 ((8 * (gI m x0 4)) + (gI m b_31 ((gI m x0 4).toNatClampNeg)))) b_32 ((gI (sI m x0 48 ((8 * (gI m x0 4)) + (gI m b_31 ((gI m x0 4).toNatClampNeg)))) x0 48).toNatClampNeg) (gI (sI m x0 48 ((8 * (gI m x0 4)) + (gI m b_31 ((gI m x0 4).toNatClampNeg)))) x0 42)) b_33 ((gI (sI (sI m x0 48 ((8 * (gI m x0 4)) + (gI m b_31 ((gI m x0 4).toNatClampNeg)))) b_32 ((gI (sI m x0 48 ((8 * (gI m x0 4)) + (gI m b_31 ((gI m x0 4).toNatClampNeg)))) x0 48).toNatClampNeg) (gI (sI m x0 48 ((8 * (gI m x0 4)) + (gI m b_31 ((gI m x0 4).toNatClampNeg)))) x0 42)) x0 48).toNatClampNeg) (gI (sI (sI m x0 48 ((8 * (gI m x0 4)) + (gI m b_31 ((gI m x0 4).toNatClampNeg)))) b_32 ((gI (sI m x0 48 ((8 * (gI m x0 4)) + (gI m b_31 ((gI m x0 4).toNatClampNeg)))) x0 48).toNatClampNeg) (gI (sI m x0 48 ((8 * (gI m x0 4)) + (gI m b_31 ((gI m x0 4).toNatClampNeg)))) x0 42)) x0 43)) b_34 ((gI (sI (sI (sI m x0 48 ((8 * (gI m x0 4)) + (gI m b_31 ((gI m x0 4).toNatClampNeg)))) b_32 ((gI (sI m x0 48 ((8 * (gI m x0 4)) + (gI m b_31 ((gI m x0 4).toNatClampNeg)))) x0 48).toNatClampNeg) (gI (sI m x0 48 ((8 * (gI m x0 4)) + (gI m b_31 ((gI m x0 4).toNatClampNeg)))) x0 42)) b_33 ((gI (sI (sI m x0 48 ((8 * (gI m x0 4)) + (gI m b_31 ((gI m x0 4).toNatClampNeg)))) b_32 ((gI (sI m x0 48 ((8 * (gI m x0 4)) + (gI m b_31 ((gI m x0 4).toNatClampNeg)))) x0 48).toNatClampNeg) (gI (sI m x0 48 ((8 * (gI m x0 4)) + (gI m b_31 ((gI m x0 4).toNatClampNeg)))) x0 42)) x0 48).toNatClampNeg) (gI (sI (sI m x0 48 ((8 * (gI m x0 4)) + (gI m b_31 ((gI m x0 4).toNatClampNeg)))) b_32 ((gI (sI m x0 48 ((8 * (gI m x0 4)) + (gI m b_31 ((gI m x0 4).toNatClampNeg)))) x0 48).toNatClampNeg) (gI (sI m x0 48 ((8 * (gI m x0 4)) + (gI m b_31 ((gI m x0 4).toNatClampNeg)))) x0 42)) x0 43)) x0 48).toNatClampNeg) 0) b_35 ((gI (sI (sI (sI (sI m x0 48 ((8 * (gI m x0 4)) + (gI m b_31 ((gI m x0 4).toNatClampNeg)))) b_32 ((gI (sI m x0 48 ((8 * (gI m x0 4)) + (gI m b_31 ((gI m x0 4).toNatClampNeg)))) x0 48).toNatClampNeg) (gI (sI m x0 48 ((8 * (gI m x0 4)) + (gI m b_31 ((gI m x0 4).toNatClampNeg)))) x0 42)) b_33 ((gI (sI (sI m x0 48 ((8 * (gI m x0 4)) + (gI m b_31 ((gI m x0 4).toNatClampNeg)))) b_32 ((gI (sI m x0 48 ((8 * (gI m x0 4)) + (gI m b_31 ((gI m x0 4).toNatClampNeg)))) x0 48).toNatClampNeg) (gI (sI m x0 48 ((8 * (gI m x0 4)) + (gI m b_31 ((gI m x0 4).toNatClampNeg)))) x0 42)) x0 48).toNatClampNeg) (gI (sI (sI m x0 48 ((8 * (gI m x0 4)) + (gI m b_31 ((gI m x0 4).toNatClampNeg)))) b_32 ((gI (sI m x0 48 ((8 * (gI m x0 4)) + (gI m b_31 ((gI m x0 4).toNatClampNeg)))) x0 48).toNatClampNeg) (gI (sI m x0 48 ((8 * (gI m x0 4)) + (gI m b_31 ((gI m x0 4).toNatClampNeg)))) x0 42)) x0 43)) b_34 ((gI (sI (sI (sI m x0 48 ((8 * (gI m x0 4)) + (gI m b_31 ((gI m x0 4).toNatClampNeg)))) b_32 ((gI (sI m x0 48 ((8 * (gI m x0 4)) + (gI m b_31 ((gI m x0 4).toNatClampNeg)))) x0 48).toNatClampNeg) (gI (sI m x0 48 ((8 * (gI m x0 4)) + (gI m b_31 ((gI m x0 4).toNatClampNeg)))) x0 42)) b_33 ((gI (sI (sI m x0 48 ((8 * (gI m x0 4)) + (gI m b_31 ((gI m x0 4).toNatClampNeg)))) b_32 ((gI (sI m x0 48 ((8 * (gI m x0 4)) + (gI m b_31 ((gI m x0 4).toNatClampNeg)))) x0 48).toNatClampNeg) (gI (sI m x0 48 ((8 * (gI m x0 4)) + (gI m b_31 ((gI m x0 4).toNatClampNeg)))) x0 42)) x0 48).toNatClampNeg) (gI (sI (sI m x0 48 ((8 * (gI m x0 4)) + (gI m b_31 ((gI m x0 4).toNatClampNeg)))) b_32 ((gI (sI m x0 48 ((8 * (gI m x0 4)) + (gI m b_31 ((gI m x0 4).toNatClampNeg)))) x0 48).toNatClampNeg) (gI (sI m x0 48 ((8 * (gI m x0 4)) + (gI m b_31 ((gI m x0 4).toNatClampNeg)))) x0 42)) x0 43)) x0 48).toNatClampNeg) 0) x0 48).toNatClampNeg) 0) b_36 ((gI (sI (sI (sI (sI (sI m x0 48 ((8 * (gI m x0 4)) + (gI m b_31 ((gI m x0 4).toNatClampNeg)))) b_32 ((gI (sI m x0 48 ((8 * (gI m x0 4)) + (gI m b_31 ((gI m x0 4).toNatClampNeg)))) x0 48).toNatClampNeg) (gI (sI m x0 48 ((8 * (gI m x0 4)) + (gI m b_31 ((gI m x0 4).toNatClampNeg)))) x0 42)) b_33 ((gI (sI (sI m x0 48 ((8 * (gI m x0 4)) + (gI m b_31 ((gI m x0 4).toNatClampNeg)))) b_32 ((gI (sI m x0 48 ((8 * (gI m x0 4)) + (gI m b_31 ((gI m x0 4).toNatClampNeg)))) x0 48).toNatClampNeg) (gI (sI m x0 48 ((8 * (gI m x0 4)) + (gI m b_31 ((gI m x0 4).toNatClampNeg)))) x0 42)) x0 48).toNatClampNeg) (gI (sI (sI m x0 48 ((8 * (gI m x0 4)) + (gI m b_31 ((gI m x0 4).toNatClampNeg)))) b_32 ((gI (sI m x0 48 ((8 * (gI m x0 4)) + (gI m b_31 ((gI m x0 4).toNatClampNeg)))) x0 48).toNatClampNeg) (gI (sI m x0 48 ((8 * (gI m x0 4)) + (gI m b_31 ((gI m x0 4).toNatClampNeg)))) x0 42)) x0 43)) b_34 ((gI (sI (sI (sI m x0 48 ((8 * (gI m x0 4)) + (gI m b_31 ((gI m x0 4).toNatClampNeg)))) b_32 ((gI (sI m x0 48 ((8 * (gI m x0 4)) + (gI m b_31 ((gI m x0 4).toNatClampNeg)))) x0 48).toNatClampNeg) (gI (sI m x0 48 ((8 * (gI m x0 4)) + (gI m b_31 ((gI m x0 4).toNatClampNeg)))) x0 42)) b_33 ((gI (sI (sI m x0 48 ((8 * (gI m x0 4)) + (gI m b_31 ((gI m x0 4).toNatClampNeg)))) b_32 ((gI (sI m x0 48 ((8 * (gI m x0 4)) + (gI m b_31 ((gI m x0 4).toNatClampNeg)))) x0 48).toNatClampNeg) (gI (sI m x0 48 ((8 * (gI m x0 4)) + (gI m b_31 ((gI m x0 4).toNatClampNeg)))) x0 42)) x0 48).toNatClampNeg) (gI (sI (sI m x0 48 ((8 * (gI m x0 4)) + (gI m b_31 ((gI m x0 4).toNatClampNeg)))) b_32 ((gI (sI m x0 48 ((8 * (gI m x0 4)) + (gI m b_31 ((gI m x0 4).toNatClampNeg)))) x0 48).toNatClampNeg) (gI (sI m x0 48 ((8 * (gI m x0 4)) + (gI m b_31 ((gI m x0 4).toNatClampNeg)))) x0 42)) x0 43)) x0 48).toNatClampNeg) 0) b_35 ((gI (sI (sI (sI (sI m x0 48 ((8 * (gI m x0 4)) + (gI m b_31 ((gI m x0 4).toNatClampNeg)))) b_32 ((gI (sI m x0 48 ((8 * (gI m x0 4)) + (gI m b_31 ((gI m x0 4).toNatClampNeg)))) x0 48).toNatClampNeg) (gI (sI m x0 48 ((8 * (gI m x0 4)) + (gI m b_31 ((gI m x0 4).toNatClampNeg)))) x0 42)) b_33 ((gI (sI (sI m x0 48 ((8 * (gI m x0 4)) + (gI m b_31 ((gI m x0 4).toNatClampNeg)))) b_32 ((gI (sI m x0 48 ((8 * (gI m x0 4)) + (gI m b_31 ((gI m x0 4).toNatClampNeg)))) x0 48).toNatClampNeg) (gI (sI m x0 48 ((8 * (gI m x0 4)) + (gI m b_31 ((gI m x0 4).toNatClampNeg)))) x0 42)) x0 48).toNatClampNeg) (gI (sI (sI m x0 48 ((8 * (gI m x0 4)) + (gI m b_31 ((gI m x0 4).toNatClampNeg)))) b_32 ((gI (sI m x0 48 ((8 * (gI m x0 4)) + (gI m b_31 ((gI m x0 4).toNatClampNeg)))) x0 48).toNatClampNeg) (gI (sI m x0 48 ((8 * (gI m x0 4)) + (gI m b_31 ((gI m x0 4).toNatClampNeg)))) x0 42)) x0 43)) b_34 ((gI (sI (sI (sI m x0 48 ((8 * (gI m x0 4)) + (gI m b_31 ((gI m x0 4).toNatClampNeg)))) b_32 ((gI (sI m x0 48 ((8 * (gI m x0 4)) + (gI m b_31 ((gI m x0 4).toNatClampNeg)))) x0 48).toNatClampNeg) (gI (sI m x0 48 ((8 * (gI m x0 4)) + (gI m b_31 ((gI m x0 4).toNatClampNeg)))) x0 42)) b_33 ((gI (sI (sI m x0 48 ((8 * (gI m x0 4)) + (gI m b_31 ((gI m x0 4).toNatClampNeg)))) b_32 ((gI (sI m x0 48 ((8 * (gI m x0 4)) + (gI m b_31 ((gI m x0 4).toNatClampNeg)))) x0 48).toNatClampNeg) (gI (sI m x0 48 ((8 * (gI m x0 4)) + (gI m b_31 ((gI m x0 4).toNatClampNeg)))) x0 42)) x0 48).toNatClampNeg) (gI (sI (sI m x0 48 ((8 * (gI m x0 4)) + (gI m b_31 ((gI m x0 4).toNatClampNeg)))) b_32 ((gI (sI m x0 48 ((8 * (gI m x0 4)) + (gI m b_31 ((gI m x0 4).toNatClampNeg)))) x0 48).toNatClampNeg) (gI (sI m x0 48 ((8 * (gI m x0 4)) + (gI m b_31 ((gI m x0 4).toNatClampNeg)))) x0 42)) x0 43)) x0 48).toNatClampNeg) 0) x0 48).toNatClampNeg) 0) x0 48).toNatClampNeg) 0) x0 48).toNatClampNeg) (-1)) x0 48).toNatClampNeg) (-1)) x0 4) (G.2.2 b_39) <|
                                              bd (M_X11_next G x0 (sI (sI (sI (sI (sI (sI (sI (sI (sI m x0 48 ((8 * (gI m x0 4)) + (gI m b_31 ((gI m x0 4).toNatClampNeg)))) b_32 ((gI (sI m x0 48 ((8 * (gI m x0 4)) + (gI m b_31 ((gI m x0 4).toNatClampNeg)))) x0 48).toNatClampNeg) (gI (sI m x0 48 ((8 * (gI m x0 4)) + (gI m b_31 ((gI m x0 4).toNatClampNeg)))) x0 42)) b_33 ((gI (sI (sI m x0 48 ((8 * (gI m x0 4)) + (gI m b_31 ((gI m x0 4).toNatClampNeg)))) b_32 ((gI (sI m x0 48 ((8 * (gI m x0 4)) + (gI m b_31 ((gI m x0 4).toNatClampNeg)))) x0 48).toNatClampNeg) (gI (sI m x0 48 ((8 * (gI m x0 4)) + (gI m b_31 ((gI m x0 4).toNatClampNeg)))) x0 42)) x0 48).toNatClampNeg) (gI (sI (sI m x0 48 ((8 * (gI m x0 4)) + (gI m b_31 ((gI m x0 4).toNatClampNeg)))) b_32 ((gI (sI m x0 48 ((8 * (gI m x0 4)) + (gI m b_31 ((gI m x0 4).toNatClampNeg)))) x0 48).toNatClampNeg) (gI (sI m x0 48 ((8 * (gI m x0 4)) + (gI m b_31 ((gI m x0 4).toNatClampNeg)))) x0 42)) x0 43)) b_34 ((gI (sI (sI (sI m x0 48 ((8 * (gI m x0 4)) + (gI m b_31 ((gI m x0 4).toNatClampNeg)))) b_32 ((gI (sI m x0 48 ((8 * (gI m x0 4)) + (gI m b_31 ((gI m x0 4).toNatClampNeg)))) x0 48).toNatClampNeg) (gI (sI m x0 48 ((8 * (gI m x0 4)) + (gI m b_31 ((gI m x0 4).toNatClampNeg)))) x0 42)) b_33 ((gI (sI (sI m x0 48 ((8 * (gI m x0 4)) + (gI m b_31 ((gI m x0 4).toNatClampNeg)))) b_32 ((gI (sI m x0 48 ((8 * (gI m x0 4)) + (gI m b_31 ((gI m x0 4).toNatClampNeg)))) x0 48).toNatClampNeg) (gI (sI m x0 48 ((8 * (gI m x0 4)) + (gI m b_31 ((gI m x0 4).toNatClampNeg)))) x0 42)) x0 48).toNatClampNeg) (gI (sI (sI m x0 48 ((8 * (gI m x0 4)) + (gI m b_31 ((gI m x0 4).toNatClampNeg)))) b_32 ((gI (sI m x0 48 ((8 * (gI m x0 4)) + (gI m b_31 ((gI m x0 4).toNatClampNeg)))) x0 48).toNatClampNeg) (gI (sI m x0 48 ((8 * (gI m x0 4)) + (gI m b_31 ((gI m x0 4).toNatClampNeg)))) x0 42)) x0 43)) x0 48).toNatClampNeg) 0) b_35 ((gI (sI (sI (sI (sI m x0 48 ((8 * (gI m x0 4)) + (gI m b_31 ((gI m x0 4).toNatClampNeg)))) b_32 ((gI (sI m x0 48 ((8 * (gI m x0 4)) + (gI m b_31 ((gI m x0 4).toNatClampNeg)))) x0 48).toNatClampNeg) (gI (sI m x0 48 ((8 * (gI m x0 4)) + (gI m b_31 ((gI m x0 4).toNatClampNeg)))) x0 42)) b_33 ((gI (sI (sI m x0 48 ((8 * (gI m x0 4)) + (gI m b_31 ((gI m x0 4).toNatClampNeg)))) b_32 ((gI (sI m x0 48 ((8 * (gI m x0 4)) + (gI m b_31 ((gI m x0 4).toNatClampNeg)))) x0 48).toNatClampNeg) (gI (sI m x0 48 ((8 * (gI m x0 4)) + (gI m b_31 ((gI m x0 4).toNatClampNeg)))) x0 42)) x0 48).toNatClampNeg) (gI (sI (sI m x0 48 ((8 * (gI m x0 4)) + (gI m b_31 ((gI m x0 4).toNatClampNeg)))) b_32 ((gI (sI m x0 48 ((8 * (gI m x0 4)) + (gI m b_31 ((gI m x0 4).toNatClampNeg)))) x0 48).toNatClampNeg) (gI (sI m x0 48 ((8 * (gI m x0 4)) + (gI m b_31 ((gI m x0 4).toNatClampNeg)))) x0 42)) x0 43)) b_34 ((gI (sI (sI (sI m x0 48 ((8 * (gI m x0 4)) + (gI m b_31 ((gI m x0 4).toNatClampNeg)))) b_32 ((gI (sI m x0 48 ((8 * (gI m x0 4)) + (gI m b_31 ((gI m x0 4).toNatClampNeg)))) x0 48).toNatClampNeg) (gI (sI m x0 48 ((8 * (gI m x0 4)) + (gI m b_31 ((gI m x0 4).toNatClampNeg)))) x0 42)) b_33 ((gI (sI (sI m x0 48 ((8 * (gI m x0 4)) + (gI m b_31 ((gI m x0 4).toNatClampNeg)))) b_32 ((gI (sI m x0 48 ((8 * (gI m x0 4)) + (gI m b_31 ((gI m x0 4).toNatClampNeg)))) x0 48).toNatClampNeg) (gI (sI m x0 48 ((8 * (gI m x0 4)) + (gI m b_31 ((gI m x0 4).toNatClampNeg)))) x0 42)) x0 48).toNatClampNeg) (gI (sI (sI m x0 48 ((8 * (gI m x0 4)) + (gI m b_31 ((gI m x0 4).toNatClampNeg)))) b_32 ((gI (sI m x0 48 ((8 * (gI m x0 4)) + (gI m b_31 ((gI m x0 4).toNatClampNeg)))) x0 48).toNatClampNeg) (gI (sI m x0 48 ((8 * (gI m x0 4)) + (gI m b_31 ((gI m x0 4).toNatClampNeg)))) x0 42)) x0 43)) x0 48).toNatClampNeg) 0) x0 48).toNatClampNeg) 0) b_36 ((gI (sI (sI (sI (sI (sI m x0 48 ((8 * (gI m x0 4)) + (gI m b_31 ((gI m x0 4).toNatClampNeg)))) b_32 ((gI (sI m x0 48 ((8 * (gI m x0 4)) + (gI m b_31 ((gI m x0 4).toNatClampNeg)))) x0 48).toNatClampNeg) (gI (sI m x0 48 ((8 * (gI m x0 4)) + (gI m b_31 ((gI m x0 4).toNatClampNeg)))) x0 42)) b_33 ((gI (sI (sI m x0 48 ((8 * (gI m x0 4)) + (gI m b_31 ((gI m x0 4).toNatClampNeg)))) b_32 ((gI (sI m x0 48 ((8 * (gI m x0 4)) + (gI m b_31 ((gI m x0 4).toNatClampNeg)))) x0 48).toNatClampNeg) (gI (sI m x0 48 ((8 * (gI m x0 4)) + (gI m b_31 ((gI m x0 4).toNatClampNeg)))) x0 42)) x0 48).toNatClampNeg) (gI (sI (sI m x0 48 ((8 * (gI m x0 4)) + (gI m b_31 ((gI m x0 4).toNatClampNeg)))) b_32 ((gI (sI m x0 48 ((8 * (gI m x0 4)) + (gI m b_31 ((gI m x0 4).toNatClampNeg)))) x0 48).toNatClampNeg) (gI (sI m x0 48 ((8 * (gI m x0 4)) + (gI m b_31 ((gI m x0 4).toNatClampNeg)))) x0 42)) x0 43)) b_34 ((gI (sI (sI (sI m x0 48 ((8 * (gI m x0 4)) + (gI m b_31 ((gI m x0 4).toNatClampNeg)))) b_32 ((gI (sI m x0 48 ((8 * (gI m x0 4)) + (gI m b_31 ((gI m x0 4).toNatClampNeg)))) x0 48).toNatClampNeg) (gI (sI m x0 48 ((8 * (gI m x0 4)) + (gI m b_31 ((gI m x0 4).toNatClampNeg)))) x0 42)) b_33 ((gI (sI (sI m x0 48 ((8 * (gI m x0 4)) + (gI m b_31 ((gI m x0 4).toNatClampNeg)))) b_32 ((gI (sI m x0 48 ((8 * (gI m x0 4)) + (gI m b_31 ((gI m x0 4).toNatClampNeg)))) x0 48).toNatClampNeg) (gI (sI m x0 48 ((8 * (gI m x0 4)) + (gI m b_31 ((gI m x0 4).toNatClampNeg)))) x0 42)) x0 48).toNatClampNeg) (gI (sI (sI m x0 48 ((8 * (gI m x0 4)) + (gI m b_31 ((gI m x0 4).toNatClampNeg)))) b_32 ((gI (sI m x0 48 ((8 * (gI m x0 4)) + (gI m b_31 ((gI m x0 4).toNatClampNeg)))) x0 48).toNatClampNeg) (gI (sI m x0 48 ((8 * (gI m x0 4)) + (gI m b_31 ((gI m x0 4).toNatClampNeg)))) x0 42)) x0 43)) x0 48).toNatClampNeg) 0) b_35 ((gI (sI (sI (sI (sI m x0 48 ((8 * (gI m x0 4)) + (gI m b_31 ((gI m x0 4).toNatClampNeg)))) b_32 ((gI (sI m x0 48 ((8 * (gI m x0 4)) + (gI m b_31 ((gI m x0 4).toNatClampNeg)))) x0 48).toNatClampNeg) (gI (sI m x0 48 ((8 * (gI m x0 4)) + (gI m b_31 ((gI m x0 4).toNatClampNeg)))) x0 42)) b_33 ((gI (sI (sI m x0 48 ((8 * (gI m x0 4)) + (gI m b_31 ((gI m x0 4).toNatClampNeg)))) b_32 ((gI (sI m x0 48 ((8 * (gI m x0 4)) + (gI m b_31 ((gI m x0 4).toNatClampNeg)))) x0 48).toNatClampNeg) (gI (sI m x0 48 ((8 * (gI m x0 4)) + (gI m b_31 ((gI m x0 4).toNatClampNeg)))) x0 42)) x0 48).toNatClampNeg) (gI (sI (sI m x0 48 ((8 * (gI m x0 4)) + (gI m b_31 ((gI m x0 4).toNatClampNeg)))) b_32 ((gI (sI m x0 48 ((8 * (gI m x0 4)) + (gI m b_31 ((gI m x0 4).toNatClampNeg)))) x0 48).toNatClampNeg) (gI (sI m x0 48 ((8 * (gI m x0 4)) + (gI m b_31 ((gI m x0 4).toNatClampNeg)))) x0 42)) x0 43)) b_34 ((gI (sI (sI (sI m x0 48 ((8 * (gI m x0 4)) + (gI m b_31 ((gI m x0 4).toNatClampNeg)))) b_32 ((gI (sI m x0 48 ((8 * (gI m x0 4)) + (gI m b_31 ((gI m x0 4).toNatClampNeg)))) x0 48).toNatClampNeg) (gI (sI m x0 48 ((8 * (gI m x0 4)) + (gI m b_31 ((gI m x0 4).toNatClampNeg)))) x0 42)) b_33 ((gI (sI (sI m x0 48 ((8 * (gI m x0 4)) + (gI m b_31 ((gI m x0 4).toNatClampNeg)))) b_32 ((gI (sI m x0 48 ((8 * (gI m x0 4)) + (gI m b_31 ((gI m x0 4).toNatClampNeg)))) x0 48).toNatClampNeg) (gI (sI m x0 48 ((8 * (gI m x0 4)) + (gI m b_31 ((gI m x0 4).toNatClampNeg)))) x0 42)) x0 48).toNatClampNeg) (gI (sI (sI m x0 48 ((8 * (gI m x0 4)) + (gI m b_31 ((gI m x0 4).toNatClampNeg)))) b_32 ((gI (sI m x0 48 ((8 * (gI m x0 4)) + (gI m b_31 ((gI m x0 4).toNatClampNeg)))) x0 48).toNatClampNeg) (gI (sI m x0 48 ((8 * (gI m x0 4)) + (gI m b_31 ((gI m x0 4).toNatClampNeg)))) x0 42)) x0 43)) x0 48).toNatClampNeg) 0) x0 48).toNatClampNeg) 0) x0 48).toNatClampNeg) 0) b_37 ((gI (sI (sI (sI (sI (sI (sI m x0 48 ((8 * (gI m x0 4)) + (gI m b_31 ((gI m x0 4).toNatClampNeg)))) b_32 ((gI (sI m x0 48 ((8 * (gI m x0 4)) + (gI m b_31 ((gI m x0 4).toNatClampNeg)))) x0 48).toNatClampNeg) (gI (sI m x0 48 ((8 * (gI m x0 4)) + (gI m b_31 ((gI m x0 4).toNatClampNeg)))) x0 42)) b_33 ((gI (sI (sI m x0 48 ((8 * (gI m x0 4)) + (gI m b_31 ((gI m x0 4).toNatClampNeg)))) b_32 ((gI (sI m x0 48 ((8 * (gI m x0 4)) + (gI m b_31 ((gI m x0 4).toNatClampNeg)))) x0 48).toNatClampNeg) (gI (sI m x0 48 ((8 * (gI m x0 4)) + (gI m b_31 ((gI m x0 4).toNatClampNeg)))) x0 42)) x0 48).toNatClampNeg) (gI (sI (sI m x0 48 ((8 * (gI m x0 4)) + (gI m b_31 ((gI m x0 4).toNatClampNeg)))) b_32 ((gI (sI m x0 48 ((8 * (gI m x0 4)) + (gI m b_31 ((gI m x0 4).toNatClampNeg)))) x0 48).toNatClampNeg) (gI (sI m x0 48 ((8 * (gI m x0 4)) + (gI m b_31 ((gI m x0 4).toNatClampNeg)))) x0 42)) x0 43)) b_34 ((gI (sI (sI (sI m x0 48 ((8 * (gI m x0 4)) + (gI m b_31 ((gI m x0 4).toNatClampNeg)))) b_32 ((gI (sI m x0 48 ((8 * (gI m x0 4)) + (gI m b_31 ((gI m x0 4).toNatClampNeg)))) x0 48).toNatClampNeg) (gI (sI m x0 48 ((8 * (gI m x0 4)) + (gI m b_31 ((gI m x0 4).toNatClampNeg)))) x0 42)) b_33 ((gI (sI (sI m x0 48 ((8 * (gI m x0 4)) + (gI m b_31 ((gI m x0 4).toNatClampNeg)))) b_32 ((gI (sI m x0 48 ((8 * (gI m x0 4)) + (gI m b_31 ((gI m x0 4).toNatClampNeg)))) x0 48).toNatClampNeg) (gI (sI m x0 48 ((8 * (gI m x0 4)) + (gI m b_31 ((gI m x0 4).toNatClampNeg)))) x0 42)) x0 48).toNatClampNeg) (gI (sI (sI m x0 48 ((8 * (gI m x0 4)) + (gI m b_31 ((gI m x0 4).toNatClampNeg)))) b_32 ((gI (sI m x0 48 ((8 * (gI m x0 4)) + (gI m b_31 ((gI m x0 4).toNatClampNeg)))) x0 48).toNatClampNeg) (gI (sI m x0 48 ((8 * (gI m x0 4)) + (gI m b_31 ((gI m x0 4).toNatClampNeg)))) x0 42)) x0 43)) x0 48).toNatClampNeg) 0) b_35 ((gI (sI (sI (sI (sI m x0 48 ((8 * (gI m x0 4)) + (gI m b_31 ((gI m x0 4).toNatClampNeg)))) b_32 ((gI (sI m x0 48 ((8 * (gI m x0 4)) + (gI m b_31 ((gI m x0 4).toNatClampNeg)))) x0 48).toNatClampNeg) (gI (sI m x0 48 ((8 * (gI m x0 4)) + (gI m b_31 ((gI m x0 4).toNatClampNeg)))) x0 42)) b_33 ((gI (sI (sI m x0 48 ((8 * (gI m x0 4)) + (gI m b_31 ((gI m x0 4).toNatClampNeg)))) b_32 ((gI (sI m x0 48 ((8 * (gI m x0 4)) + (gI m b_31 ((gI m x0 4).toNatClampNeg)))) x0 48).toNatClampNeg) (gI (sI m x0 48 ((8 * (gI m x0 4)) + (gI m b_31 ((gI m x0 4).toNatClampNeg)))) x0 42)) x0 48).toNatClampNeg) (gI (sI (sI m x0 48 ((8 * (gI m x0 4)) + (gI m b_31 ((gI m x0 4).toNatClampNeg)))) b_32 ((gI (sI m x0 48 ((8 * (gI m x0 4)) + (gI m b_31 ((gI m x0 4).toNatClampNeg)))) x0 48).toNatClampNeg) (gI (sI m x0 48 ((8 * (gI m x0 4)) + (gI m b_31 ((gI m x0 4).toNatClampNeg)))) x0 42)) x0 43)) b_34 ((gI (sI (sI (sI m x0 48 ((8 * (gI m x0 4)) + (gI m b_31 ((gI m x0 4).toNatClampNeg)))) b_32 ((gI (sI m x0 48 ((8 * (gI m x0 4)) + (gI m b_31 ((gI m x0 4).toNatClampNeg)))) x0 48).toNatClampNeg) (gI (sI m x0 48 ((8 * (gI m x0 4)) + (gI m b_31 ((gI m x0 4).toNatClampNeg)))) x0 42)) b_33 ((gI (sI (sI m x0 48 ((8 * (gI m x0 4)) + (gI m b_31 ((gI m x0 4).toNatClampNeg)))) b_32 ((gI (sI m x0 48 ((8 * (gI m x0 4)) + (gI m b_31 ((gI m x0 4).toNatClampNeg)))) x0 48).toNatClampNeg) (gI (sI m x0 48 ((8 * (gI m x0 4)) + (gI m b_31 ((gI m x0 4).toNatClampNeg)))) x0 42)) x0 48).toNatClampNeg) (gI (sI (sI m x0 48 ((8 * (gI m x0 4)) + (gI m b_31 ((gI m x0 4).toNatClampNeg)))) b_32 ((gI (sI m x0 48 ((8 * (gI m x0 4)) + (gI m b_31 ((gI m x0 4).toNatClampNeg)))) x0 48).toNatClampNeg) (gI (sI m x0 48 ((8 * (gI m x0 4)) + (gI m b_31 ((gI m x0 4).toNatClampNeg)))) x0 42)) x0 43)) x0 48).toNatClampNeg) 0) x0 48).toNatClampNeg) 0) b_36 ((gI (sI (sI (sI (sI (sI m x0 48 ((8 * (gI m x0 4)) + (gI m b_31 ((gI m x0 4).toNatClampNeg)))) b_32 ((gI (sI m x0 48 ((8 * (gI m x0 4)) + (gI m b_31 ((gI m x0 4).toNatClampNeg)))) x0 48).toNatClampNeg) (gI (sI m x0 48 ((8 * (gI m x0 4)) + (gI m b_31 ((gI m x0 4).toNatClampNeg)))) x0 42)) b_33 ((gI (sI (sI m x0 48 ((8 * (gI m x0 4)) + (gI m b_31 ((gI m x0 4).toNatClampNeg)))) b_32 ((gI (sI m x0 48 ((8 * (gI m x0 4)) + (gI m b_31 ((gI m x0 4).toNatClampNeg)))) x0 48).toNatClampNeg) (gI (sI m x0 48 ((8 * (gI m x0 4)) + (gI m b_31 ((gI m x0 4).toNatClampNeg)))) x0 42)) x0 48).toNatClampNeg) (gI (sI (sI m x0 48 ((8 * (gI m x0 4)) + (gI m b_31 ((gI m x0 4).toNatClampNeg)))) b_32 ((gI (sI m x0 48 ((8 * (gI m x0 4)) + (gI m b_31 ((gI m x0 4).toNatClampNeg)))) x0 48).toNatClampNeg) (gI (sI m x0 48 ((8 * (gI m x0 4)) + (gI m b_31 ((gI m x0 4).toNatClampNeg)))) x0 42)) x0 43)) b_34 ((gI (sI (sI (sI m x0 48 ((8 * (gI m x0 4)) + (gI m b_31 ((gI m x0 4).toNatClampNeg)))) b_32 ((gI (sI m x0 48 ((8 * (gI m x0 4)) + (gI m b_31 ((gI m x0 4).toNatClampNeg)))) x0 48).toNatClampNeg) (gI (sI m x0 48 ((8 * (gI m x0 4)) + (gI m b_31 ((gI m x0 4).toNatClampNeg)))) x0 42)) b_33 ((gI (sI (sI m x0 48 ((8 * (gI m x0 4)) + (gI m b_31 ((gI m x0 4).toNatClampNeg)))) b_32 ((gI (sI m x0 48 ((8 * (gI m x0 4)) + (gI m b_31 ((gI m x0 4).toNatClampNeg)))) x0 48).toNatClampNeg) (gI (sI m x0 48 ((8 * (gI m x0 4)) + (gI m b_31 ((gI m x0 4).toNatClampNeg)))) x0 42)) x0 48).toNatClampNeg) (gI (sI (sI m x0 48 ((8 * (gI m x0 4)) + (gI m b_31 ((gI m x0 4).toNatClampNeg)))) b_32 ((gI (sI m x0 48 ((8 * (gI m x0 4)) + (gI m b_31 ((gI m x0 4).toNatClampNeg)))) x0 48).toNatClampNeg) (gI (sI m x0 48 ((8 * (gI m x0 4)) + (gI m b_31 ((gI m x0 4).toNatClampNeg)))) x0 42)) x0 43)) x0 48).toNatClampNeg) 0) b_35 ((gI (sI (sI (sI (sI m x0 48 ((8 * (gI m x0 4)) + (gI m b_31 ((gI m x0 4).toNatClampNeg)))) b_32 ((gI (sI m x0 48 ((8 * (gI m x0 4)) + (gI m b_31 ((gI m x0 4).toNatClampNeg)))) x0 48).toNatClampNeg) (gI (sI m x0 48 ((8 * (gI m x0 4)) + (gI m b_31 ((gI m x0 4).toNatClampNeg)))) x0 42)) b_33 ((gI (sI (sI m x0 48 ((8 * (gI m x0 4)) + (gI m b_31 ((gI m x0 4).toNatClampNeg)))) b_32 ((gI (sI m x0 48 ((8 * (gI m x0 4)) + (gI m b_31 ((gI m x0 4).toNatClampNeg)))) x0 48).toNatClampNeg) (gI (sI m x0 48 ((8 * (gI m x0 4)) + (gI m b_31 ((gI m x0 4).toNatClampNeg)))) x0 42)) x0 48).toNatClampNeg) (gI (sI (sI m x0 48 ((8 * (gI m x0 4)) + (gI m b_31 ((gI m x0 4).toNatClampNeg)))) b_32 ((gI (sI m x0 48 ((8 * (gI m x0 4)) + (gI m b_31 ((gI m x0 4).toNatClampNeg)))) x0 48).toNatClampNeg) (gI (sI m x0 48 ((8 * (gI m x0 4)) + (gI m b_31 ((gI m x0 4).toNatClampNeg)))) x0 42)) x0 43)) b_34 ((gI (sI (sI (sI m x0 48 ((8 * (gI m x0 4)) + (gI m b_31 ((gI m x0 4).toNatClampNeg)))) b_32 ((gI (sI m x0 48 ((8 * (gI m x0 4)) + (gI m b_31 ((gI m x0 4).toNatClampNeg)))) x0 48).toNatClampNeg) (gI (sI m x0 48 ((8 * (gI m x0 4)) + (gI m b_31 ((gI m x0 4).toNatClampNeg)))) x0 42)) b_33 ((gI (sI (sI m x0 48 ((8 * (gI m x0 4)) + (gI m b_31 ((gI m x0 4).toNatClampNeg)))) b_32 ((gI (sI m x0 48 ((8 * (gI m x0 4)) + (gI m b_31 ((gI m x0 4).toNatClampNeg)))) x0 48).toNatClampNeg) (gI (sI m x0 48 ((8 * (gI m x0 4)) + (gI m b_31 ((gI m x0 4).toNatClampNeg)))) x0 42)) x0 48).toNatClampNeg) (gI (sI (sI m x0 48 ((8 * (gI m x0 4)) + (gI m b_31 ((gI m x0 4).toNatClampNeg)))) b_32 ((gI (sI m x0 48 ((8 * (gI m x0 4)) + (gI m b_31 ((gI m x0 4).toNatClampNeg)))) x0 48).toNatClampNeg) (gI (sI m x0 48 ((8 * (gI m x0 4)) + (gI m b_31 ((gI m x0 4).toNatClampNeg)))) x0 42)) x0 43)) x0 48).toNatClampNeg) 0) x0 48).toNatClampNeg) 0) x0 48).toNatClampNeg) 0) x0 48).toNatClampNeg) (-1)) b_38 ((gI (sI (sI (sI (sI (sI (sI (sI m x0 48 ((8 * (gI m x0 4)) + (gI m b_31 ((gI m x0 4).toNatClampNeg)))) b_32 ((gI (sI m x0 48 ((8 * (gI m x0 4)) + (gI m b_31 ((gI m x0 4).toNatClampNeg)))) x0 48).toNatClampNeg) (gI (sI m x0 48 ((8 * (gI m x0 4)) + (gI m b_31 ((gI m x0 4).toNatClampNeg)))) x0 42)) b_33 ((gI (sI (sI m x0 48 ((8 * (gI m x0 4)) + (gI m b_31 ((gI m x0 4).toNatClampNeg)))) b_32 ((gI (sI m x0 48 ((8 * (gI m x0 4)) + (gI m b_31 ((gI m x0 4).toNatClampNeg)))) x0 48).toNatClampNeg) (gI (sI m x0 48 ((8 * (gI m x0 4)) + (gI m b_31 ((gI m x0 4).toNatClampNeg)))) x0 42)) x0 48).toNatClampNeg) (gI (sI (sI m x0 48 ((8 * (gI m x0 4)) + (gI m b_31 ((gI m x0 4).toNatClampNeg)))) b_32 ((gI (sI m x0 48 ((8 * (gI m x0 4)) + (gI m b_31 ((gI m x0 4).toNatClampNeg)))) x0 48).toNatClampNeg) (gI (sI m x0 48 ((8 * (gI m x0 4)) + (gI m b_31 ((gI m x0 4).toNatClampNeg)))) x0 42)) x0 43)) b_34 ((gI (sI (sI (sI m x0 48 ((8 * (gI m x0 4)) + (gI m b_31 ((gI m x0 4).toNatClampNeg)))) b_32 ((gI (sI m x0 48 ((8 * (gI m x0 4)) + (gI m b_31 ((gI m x0 4).toNatClampNeg)))) x0 48).toNatClampNeg) (gI (sI m x0 48 ((8 * (gI m x0 4)) + (gI m b_31 ((gI m x0 4).toNatClampNeg)))) x0 42)) b_33 ((gI (sI (sI m x0 48 ((8 * (gI m x0 4)) + (gI m b_31 ((gI m x0 4).toNatClampNeg)))) b_32 ((gI (sI m x0 48 ((8 * (gI m x0 4)) + (gI m b_31 ((gI m x0 4).toNatClampNeg)))) x0 48).toNatClampNeg) (gI (sI m x0 48 ((8 * (gI m x0 4)) + (gI m b_31 ((gI m x0 4).toNatClampNeg)))) x0 42)) x0 48).toNatClampNeg) (gI (sI (sI m x0 48 ((8 * (gI m x0 4)) + (gI m b_31 ((gI m x0 4).toNatClampNeg)))) b_32 ((gI (sI m x0 48 ((8 * (gI m x0 4)) + (gI m b_31 ((gI m x0 4).toNatClampNeg)))) x0 48).toNatClampNeg) (gI (sI m x0 48 ((8 * (gI m x0 4)) + (gI m b_31 ((gI m x0 4).toNatClampNeg)))) x0 42)) x0 43)) x0 48).toNatClampNeg) 0) b_35 ((gI (sI (sI (sI (sI m x0 48 ((8 * (gI m x0 4)) + (gI m b_31 ((gI m x0 4).toNatClampNeg)))) b_32 ((gI (sI m x0 48 ((8 * (gI m x0 4)) + (gI m b_31 ((gI m x0 4).toNatClampNeg)))) x0 48).toNatClampNeg) (gI (sI m x0 48 ((8 * (gI m x0 4)) + (gI m b_31 ((gI m x0 4).toNatClampNeg)))) x0 42)) b_33 ((gI (sI (sI m x0 48 ((8 * (gI m x0 4)) + (gI m b_31 ((gI m x0 4).toNatClampNeg)))) b_32 ((gI (sI m x0 48 ((8 * (gI m x0 4)) + (gI m b_31 ((gI m x0 4).toNatClampNeg)))) x0 48).toNatClampNeg) (gI (sI m x0 48 ((8 * (gI m x0 4)) + (gI m b_31 ((gI m x0 4).toNatClampNeg)))) x0 42)) x0 48).toNatClampNeg) (gI (sI (sI m x0 48 ((8 * (gI m x0 4)) + (gI m b_31 ((gI m x0 4).toNatClampNeg)))) b_32 ((gI (sI m x0 48 ((8 * (gI m x0 4)) + (gI m b_31 ((gI m x0 4).toNatClampNeg)))) x0 48).toNatClampNeg) (gI (sI m x0 48 ((8 * (gI m x0 4)) + (gI m b_31 ((gI m x0 4).toNatClampNeg)))) x0 42)) x0 43)) b_34 ((gI (sI (sI (sI m x0 48 ((8 * (gI m x0 4)) + (gI m b_31 ((gI m x0 4).toNatClampNeg)))) b_32 ((gI (sI m x0 48 ((8 * (gI m x0 4)) + (gI m b_31 ((gI m x0 4).toNatClampNeg)))) x0 48).toNatClampNeg) (gI (sI m x0 48 ((8 * (gI m x0 4)) + (gI m b_31 ((gI m x0 4).toNatClampNeg)))) x0 42)) b_33 ((gI (sI (sI m x0 48 ((8 * (gI m x0 4)) + (gI m b_31 ((gI m x0 4).toNatClampNeg)))) b_32 ((gI (sI m x0 48 ((8 * (gI m x0 4)) + (gI m b_31 ((gI m x0 4).toNatClampNeg)))) x0 48).toNatClampNeg) (gI (sI m x0 48 ((8 * (gI m x0 4)) + (gI m b_31 ((gI m x0 4).toNatClampNeg)))) x0 42)) x0 48).toNatClampNeg) (gI (sI (sI m x0 48 ((8 * (gI m x0 4)) + (gI m b_31 ((gI m x0 4).toNatClampNeg)))) b_32 ((gI (sI m x0 48 ((8 * (gI m x0 4)) + (gI m b_31 ((gI m x0 4).toNatClampNeg)))) x0 48).toNatClampNeg) (gI (sI m x0 48 ((8 * (gI m x0 4)) + (gI m b_31 ((gI m x0 4).toNatClampNeg)))) x0 42)) x0 43)) x0 48).toNatClampNeg) 0) x0 48).toNatClampNeg) 0) b_36 ((gI (sI (sI (sI (sI (sI m x0 48 ((8 * (gI m x0 4)) + (gI m b_31 ((gI m x0 4).toNatClampNeg)))) b_32 ((gI (sI m x0 48 ((8 * (gI m x0 4)) + (gI m b_31 ((gI m x0 4).toNatClampNeg)))) x0 48).toNatClampNeg) (gI (sI m x0 48 ((8 * (gI m x0 4)) + (gI m b_31 ((gI m x0 4).toNatClampNeg)))) x0 42)) b_33 ((gI (sI (sI m x0 48 ((8 * (gI m x0 4)) + (gI m b_31 ((gI m x0 4).toNatClampNeg)))) b_32 ((gI (sI m x0 48 ((8 * (gI m x0 4)) + (gI m b_31 ((gI m x0 4).toNatClampNeg)))) x0 48).toNatClampNeg) (gI (sI m x0 48 ((8 * (gI m x0 4)) + (gI m b_31 ((gI m x0 4).toNatClampNeg)))) x0 42)) x0 48).toNatClampNeg) (gI (sI (sI m x0 48 ((8 * (gI m x0 4)) + (gI m b_31 ((gI m x0 4).toNatClampNeg)))) b_32 ((gI (sI m x0 48 ((8 * (gI m x0 4)) + (gI m b_31 ((gI m x0 4).toNatClampNeg)))) x0 48).toNatClampNeg) (gI (sI m x0 48 ((8 * (gI m x0 4)) + (gI m b_31 ((gI m x0 4).toNatClampNeg)))) x0 42)) x0 43)) b_34 ((gI (sI (sI (sI m x0 48 ((8 * (gI m x0 4)) + (gI m b_31 ((gI m x0 4).toNatClampNeg)))) b_32 ((gI (sI m x0 48 ((8 * (gI m x0 4)) + (gI m b_31 ((gI m x0 4).toNatClampNeg)))) x0 48).toNatClampNeg) (gI (sI m x0 48 ((8 * (gI m x0 4)) + (gI m b_31 ((gI m x0 4).toNatClampNeg)))) x0 42)) b_33 ((gI (sI (sI m x0 48 ((8 * (gI m x0 4)) + (gI m b_31 ((gI m x0 4).toNatClampNeg)))) b_32 ((gI (sI m x0 48 ((8 * (gI m x0 4)) + (gI m b_31 ((gI m x0 4).toNatClampNeg)))) x0 48).toNatClampNeg) (gI (sI m x0 48 ((8 * (gI m x0 4)) + (gI m b_31 ((gI m x0 4).toNatClampNeg)))) x0 42)) x0 48).toNatClampNeg) (gI (sI (sI m x0 48 ((8 * (gI m x0 4)) + (gI m b_31 ((gI m x0 4).toNatClampNeg)))) b_32 ((gI (sI m x0 48 ((8 * (gI m x0 4)) + (gI m b_31 ((gI m x0 4).toNatClampNeg)))) x0 48).toNatClampNeg) (gI (sI m x0 48 ((8 * (gI m x0 4)) + (gI m b_31 ((gI m x0 4).toNatClampNeg)))) x0 42)) x0 43)) x0 48).toNatClampNeg) 0) b_35 ((gI (sI (sI (sI (sI m x0 48 ((8 * (gI m x0 4)) + (gI m b_31 ((gI m x0 4).toNatClampNeg)))) b_32 ((gI (sI m x0 48 ((8 * (gI m x0 4)) + (gI m b_31 ((gI m x0 4).toNatClampNeg)))) x0 48).toNatClampNeg) (gI (sI m x0 48 ((8 * (gI m x0 4)) + (gI m b_31 ((gI m x0 4).toNatClampNeg)))) x0 42)) b_33 ((gI (sI (sI m x0 48 ((8 * (gI m x0 4)) + (gI m b_31 ((gI m x0 4).toNatClampNeg)))) b_32 ((gI (sI m x0 48 ((8 * (gI m x0 4)) + (gI m b_31 ((gI m x0 4).toNatClampNeg)))) x0 48).toNatClampNeg) (gI (sI m x0 48 ((8 * (gI m x0 4)) + (gI m b_31 ((gI m x0 4).toNatClampNeg)))) x0 42)) x0 48).toNatClampNeg) (gI (sI (sI m x0 48 ((8 * (gI m x0 4)) + (gI m b_31 ((gI m x0 4).toNatClampNeg)))) b_32 ((gI (sI m x0 48 ((8 * (gI m x0 4)) + (gI m b_31 ((gI m x0 4).toNatClampNeg)))) x0 48).toNatClampNeg) (gI (sI m x0 48 ((8 * (gI m x0 4)) + (gI m b_31 ((gI m x0 4).toNatClampNeg)))) x0 42)) x0 43)) b_34 ((gI (sI (sI (sI m x0 48 ((8 * (gI m x0 4)) + (gI m b_31 ((gI m x0 4).toNatClampNeg)))) b_32 ((gI (sI m x0 48 ((8 * (gI m x0 4)) + (gI m b_31 ((gI m x0 4).toNatClampNeg)))) x0 48).toNatClampNeg) (gI (sI m x0 48 ((8 * (gI m x0 4)) + (gI m b_31 ((gI m x0 4).toNatClampNeg)))) x0 42)) b_33 ((gI (sI (sI m x0 48 ((8 * (gI m x0 4)) + (gI m b_31 ((gI m x0 4).toNatClampNeg)))) b_32 ((gI (sI m x0 48 ((8 * (gI m x0 4)) + (gI m b_31 ((gI m x0 4).toNatClampNeg)))) x0 48).toNatClampNeg) (gI (sI m x0 48 ((8 * (gI m x0 4)) + (gI m b_31 ((gI m x0 4).toNatClampNeg)))) x0 42)) x0 48).toNatClampNeg) (gI (sI (sI m x0 48 ((8 * (gI m x0 4)) + (gI m b_31 ((gI m x0 4).toNatClampNeg)))) b_32 ((gI (sI m x0 48 ((8 * (gI m x0 4)) + (gI m b_31 ((gI m x0 4).toNatClampNeg)))) x0 48).toNatClampNeg) (gI (sI m x0 48 ((8 * (gI m x0 4)) + (gI m b_31 ((gI m x0 4).toNatClampNeg)))) x0 42)) x0 43)) x0 48).toNatClampNeg) 0) x0 48).toNatClampNeg) 0) x0 48).toNatClampNeg) 0) b_37 ((gI (sI (sI (sI (sI (sI (sI m x0 48 ((8 * (gI m x0 4)) + (gI m b_31 ((gI m x0 4).toNatClampNeg)))) b_32 ((gI (sI m x0 48 ((8 * (gI m x0 4)) + (gI m b_31 ((gI m x0 4).toNatClampNeg)))) x0 48).toNatClampNeg) (gI (sI m x0 48 ((8 * (gI m x0 4)) + (gI m b_31 ((gI m x0 4).toNatClampNeg)))) x0 42)) b_33 ((gI (sI (sI m x0 48 ((8 * (gI m x0 4)) + (gI m b_31 ((gI m x0 4).toNatClampNeg)))) b_32 ((gI (sI m x0 48 ((8 * (gI m x0 4)) + (gI m b_31 ((gI m x0 4).toNatClampNeg)))) x0 48).toNatClampNeg) (gI (sI m x0 48 ((8 * (gI m x0 4)) + (gI m b_31 ((gI m x0 4).toNatClampNeg)))) x0 42)) x0 48).toNatClampNeg) (gI (sI (sI m x0 48 ((8 * (gI m x0 4)) + (gI m b_31 ((gI m x0 4).toNatClampNeg)))) b_32 ((gI (sI m x0 48 ((8 * (gI m x0 4)) + (gI m b_31 ((gI m x0 4).toNatClampNeg)))) x0 48).toNatClampNeg) (gI (sI m x0 48 ((8 * (gI m x0 4)) + (gI m b_31 ((gI m x0 4).toNatClampNeg)))) x0 42)) x0 43)) b_34 ((gI (sI (sI (sI m x0 48 ((8 * (gI m x0 4)) + (gI m b_31 ((gI m x0 4).toNatClampNeg)))) b_32 ((gI (sI m x0 48 ((8 * (gI m x0 4)) + (gI m b_31 ((gI m x0 4).toNatClampNeg)))) x0 48).toNatClampNeg) (gI (sI m x0 48 ((8 * (gI m x0 4)) + (gI m b_31 ((gI m x0 4).toNatClampNeg)))) x0 42)) b_33 ((gI (sI (sI m x0 48 ((8 * (gI m x0 4)) + (gI m b_31 ((gI m x0 4).toNatClampNeg)))) b_32 ((gI (sI m x0 48 ((8 * (gI m x0 4)) + (gI m b_31 ((gI m x0 4).toNatClampNeg)))) x0 48).toNatClampNeg) (gI (sI m x0 48 ((8 * (gI m x0 4)) + (gI m b_31 ((gI m x0 4).toNatClampNeg)))) x0 42)) x0 48).toNatClampNeg) (gI (sI (sI m x0 48 ((8 * (gI m x0 4)) + (gI m b_31 ((gI m x0 4).toNatClampNeg)))) b_32 ((gI (sI m x0 48 ((8 * (gI m x0 4)) + (gI m b_31 ((gI m x0 4).toNatClampNeg)))) x0 48).toNatClampNeg) (gI (sI m x0 48 ((8 * (gI m x0 4)) + (gI m b_31 ((gI m x0 4).toNatClampNeg)))) x0 42)) x0 43)) x0 48).toNatClampNeg) 0) b_35 ((gI (sI (sI (sI (sI m x0 48 ((8 * (gI m x0 4)) + (gI m b_31 ((gI m x0 4).toNatClampNeg)))) b_32 ((gI (sI m x0 48 ((8 * (gI m x0 4)) + (gI m b_31 ((gI m x0 4).toNatClampNeg)))) x0 48).toNatClampNeg) (gI (sI m x0 48 ((8 * (gI m x0 4)) + (gI m b_31 ((gI m x0 4).toNatClampNeg)))) x0 42)) b_33 ((gI (sI (sI m x0 48 ((8 * (gI m x0 4)) + (gI m b_31 ((gI m x0 4).toNatClampNeg)))) b_32 ((gI (sI m x0 48 ((8 * (gI m x0 4)) + (gI m b_31 ((gI m x0 4).toNatClampNeg)))) x0 48).toNatClampNeg) (gI (sI m x0 48 ((8 * (gI m x0 4)) + (gI m b_31 ((gI m x0 4).toNatClampNeg)))) x0 42)) x0 48).toNatClampNeg) (gI (sI (sI m x0 48 ((8 * (gI m x0 4)) + (gI m b_31 ((gI m x0 4).toNatClampNeg)))) b_32 ((gI (sI m x0 48 ((8 * (gI m x0 4)) + (gI m b_31 ((gI m x0 4).toNatClampNeg)))) x0 48).toNatClampNeg) (gI (sI m x0 48 ((8 * (gI m x0 4)) + (gI m b_31 ((gI m x0 4).toNatClampNeg)))) x0 42)) x0 43)) b_34 ((gI (sI (sI (sI m x0 48 ((8 * (gI m x0 4)) + (gI m b_31 ((gI m x0 4).toNatClampNeg)))) b_32 ((gI (sI m x0 48 ((8 * (gI m x0 4)) + (gI m b_31 ((gI m x0 4).toNatClampNeg)))) x0 48).toNatClampNeg) (gI (sI m x0 48 ((8 * (gI m x0 4)) + (gI m b_31 ((gI m x0 4).toNatClampNeg)))) x0 42)) b_33 ((gI (sI (sI m x0 48 ((8 * (gI m x0 4)) + (gI m b_31 ((gI m x0 4).toNatClampNeg)))) b_32 ((gI (sI m x0 48 ((8 * (gI m x0 4)) + (gI m b_31 ((gI m x0 4).toNatClampNeg)))) x0 48).toNatClampNeg) (gI (sI m x0 48 ((8 * (gI m x0 4)) + (gI m b_31 ((gI m x0 4).toNatClampNeg)))) x0 42)) x0 48).toNatClampNeg) (gI (sI (sI m x0 48 ((8 * (gI m x0 4)) + (gI m b_31 ((gI m x0 4).toNatClampNeg)))) b_32 ((gI (sI m x0 48 ((8 * (gI m x0 4)) + (gI m b_31 ((gI m x0 4).toNatClampNeg)))) x0 48).toNatClampNeg) (gI (sI m x0 48 ((8 * (gI m x0 4)) + (gI m b_31 ((gI m x0 4).toNatClampNeg)))) x0 42)) x0 43)) x0 48).toNatClampNeg) 0) x0 48).toNatClampNeg) 0) b_36 ((gI (sI (sI (sI (sI (sI m x0 48 ((8 * (gI m x0 4)) + (gI m b_31 ((gI m x0 4).toNatClampNeg)))) b_32 ((gI (sI m x0 48 ((8 * (gI m x0 4)) + (gI m b_31 ((gI m x0 4).toNatClampNeg)))) x0 48).toNatClampNeg) (gI (sI m x0 48 ((8 * (gI m x0 4)) + (gI m b_31 ((gI m x0 4).toNatClampNeg)))) x0 42)) b_33 ((gI (sI (sI m x0 48 ((8 * (gI m x0 4)) + (gI m b_31 ((gI m x0 4).toNatClampNeg)))) b_32 ((gI (sI m x0 48 ((8 * (gI m x0 4)) + (gI m b_31 ((gI m x0 4).toNatClampNeg)))) x0 48).toNatClampNeg) (gI (sI m x0 48 ((8 * (gI m x0 4)) + (gI m b_31 ((gI m x0 4).toNatClampNeg)))) x0 42)) x0 48).toNatClampNeg) (gI (sI (sI m x0 48 ((8 * (gI m x0 4)) + (gI m b_31 ((gI m x0 4).toNatClampNeg)))) b_32 ((gI (sI m x0 48 ((8 * (gI m x0 4)) + (gI m b_31 ((gI m x0 4).toNatClampNeg)))) x0 48).toNatClampNeg) (gI (sI m x0 48 ((8 * (gI m x0 4)) + (gI m b_31 ((gI m x0 4).toNatClampNeg)))) x0 42)) x0 43)) b_34 ((gI (sI (sI (sI m x0 48 ((8 * (gI m x0 4)) + (gI m b_31 ((gI m x0 4).toNatClampNeg)))) b_32 ((gI (sI m x0 48 ((8 * (gI m x0 4)) + (gI m b_31 ((gI m x0 4).toNatClampNeg)))) x0 48).toNatClampNeg) (gI (sI m x0 48 ((8 * (gI m x0 4)) + (gI m b_31 ((gI m x0 4).toNatClampNeg)))) x0 42)) b_33 ((gI (sI (sI m x0 48 ((8 * (gI m x0 4)) + (gI m b_31 ((gI m x0 4).toNatClampNeg)))) b_32 ((gI (sI m x0 48 ((8 * (gI m x0 4)) + (gI m b_31 ((gI m x0 4).toNatClampNeg)))) x0 48).toNatClampNeg) (gI (sI m x0 48 ((8 * (gI m x0 4)) + (gI m b_31 ((gI m x0 4).toNatClampNeg)))) x0 42)) x0 48).toNatClampNeg) (gI (sI (sI m x0 48 ((8 * (gI m x0 4)) + (gI m b_31 ((gI m x0 4).toNatClampNeg)))) b_32 ((gI (sI m x0 48 ((8 * (gI m x0 4)) + (gI m b_31 ((gI m x0 4).toNatClampNeg)))) x0 48).toNatClampNeg) (gI (sI m x0 48 ((8 * (gI m x0 4)) + (gI m b_31 ((gI m x0 4).toNatClampNeg)))) x0 42)) x0 43)) x0 48).toNatClampNeg) 0) b_35 ((gI (sI (sI (sI (sI m x0 48 ((8 * (gI m x0 4)) + (gI m b_31 ((gI m x0 4).toNatClampNeg)))) b_32 ((gI (sI m x0 48 ((8 * (gI m x0 4)) + (gI m b_31 ((gI m x0 4).toNatClampNeg)))) x0 48).toNatClampNeg) (gI (sI m x0 48 ((8 * (gI m x0 4)) + (gI m b_31 ((gI m x0 4).toNatClampNeg)))) x0 42)) b_33 ((gI (sI (sI m x0 48 ((8 * (gI m x0 4)) + (gI m b_31 ((gI m x0 4).toNatClampNeg)))) b_32 ((gI (sI m x0 48 ((8 * (gI m x0 4)) + (gI m b_31 ((gI m x0 4).toNatClampNeg)))) x0 48).toNatClampNeg) (gI (sI m x0 48 ((8 * (gI m x0 4)) + (gI m b_31 ((gI m x0 4).toNatClampNeg)))) x0 42)) x0 48).toNatClampNeg) (gI (sI (sI m x0 48 ((8 * (gI m x0 4)) + (gI m b_31 ((gI m x0 4).toNatClampNeg)))) b_32 ((gI (sI m x0 48 ((8 * (gI m x0 4)) + (gI m b_31 ((gI m x0 4).toNatClampNeg)))) x0 48).toNatClampNeg) (gI (sI m x0 48 ((8 * (gI m x0 4)) + (gI m b_31 ((gI m x0 4).toNatClampNeg)))) x0 42)) x0 43)) b_34 ((gI (sI (sI (sI m x0 48 ((8 * (gI m x0 4)) + (gI m b_31 ((gI m x0 4).toNatClampNeg)))) b_32 ((gI (sI m x0 48 ((8 * (gI m x0 4)) + (gI m b_31 ((gI m x0 4).toNatClampNeg)))) x0 48).toNatClampNeg) (gI (sI m x0 48 ((8 * (gI m x0 4)) + (gI m b_31 ((gI m x0 4).toNatClampNeg)))) x0 42)) b_33 ((gI (sI (sI m x0 48 ((8 * (gI m x0 4)) + (gI m b_31 ((gI m x0 4).toNatClampNeg)))) b_32 ((gI (sI m x0 48 ((8 * (gI m x0 4)) + (gI m b_31 ((gI m x0 4).toNatClampNeg)))) x0 48).toNatClampNeg) (gI (sI m x0 48 ((8 * (gI m x0 4)) + (gI m b_31 ((gI m x0 4).toNatClampNeg)))) x0 42)) x0 48).toNatClampNeg) (gI (sI (sI m x0 48 ((8 * (gI m x0 4)) + (gI m b_31 ((gI m x0 4).toNatClampNeg)))) b_32 ((gI (sI m x0 48 ((8 * (gI m x0 4)) + (gI m b_31 ((gI m x0 4).toNatClampNeg)))) x0 48).toNatClampNeg) (gI (sI m x0 48 ((8 * (gI m x0 4)) + (gI m b_31 ((gI m x0 4).toNatClampNeg)))) x0 42)) x0 43)) x0 48).toNatClampNeg) 0) x0 48).toNatClampNeg) 0) x0 48).toNatClampNeg) 0) x0 48).toNatClampNeg) (-1)) x0 48).toNatClampNeg) (-1)) b_39 ((gI (sI (sI (sI (sI (sI (sI (sI (sI m x0 48 ((8 * (gI m x0 4)) + (gI m b_31 ((gI m x0 4).toNatClampNeg)))) b_32 ((gI (sI m x0 48 ((8 * (gI m x0 4)) + (gI m b_31 ((gI m x0 4).toNatClampNeg)))) x0 48).toNatClampNeg) (gI (sI m x0 48 ((8 * (gI m x0 4)) + (gI m b_31 ((gI m x0 4).toNatClampNeg)))) x0 42)) b_33 ((gI (sI (sI m x0 48 ((8 * (gI m x0 4)) + (gI m b_31 ((gI m x0 4).toNatClampNeg)))) b_32 ((gI (sI m x0 48 ((8 * (gI m x0 4)) + (gI m b_31 ((gI m x0 4).toNatClampNeg)))) x0 48).toNatClampNeg) (gI (sI m x0 48 ((8 * (gI m x0 4)) + (gI m b_31 ((gI m x0 4).toNatClampNeg)))) x0 42)) x0 48).toNatClampNeg) (gI (sI (sI m x0 48 ((8 * (gI m x0 4)) + (gI m b_31 ((gI m x0 4).toNatClampNeg)))) b_32 ((gI (sI m x0 48 ((8 * (gI m x0 4)) + (gI m b_31 ((gI m x0 4).toNatClampNeg)))) x0 48).toNatClampNeg) (gI (sI m x0 48 ((8 * (gI m x0 4)) + (gI m b_31 ((gI m x0 4).toNatClampNeg)))) x0 42)) x0 43)) b_34 ((gI (sI (sI (sI m x0 48 ((8 * (gI m x0 4)) + (gI m b_31 ((gI m x0 4).toNatClampNeg)))) b_32 ((gI (sI m x0 48 ((8 * (gI m x0 4)) + (gI m b_31 ((gI m x0 4).toNatClampNeg)))) x0 48).toNatClampNeg) (gI (sI m x0 48 ((8 * (gI m x0 4)) + (gI m b_31 ((gI m x0 4).toNatClampNeg)))) x0 42)) b_33 ((gI (sI (sI m x0 48 ((8 * (gI m x0 4)) + (gI m b_31 ((gI m x0 4).toNatClampNeg)))) b_32 ((gI (sI m x0 48 ((8 * (gI m x0 4)) + (gI m b_31 ((gI m x0 4).toNatClampNeg)))) x0 48).toNatClampNeg) (gI (sI m x0 48 ((8 * (gI m x0 4)) + (gI m b_31 ((gI m x0 4).toNatClampNeg)))) x0 42)) x0 48).toNatClampNeg) (gI (sI (sI m x0 48 ((8 * (gI m x0 4)) + (gI m b_31 ((gI m x0 4).toNatClampNeg)))) b_32 ((gI (sI m x0 48 ((8 * (gI m x0 4)) + (gI m b_31 ((gI m x0 4).toNatClampNeg)))) x0 48).toNatClampNeg) (gI (sI m x0 48 ((8 * (gI m x0 4)) + (gI m b_31 ((gI m x0 4).toNatClampNeg)))) x0 42)) x0 43)) x0 48).toNatClampNeg) 0) b_35 ((gI (sI (sI (sI (sI m x0 48 ((8 * (gI m x0 4)) + (gI m b_31 ((gI m x0 4).toNatClampNeg)))) b_32 ((gI (sI m x0 48 ((8 * (gI m x0 4)) + (gI m b_31 ((gI m x0 4).toNatClampNeg)))) x0 48).toNatClampNeg) (gI (sI m x0 48 ((8 * (gI m x0 4)) + (gI m b_31 ((gI m x0 4).toNatClampNeg)))) x0 42)) b_33 ((gI (sI (sI m x0 48 ((8 * (gI m x0 4)) + (gI m b_31 ((gI m x0 4).toNatClampNeg)))) b_32 ((gI (sI m x0 48 ((8 * (gI m x0 4)) + (gI m b_31 ((gI m x0 4).toNatClampNeg)))) x0 48).toNatClampNeg) (gI (sI m x0 48 ((8 * (gI m x0 4)) + (gI m b_31 ((gI m x0 4).toNatClampNeg)))) x0 42)) x0 48).toNatClampNeg) (gI (sI (sI m x0 48 ((8 * (gI m x0 4)) + (gI m b_31 ((gI m x0 4).toNatClampNeg)))) b_32 ((gI (sI m x0 48 ((8 * (gI m x0 4)) + (gI m b_31 ((gI m x0 4).toNatClampNeg)))) x0 48).toNatClampNeg) (gI (sI m x0 48 ((8 * (gI m x0 4)) + (gI m b_31 ((gI m x0 4).toNatClampNeg)))) x0 42)) x0 43)) b_34 ((gI (sI (sI (sI m x0 48 ((8 * (gI m x0 4)) + (gI m b_31 ((gI m x0 4).toNatClampNeg)))) b_32 ((gI (sI m x0 48 ((8 * (gI m x0 4)) + (gI m b_31 ((gI m x0 4).toNatClampNeg)))) x0 48).toNatClampNeg) (gI (sI m x0 48 ((8 * (gI m x0 4)) + (gI m b_31 ((gI m x0 4).toNatClampNeg)))) x0 42)) b_33 ((gI (sI (sI m x0 48 ((8 * (gI m x0 4)) + (gI m b_31 ((gI m x0 4).toNatClampNeg)))) b_32 ((gI (sI m x0 48 ((8 * (gI m x0 4)) + (gI m b_31 ((gI m x0 4).toNatClampNeg)))) x0 48).toNatClampNeg) (gI (sI m x0 48 ((8 * (gI m x0 4)) + (gI m b_31 ((gI m x0 4).toNatClampNeg)))) x0 42)) x0 48).toNatClampNeg) (gI (sI (sI m x0 48 ((8 * (gI m x0 4)) + (gI m b_31 ((gI m x0 4).toNatClampNeg)))) b_32 ((gI (sI m x0 48 ((8 * (gI m x0 4)) + (gI m b_31 ((gI m x0 4).toNatClampNeg)))) x0 48).toNatClampNeg) (gI (sI m x0 48 ((8 * (gI m x0 4)) + (gI m b_31 ((gI m x0 4).toNatClampNeg)))) x0 42)) x0 43)) x0 48).toNatClampNeg) 0) x0 48).toNatClampNeg) 0) b_36 ((gI (sI (sI (sI (sI (sI m x0 48 ((8 * (gI m x0 4)) + (gI m b_31 ((gI m x0 4).toNatClampNeg)))) b_32 ((gI (sI m x0 48 ((8 * (gI m x0 4)) + (gI m b_31 ((gI m x0 4).toNatClampNeg)))) x0 48).toNatClampNeg) (gI (sI m x0 48 ((8 * (gI m x0 4)) + (gI m b_31 ((gI m x0 4).toNatClampNeg)))) x0 42)) b_33 ((gI (sI (sI m x0 48 ((8 * (gI m x0 4)) + (gI m b_31 ((gI m x0 4).toNatClampNeg)))) b_32 ((gI (sI m x0 48 ((8 * (gI m x0 4)) + (gI m b_31 ((gI m x0 4).toNatClampNeg)))) x0 48).toNatClampNeg) (gI (sI m x0 48 ((8 * (gI m x0 4)) + (gI m b_31 ((gI m x0 4).toNatClampNeg)))) x0 42)) x0 48).toNatClampNeg) (gI (sI (sI m x0 48 ((8 * (gI m x0 4)) + (gI m b_31 ((gI m x0 4).toNatClampNeg)))) b_32 ((gI (sI m x0 48 ((8 * (gI m x0 4)) + (gI m b_31 ((gI m x0 4).toNatClampNeg)))) x0 48).toNatClampNeg) (gI (sI m x0 48 ((8 * (gI m x0 4)) + (gI m b_31 ((gI m x0 4).toNatClampNeg)))) x0 42)) x0 43)) b_34 ((gI (sI (sI (sI m x0 48 ((8 * (gI m x0 4)) + (gI m b_31 ((gI m x0 4).toNatClampNeg)))) b_32 ((gI (sI m x0 48 ((8 * (gI m x0 4)) + (gI m b_31 ((gI m x0 4).toNatClampNeg)))) x0 48).toNatClampNeg) (gI (sI m x0 48 ((8 * (gI m x0 4)) + (gI m b_31 ((gI m x0 4).toNatClampNeg)))) x0 42)) b_33 ((gI (sI (sI m x0 48 ((8 * (gI m x0 4)) + (gI m b_31 ((gI m x0 4).toNatClampNeg)))) b_32 ((gI (sI m x0 48 ((8 * (gI m x0 4)) + (gI m b_31 ((gI m x0 4).toNatClampNeg)))) x0 48).toNatClampNeg) (gI (sI m x0 48 ((8 * (gI m x0 4)) + (gI m b_31 ((gI m x0 4).toNatClampNeg)))) x0 42)) x0 48).toNatClampNeg) (gI (sI (sI m x0 48 ((8 * (gI m x0 4)) + (gI m b_31 ((gI m x0 4).toNatClampNeg)))) b_32 ((gI (sI m x0 48 ((8 * (gI m x0 4)) + (gI m b_31 ((gI m x0 4).toNatClampNeg)))) x0 48).toNatClampNeg) (gI (sI m x0 48 ((8 * (gI m x0 4)) + (gI m b_31 ((gI m x0 4).toNatClampNeg)))) x0 42)) x0 43)) x0 48).toNatClampNeg) 0) b_35 ((gI (sI (sI (sI (sI m x0 48 ((8 * (gI m x0 4)) + (gI m b_31 ((gI m x0 4).toNatClampNeg)))) b_32 ((gI (sI m x0 48 ((8 * (gI m x0 4)) + (gI m b_31 ((gI m x0 4).toNatClampNeg)))) x0 48).toNatClampNeg) (gI (sI m x0 48 ((8 * (gI m x0 4)) + (gI m b_31 ((gI m x0 4).toNatClampNeg)))) x0 42)) b_33 ((gI (sI (sI m x0 48 ((8 * (gI m x0 4)) + (gI m b_31 ((gI m x0 4).toNatClampNeg)))) b_32 ((gI (sI m x0 48 ((8 * (gI m x0 4)) + (gI m b_31 ((gI m x0 4).toNatClampNeg)))) x0 48).toNatClampNeg) (gI (sI m x0 48 ((8 * (gI m x0 4)) + (gI m b_31 ((gI m x0 4).toNatClampNeg)))) x0 42)) x0 48).toNatClampNeg) (gI (sI (sI m x0 48 ((8 * (gI m x0 4)) + (gI m b_31 ((gI m x0 4).toNatClampNeg)))) b_32 ((gI (sI m x0 48 ((8 * (gI m x0 4)) + (gI m b_31 ((gI m x0 4).toNatClampNeg)))) x0 48).toNatClampNeg) (gI (sI m x0 48 ((8 * (gI m x0 4)) + (gI m b_31 ((gI m x0 4).toNatClampNeg)))) x0 42)) x0 43)) b_34 ((gI (sI (sI (sI m x0 48 ((8 * (gI m x0 4)) + (gI m b_31 ((gI m x0 4).toNatClampNeg)))) b_32 ((gI (sI m x0 48 ((8 * (gI m x0 4)) + (gI m b_31 ((gI m x0 4).toNatClampNeg)))) x0 48).toNatClampNeg) (gI (sI m x0 48 ((8 * (gI m x0 4)) + (gI m b_31 ((gI m x0 4).toNatClampNeg)))) x0 42)) b_33 ((gI (sI (sI m x0 48 ((8 * (gI m x0 4)) + (gI m b_31 ((gI m x0 4).toNatClampNeg)))) b_32 ((gI (sI m x0 48 ((8 * (gI m x0 4)) + (gI m b_31 ((gI m x0 4).toNatClampNeg)))) x0 48).toNatClampNeg) (gI (sI m x0 48 ((8 * (gI m x0 4)) + (gI m b_31 ((gI m x0 4).toNatClampNeg)))) x0 42)) x0 48).toNatClampNeg) (gI (sI (sI m x0 48 ((8 * (gI m x0 4)) + (gI m b_31 ((gI m x0 4).toNatClampNeg)))) b_32 ((gI (sI m x0 48 ((8 * (gI m x0 4)) + (gI m b_31 ((gI m x0 4).toNatClampNeg)))) x0 48).toNatClampNeg) (gI (sI m x0 48 ((8 * (gI m x0 4)) + (gI m b_31 ((gI m x0 4).toNatClampNeg)))) x0 42)) x0 43)) x0 48).toNatClampNeg) 0) x0 48).toNatClampNeg) 0) x0 48).toNatClampNeg) 0) b_37 ((gI (sI (sI (sI (sI (sI (sI m x0 48 ((8 * (gI m x0 4)) + (gI m b_31 ((gI m x0 4).toNatClampNeg)))) b_32 ((gI (sI m x0 48 ((8 * (gI m x0 4)) + (gI m b_31 ((gI m x0 4).toNatClampNeg)))) x0 48).toNatClampNeg) (gI (sI m x0 48 ((8 * (gI m x0 4)) + (gI m b_31 ((gI m x0 4).toNatClampNeg)))) x0 42)) b_33 ((gI (sI (sI m x0 48 ((8 * (gI m x0 4)) + (gI m b_31 ((gI m x0 4).toNatClampNeg)))) b_32 ((gI (sI m x0 48 ((8 * (gI m x0 4)) + (gI m b_31 ((gI m x0 4).toNatClampNeg)))) x0 48).toNatClampNeg) (gI (sI m x0 48 ((8 * (gI m x0 4)) + (gI m b_31 ((gI m x0 4).toNatClampNeg)))) x0 42)) x0 48).toNatClampNeg) (gI (sI (sI m x0 48 ((8 * (gI m x0 4)) + (gI m b_31 ((gI m x0 4).toNatClampNeg)))) b_32 ((gI (sI m x0 48 ((8 * (gI m x0 4)) + (gI m b_31 ((gI m x0 4).toNatClampNeg)))) x0 48).toNatClampNeg) (gI (sI m x0 48 ((8 * (gI m x0 4)) + (gI m b_31 ((gI m x0 4).toNatClampNeg)))) x0 42)) x0 43)) b_34 ((gI (sI (sI (sI m x0 48 ((8 * (gI m x0 4)) + (gI m b_31 ((gI m x0 4).toNatClampNeg)))) b_32 ((gI (sI m x0 48 ((8 * (gI m x0 4)) + (gI m b_31 ((gI m x0 4).toNatClampNeg)))) x0 48).toNatClampNeg) (gI (sI m x0 48 ((8 * (gI m x0 4)) + (gI m b_31 ((gI m x0 4).toNatClampNeg)))) x0 42)) b_33 ((gI (sI (sI m x0 48 ((8 * (gI m x0 4)) + (gI m b_31 ((gI m x0 4).toNatClampNeg)))) b_32 ((gI (sI m x0 48 ((8 * (gI m x0 4)) + (gI m b_31 ((gI m x0 4).toNatClampNeg)))) x0 48).toNatClampNeg) (gI (sI m x0 48 ((8 * (gI m x0 4)) + (gI m b_31 ((gI m x0 4).toNatClampNeg)))) x0 42)) x0 48).toNatClampNeg) (gI (sI (sI m x0 48 ((8 * (gI m x0 4)) + (gI m b_31 ((gI m x0 4).toNatClampNeg)))) b_32 ((gI (sI m x0 48 ((8 * (gI m x0 4)) + (gI m b_31 ((gI m x0 4).toNatClampNeg)))) x0 48).toNatClampNeg) (gI (sI m x0 48 ((8 * (gI m x0 4)) + (gI m b_31 ((gI m x0 4).toNatClampNeg)))) x0 42)) x0 43)) x0 48).toNatClampNeg) 0) b_35 ((gI (sI (sI (sI (sI m x0 48 ((8 * (gI m x0 4)) + (gI m b_31 ((gI m x0 4).toNatClampNeg)))) b_32 ((gI (sI m x0 48 ((8 * (gI m x0 4)) + (gI m b_31 ((gI m x0 4).toNatClampNeg)))) x0 48).toNatClampNeg) (gI (sI m x0 48 ((8 * (gI m x0 4)) + (gI m b_31 ((gI m x0 4).toNatClampNeg)))) x0 42)) b_33 ((gI (sI (sI m x0 48 ((8 * (gI m x0 4)) + (gI m b_31 ((gI m x0 4).toNatClampNeg)))) b_32 ((gI (sI m x0 48 ((8 * (gI m x0 4)) + (gI m b_31 ((gI m x0 4).toNatClampNeg)))) x0 48).toNatClampNeg) (gI (sI m x0 48 ((8 * (gI m x0 4)) + (gI m b_31 ((gI m x0 4).toNatClampNeg)))) x0 42)) x0 48).toNatClampNeg) (gI (sI (sI m x0 48 ((8 * (gI m x0 4)) + (gI m b_31 ((gI m x0 4).toNatClampNeg)))) b_32 ((gI (sI m x0 48 ((8 * (gI m x0 4)) + (gI m b_31 ((gI m x0 4).toNatClampNeg)))) x0 48).toNatClampNeg) (gI (sI m x0 48 ((8 * (gI m x0 4)) + (gI m b_31 ((gI m x0 4).toNatClampNeg)))) x0 42)) x0 43)) b_34 ((gI (sI (sI (sI m x0 48 ((8 * (gI m x0 4)) + (gI m b_31 ((gI m x0 4).toNatClampNeg)))) b_32 ((gI (sI m x0 48 ((8 * (gI m x0 4)) + (gI m b_31 ((gI m x0 4).toNatClampNeg)))) x0 48).toNatClampNeg) (gI (sI m x0 48 ((8 * (gI m x0 4)) + (gI m b_31 ((gI m x0 4).toNatClampNeg)))) x0 42)) b_33 ((gI (sI (sI m x0 48 ((8 * (gI m x0 4)) + (gI m b_31 ((gI m x0 4).toNatClampNeg)))) b_32 ((gI (sI m x0 48 ((8 * (gI m x0 4)) + (gI m b_31 ((gI m x0 4).toNatClampNeg)))) x0 48).toNatClampNeg) (gI (sI m x0 48 ((8 * (gI m x0 4)) + (gI m b_31 ((gI m x0 4).toNatClampNeg)))) x0 42)) x0 48).toNatClampNeg) (gI (sI (sI m x0 48 ((8 * (gI m x0 4)) + (gI m b_31 ((gI m x0 4).toNatClampNeg)))) b_32 ((gI (sI m x0 48 ((8 * (gI m x0 4)) + (gI m b_31 ((gI m x0 4).toNatClampNeg)))) x0 48).toNatClampNeg) (gI (sI m x0 48 ((8 * (gI m x0 4)) + (gI m b_31 ((gI m x0 4).toNatClampNeg)))) x0 42)) x0 43)) x0 48).toNatClampNeg) 0) x0 48).toNatClampNeg) 0) b_36 ((gI (sI (sI (sI (sI (sI m x0 48 ((8 * (gI m x0 4)) + (gI m b_31 ((gI m x0 4).toNatClampNeg)))) b_32 ((gI (sI m x0 48 ((8 * (gI m x0 4)) + (gI m b_31 ((gI m x0 4).toNatClampNeg)))) x0 48).toNatClampNeg) (gI (sI m x0 48 ((8 * (gI m x0 4)) + (gI m b_31 ((gI m x0 4).toNatClampNeg)))) x0 42)) b_33 ((gI (sI (sI m x0 48 ((8 * (gI m x0 4)) + (gI m b_31 ((gI m x0 4).toNatClampNeg)))) b_32 ((gI (sI m x0 48 ((8 * (gI m x0 4)) + (gI m b_31 ((gI m x0 4).toNatClampNeg)))) x0 48).toNatClampNeg) (gI (sI m x0 48 ((8 * (gI m x0 4)) + (gI m b_31 ((gI m x0 4).toNatClampNeg)))) x0 42)) x0 48).toNatClampNeg) (gI (sI (sI m x0 48 ((8 * (gI m x0 4)) + (gI m b_31 ((gI m x0 4).toNatClampNeg)))) b_32 ((gI (sI m x0 48 ((8 * (gI m x0 4)) + (gI m b_31 ((gI m x0 4).toNatClampNeg)))) x0 48).toNatClampNeg) (gI (sI m x0 48 ((8 * (gI m x0 4)) + (gI m b_31 ((gI m x0 4).toNatClampNeg)))) x0 42)) x0 43)) b_34 ((gI (sI (sI (sI m x0 48 ((8 * (gI m x0 4)) + (gI m b_31 ((gI m x0 4).toNatClampNeg)))) b_32 ((gI (sI m x0 48 ((8 * (gI m x0 4)) + (gI m b_31 ((gI m x0 4).toNatClampNeg)))) x0 48).toNatClampNeg) (gI (sI m x0 48 ((8 * (gI m x0 4)) + (gI m b_31 ((gI m x0 4).toNatClampNeg)))) x0 42)) b_33 ((gI (sI (sI m x0 48 ((8 * (gI m x0 4)) + (gI m b_31 ((gI m x0 4).toNatClampNeg)))) b_32 ((gI (sI m x0 48 ((8 * (gI m x0 4)) + (gI m b_31 ((gI m x0 4).toNatClampNeg)))) x0 48).toNatClampNeg) (gI (sI m x0 48 ((8 * (gI m x0 4)) + (gI m b_31 ((gI m x0 4).toNatClampNeg)))) x0 42)) x0 48).toNatClampNeg) (gI (sI (sI m x0 48 ((8 * (gI m x0 4)) + (gI m b_31 ((gI m x0 4).toNatClampNeg)))) b_32 ((gI (sI m x0 48 ((8 * (gI m x0 4)) + (gI m b_31 ((gI m x0 4).toNatClampNeg)))) x0 48).toNatClampNeg) (gI (sI m x0 48 ((8 * (gI m x0 4)) + (gI m b_31 ((gI m x0 4).toNatClampNeg)))) x0 42)) x0 43)) x0 48).toNatClampNeg) 0) b_35 ((gI (sI (sI (sI (sI m x0 48 ((8 * (gI m x0 4)) + (gI m b_31 ((gI m x0 4).toNatClampNeg)))) b_32 ((gI (sI m x0 48 ((8 * (gI m x0 4)) + (gI m b_31 ((gI m x0 4).toNatClampNeg)))) x0 48).toNatClampNeg) (gI (sI m x0 48 ((8 * (gI m x0 4)) + (gI m b_31 ((gI m x0 4).toNatClampNeg)))) x0 42)) b_33 ((gI (sI (sI m x0 48 ((8 * (gI m x0 4)) + (gI m b_31 ((gI m x0 4).toNatClampNeg)))) b_32 ((gI (sI m x0 48 ((8 * (gI m x0 4)) + (gI m b_31 ((gI m x0 4).toNatClampNeg)))) x0 48).toNatClampNeg) (gI (sI m x0 48 ((8 * (gI m x0 4)) + (gI m b_31 ((gI m x0 4).toNatClampNeg)))) x0 42)) x0 48).toNatClampNeg) (gI (sI (sI m x0 48 ((8 * (gI m x0 4)) + (gI m b_31 ((gI m x0 4).toNatClampNeg)))) b_32 ((gI (sI m x0 48 ((8 * (gI m x0 4)) + (gI m b_31 ((gI m x0 4).toNatClampNeg)))) x0 48).toNatClampNeg) (gI (sI m x0 48 ((8 * (gI m x0 4)) + (gI m b_31 ((gI m x0 4).toNatClampNeg)))) x0 42)) x0 43)) b_34 ((gI (sI (sI (sI m x0 48 ((8 * (gI m x0 4)) + (gI m b_31 ((gI m x0 4).toNatClampNeg)))) b_32 ((gI (sI m x0 48 ((8 * (gI m x0 4)) + (gI m b_31 ((gI m x0 4).toNatClampNeg)))) x0 48).toNatClampNeg) (gI (sI m x0 48 ((8 * (gI m x0 4)) + (gI m b_31 ((gI m x0 4).toNatClampNeg)))) x0 42)) b_33 ((gI (sI (sI m x0 48 ((8 * (gI m x0 4)) + (gI m b_31 ((gI m x0 4).toNatClampNeg)))) b_32 ((gI (sI m x0 48 ((8 * (gI m x0 4)) + (gI m b_31 ((gI m x0 4).toNatClampNeg)))) x0 48).toNatClampNeg) (gI (sI m x0 48 ((8 * (gI m x0 4)) + (gI m b_31 ((gI m x0 4).toNatClampNeg)))) x0 42)) x0 48).toNatClampNeg) (gI (sI (sI m x0 48 ((8 * (gI m x0 4)) + (gI m b_31 ((gI m x0 4).toNatClampNeg)))) b_32 ((gI (sI m x0 48 ((8 * (gI m x0 4)) + (gI m b_31 ((gI m x0 4).toNatClampNeg)))) x0 48).toNatClampNeg) (gI (sI m x0 48 ((8 * (gI m x0 4)) + (gI m b_31 ((gI m x0 4).toNatClampNeg)))) x0 42)) x0 43)) x0 48).toNatClampNeg) 0) x0 48).toNatClampNeg) 0) x0 48).toNatClampNeg) 0) x0 48).toNatClampNeg) (-1)) b_38 ((gI (sI (sI (sI (sI (sI (sI (sI m x0 48 ((8 * (gI m x0 4)) + (gI m b_31 ((gI m x0 4).toNatClampNeg)))) b_32 ((gI (sI m x0 48 ((8 * (gI m x0 4)) + (gI m b_31 ((gI m x0 4).toNatClampNeg)))) x0 48).toNatClampNeg) (gI (sI m x0 48 ((8 * (gI m x0 4)) + (gI m b_31 ((gI m x0 4).toNatClampNeg)))) x0 42)) b_33 ((gI (sI (sI m x0 48 ((8 * (gI m x0 4)) + (gI m b_31 ((gI m x0 4).toNatClampNeg)))) b_32 ((gI (sI m x0 48 ((8 * (gI m x0 4)) + (gI m b_31 ((gI m x0 4).toNatClampNeg)))) x0 48).toNatClampNeg) (gI (sI m x0 48 ((8 * (gI m x0 4)) + (gI m b_31 ((gI m x0 4).toNatClampNeg)))) x0 42)) x0 48).toNatClampNeg) (gI (sI (sI m x0 48 ((8 * (gI m x0 4)) + (gI m b_31 ((gI m x0 4).toNatClampNeg)))) b_32 ((gI (sI m x0 48 ((8 * (gI m x0 4)) + (gI m b_31 ((gI m x0 4).toNatClampNeg)))) x0 48).toNatClampNeg) (gI (sI m x0 48 ((8 * (gI m x0 4)) + (gI m b_31 ((gI m x0 4).toNatClampNeg)))) x0 42)) x0 43)) b_34 ((gI (sI (sI (sI m x0 48 ((8 * (gI m x0 4)) + (gI m b_31 ((gI m x0 4).toNatClampNeg)))) b_32 ((gI (sI m x0 48 ((8 * (gI m x0 4)) + (gI m b_31 ((gI m x0 4).toNatClampNeg)))) x0 48).toNatClampNeg) (gI (sI m x0 48 ((8 * (gI m x0 4)) + (gI m b_31 ((gI m x0 4).toNatClampNeg)))) x0 42)) b_33 ((gI (sI (sI m x0 48 ((8 * (gI m x0 4)) + (gI m b_31 ((gI m x0 4).toNatClampNeg)))) b_32 ((gI (sI m x0 48 ((8 * (gI m x0 4)) + (gI m b_31 ((gI m x0 4).toNatClampNeg)))) x0 48).toNatClampNeg) (gI (sI m x0 48 ((8 * (gI m x0 4)) + (gI m b_31 ((gI m x0 4).toNatClampNeg)))) x0 42)) x0 48).toNatClampNeg) (gI (sI (sI m x0 48 ((8 * (gI m x0 4)) + (gI m b_31 ((gI m x0 4).toNatClampNeg)))) b_32 ((gI (sI m x0 48 ((8 * (gI m x0 4)) + (gI m b_31 ((gI m x0 4).toNatClampNeg)))) x0 48).toNatClampNeg) (gI (sI m x0 48 ((8 * (gI m x0 4)) + (gI m b_31 ((gI m x0 4).toNatClampNeg)))) x0 42)) x0 43)) x0 48).toNatClampNeg) 0) b_35 ((gI (sI (sI (sI (sI m x0 48 ((8 * (gI m x0 4)) + (gI m b_31 ((gI m x0 4).toNatClampNeg)))) b_32 ((gI (sI m x0 48 ((8 * (gI m x0 4)) + (gI m b_31 ((gI m x0 4).toNatClampNeg)))) x0 48).toNatClampNeg) (gI (sI m x0 48 ((8 * (gI m x0 4)) + (gI m b_31 ((gI m x0 4).toNatClampNeg)))) x0 42)) b_33 ((gI (sI (sI m x0 48 ((8 * (gI m x0 4)) + (gI m b_31 ((gI m x0 4).toNatClampNeg)))) b_32 ((gI (sI m x0 48 ((8 * (gI m x0 4)) + (gI m b_31 ((gI m x0 4).toNatClampNeg)))) x0 48).toNatClampNeg) (gI (sI m x0 48 ((8 * (gI m x0 4)) + (gI m b_31 ((gI m x0 4).toNatClampNeg)))) x0 42)) x0 48).toNatClampNeg) (gI (sI (sI m x0 48 ((8 * (gI m x0 4)) + (gI m b_31 ((gI m x0 4).toNatClampNeg)))) b_32 ((gI (sI m x0 48 ((8 * (gI m x0 4)) + (gI m b_31 ((gI m x0 4).toNatClampNeg)))) x0 48).toNatClampNeg) (gI (sI m x0 48 ((8 * (gI m x0 4)) + (gI m b_31 ((gI m x0 4).toNatClampNeg)))) x0 42)) x0 43)) b_34 ((gI (sI (sI (sI m x0 48 ((8 * (gI m x0 4)) + (gI m b_31 ((gI m x0 4).toNatClampNeg)))) b_32 ((gI (sI m x0 48 ((8 * (gI m x0 4)) + (gI m b_31 ((gI m x0 4).toNatClampNeg)))) x0 48).toNatClampNeg) (gI (sI m x0 48 ((8 * (gI m x0 4)) + (gI m b_31 ((gI m x0 4).toNatClampNeg)))) x0 42)) b_33 ((gI (sI (sI m x0 48 ((8 * (gI m x0 4)) + (gI m b_31 ((gI m x0 4).toNatClampNeg)))) b_32 ((gI (sI m x0 48 ((8 * (gI m x0 4)) + (gI m b_31 ((gI m x0 4).toNatClampNeg)))) x0 48).toNatClampNeg) (gI (sI m x0 48 ((8 * (gI m x0 4)) + (gI m b_31 ((gI m x0 4).toNatClampNeg)))) x0 42)) x0 48).toNatClampNeg) (gI (sI (sI m x0 48 ((8 * (gI m x0 4)) + (gI m b_31 ((gI m x0 4).toNatClampNeg)))) b_32 ((gI (sI m x0 48 ((8 * (gI m x0 4)) + (gI m b_31 ((gI m x0 4).toNatClampNeg)))) x0 48).toNatClampNeg) (gI (sI m x0 48 ((8 * (gI m x0 4)) + (gI m b_31 ((gI m x0 4).toNatClampNeg)))) x0 42)) x0 43)) x0 48).toNatClampNeg) 0) x0 48).toNatClampNeg) 0) b_36 ((gI (sI (sI (sI (sI (sI m x0 48 ((8 * (gI m x0 4)) + (gI m b_31 ((gI m x0 4).toNatClampNeg)))) b_32 ((gI (sI m x0 48 ((8 * (gI m x0 4)) + (gI m b_31 ((gI m x0 4).toNatClampNeg)))) x0 48).toNatClampNeg) (gI (sI m x0 48 ((8 * (gI m x0 4)) + (gI m b_31 ((gI m x0 4).toNatClampNeg)))) x0 42)) b_33 ((gI (sI (sI m x0 48 ((8 * (gI m x0 4)) + (gI m b_31 ((gI m x0 4).toNatClampNeg)))) b_32 ((gI (sI m x0 48 ((8 * (gI m x0 4)) + (gI m b_31 ((gI m x0 4).toNatClampNeg)))) x0 48).toNatClampNeg) (gI (sI m x0 48 ((8 * (gI m x0 4)) + (gI m b_31 ((gI m x0 4).toNatClampNeg)))) x0 42)) x0 48).toNatClampNeg) (gI (sI (sI m x0 48 ((8 * (gI m x0 4)) + (gI m b_31 ((gI m x0 4).toNatClampNeg)))) b_32 ((gI (sI m x0 48 ((8 * (gI m x0 4)) + (gI m b_31 ((gI m x0 4).toNatClampNeg)))) x0 48).toNatClampNeg) (gI (sI m x0 48 ((8 * (gI m x0 4)) + (gI m b_31 ((gI m x0 4).toNatClampNeg)))) x0 42)) x0 43)) b_34 ((gI (sI (sI (sI m x0 48 ((8 * (gI m x0 4)) + (gI m b_31 ((gI m x0 4).toNatClampNeg)))) b_32 ((gI (sI m x0 48 ((8 * (gI m x0 4)) + (gI m b_31 ((gI m x0 4).toNatClampNeg)))) x0 48).toNatClampNeg) (gI (sI m x0 48 ((8 * (gI m x0 4)) + (gI m b_31 ((gI m x0 4).toNatClampNeg)))) x0 42)) b_33 ((gI (sI (sI m x0 48 ((8 * (gI m x0 4)) + (gI m b_31 ((gI m x0 4).toNatClampNeg)))) b_32 ((gI (sI m x0 48 ((8 * (gI m x0 4)) + (gI m b_31 ((gI m x0 4).toNatClampNeg)))) x0 48).toNatClampNeg) (gI (sI m x0 48 ((8 * (gI m x0 4)) + (gI m b_31 ((gI m x0 4).toNatClampNeg)))) x0 42)) x0 48).toNatClampNeg) (gI (sI (sI m x0 48 ((8 * (gI m x0 4)) + (gI m b_31 ((gI m x0 4).toNatClampNeg)))) b_32 ((gI (sI m x0 48 ((8 * (gI m x0 4)) + (gI m b_31 ((gI m x0 4).toNatClampNeg)))) x0 48).toNatClampNeg) (gI (sI m x0 48 ((8 * (gI m x0 4)) + (gI m b_31 ((gI m x0 4).toNatClampNeg)))) x0 42)) x0 43)) x0 48).toNatClampNeg) 0) b_35 ((gI (sI (sI (sI (sI m x0 48 ((8 * (gI m x0 4)) + (gI m b_31 ((gI m x0 4).toNatClampNeg)))) b_32 ((gI (sI m x0 48 ((8 * (gI m x0 4)) + (gI m b_31 ((gI m x0 4).toNatClampNeg)))) x0 48).toNatClampNeg) (gI (sI m x0 48 ((8 * (gI m x0 4)) + (gI m b_31 ((gI m x0 4).toNatClampNeg)))) x0 42)) b_33 ((gI (sI (sI m x0 48 ((8 * (gI m x0 4)) + (gI m b_31 ((gI m x0 4).toNatClampNeg)))) b_32 ((gI (sI m x0 48 ((8 * (gI m x0 4)) + (gI m b_31 ((gI m x0 4).toNatClampNeg)))) x0 48).toNatClampNeg) (gI (sI m x0 48 ((8 * (gI m x0 4)) + (gI m b_31 ((gI m x0 4).toNatClampNeg)))) x0 42)) x0 48).toNatClampNeg) (gI (sI (sI m x0 48 ((8 * (gI m x0 4)) + (gI m b_31 ((gI m x0 4).toNatClampNeg)))) b_32 ((gI (sI m x0 48 ((8 * (gI m x0 4)) + (gI m b_31 ((gI m x0 4).toNatClampNeg)))) x0 48).toNatClampNeg) (gI (sI m x0 48 ((8 * (gI m x0 4)) + (gI m b_31 ((gI m x0 4).toNatClampNeg)))) x0 42)) x0 43)) b_34 ((gI (sI (sI (sI m x0 48 ((8 * (gI m x0 4)) + (gI m b_31 ((gI m x0 4).toNatClampNeg)))) b_32 ((gI (sI m x0 48 ((8 * (gI m x0 4)) + (gI m b_31 ((gI m x0 4).toNatClampNeg)))) x0 48).toNatClampNeg) (gI (sI m x0 48 ((8 * (gI m x0 4)) + (gI m b_31 ((gI m x0 4).toNatClampNeg)))) x0 42)) b_33 ((gI (sI (sI m x0 48 ((8 * (gI m x0 4)) + (gI m b_31 ((gI m x0 4).toNatClampNeg)))) b_32 ((gI (sI m x0 48 ((8 * (gI m x0 4)) + (gI m b_31 ((gI m x0 4).toNatClampNeg)))) x0 48).toNatClampNeg) (gI (sI m x0 48 ((8 * (gI m x0 4)) + (gI m b_31 ((gI m x0 4).toNatClampNeg)))) x0 42)) x0 48).toNatClampNeg) (gI (sI (sI m x0 48 ((8 * (gI m x0 4)) + (gI m b_31 ((gI m x0 4).toNatClampNeg)))) b_32 ((gI (sI m x0 48 ((8 * (gI m x0 4)) + (gI m b_31 ((gI m x0 4).toNatClampNeg)))) x0 48).toNatClampNeg) (gI (sI m x0 48 ((8 * (gI m x0 4)) + (gI m b_31 ((gI m x0 4).toNatClampNeg)))) x0 42)) x0 43)) x0 48).toNatClampNeg) 0) x0 48).toNatClampNeg) 0) x0 48).toNatClampNeg) 0) b_37 ((gI (sI (sI (sI (sI (sI (sI m x0 48 ((8 * (gI m x0 4)) + (gI m b_31 ((gI m x0 4).toNatClampNeg)))) b_32 ((gI (sI m x0 48 ((8 * (gI m x0 4)) + (gI m b_31 ((gI m x0 4).toNatClampNeg)))) x0 48).toNatClampNeg) (gI (sI m x0 48 ((8 * (gI m x0 4)) + (gI m b_31 ((gI m x0 4).toNatClampNeg)))) x0 42)) b_33 ((gI (sI (sI m x0 48 ((8 * (gI m x0 4)) + (gI m b_31 ((gI m x0 4).toNatClampNeg)))) b_32 ((gI (sI m x0 48 ((8 * (gI m x0 4)) + (gI m b_31 ((gI m x0 4).toNatClampNeg)))) x0 48).toNatClampNeg) (gI (sI m x0 48 ((8 * (gI m x0 4)) + (gI m b_31 ((gI m x0 4).toNatClampNeg)))) x0 42)) x0 48).toNatClampNeg) (gI (sI (sI m x0 48 ((8 * (gI m x0 4)) + (gI m b_31 ((gI m x0 4).toNatClampNeg)))) b_32 ((gI (sI m x0 48 ((8 * (gI m x0 4)) + (gI m b_31 ((gI m x0 4).toNatClampNeg)))) x0 48).toNatClampNeg) (gI (sI m x0 48 ((8 * (gI m x0 4)) + (gI m b_31 ((gI m x0 4).toNatClampNeg)))) x0 42)) x0 43)) b_34 ((gI (sI (sI (sI m x0 48 ((8 * (gI m x0 4)) + (gI m b_31 ((gI m x0 4).toNatClampNeg)))) b_32 ((gI (sI m x0 48 ((8 * (gI m x0 4)) + (gI m b_31 ((gI m x0 4).toNatClampNeg)))) x0 48).toNatClampNeg) (gI (sI m x0 48 ((8 * (gI m x0 4)) + (gI m b_31 ((gI m x0 4).toNatClampNeg)))) x0 42)) b_33 ((gI (sI (sI m x0 48 ((8 * (gI m x0 4)) + (gI m b_31 ((gI m x0 4).toNatClampNeg)))) b_32 ((gI (sI m x0 48 ((8 * (gI m x0 4)) + (gI m b_31 ((gI m x0 4).toNatClampNeg)))) x0 48).toNatClampNeg) (gI (sI m x0 48 ((8 * (gI m x0 4)) + (gI m b_31 ((gI m x0 4).toNatClampNeg)))) x0 42)) x0 48).toNatClampNeg) (gI (sI (sI m x0 48 ((8 * (gI m x0 4)) + (gI m b_31 ((gI m x0 4).toNatClampNeg)))) b_32 ((gI (sI m x0 48 ((8 * (gI m x0 4)) + (gI m b_31 ((gI m x0 4).toNatClampNeg)))) x0 48).toNatClampNeg) (gI (sI m x0 48 ((8 * (gI m x0 4)) + (gI m b_31 ((gI m x0 4).toNatClampNeg)))) x0 42)) x0 43)) x0 48).toNatClampNeg) 0) b_35 ((gI (sI (sI (sI (sI m x0 48 ((8 * (gI m x0 4)) + (gI m b_31 ((gI m x0 4).toNatClampNeg)))) b_32 ((gI (sI m x0 48 ((8 * (gI m x0 4)) + (gI m b_31 ((gI m x0 4).toNatClampNeg)))) x0 48).toNatClampNeg) (gI (sI m x0 48 ((8 * (gI m x0 4)) + (gI m b_31 ((gI m x0 4).toNatClampNeg)))) x0 42)) b_33 ((gI (sI (sI m x0 48 ((8 * (gI m x0 4)) + (gI m b_31 ((gI m x0 4).toNatClampNeg)))) b_32 ((gI (sI m x0 48 ((8 * (gI m x0 4)) + (gI m b_31 ((gI m x0 4).toNatClampNeg)))) x0 48).toNatClampNeg) (gI (sI m x0 48 ((8 * (gI m x0 4)) + (gI m b_31 ((gI m x0 4).toNatClampNeg)))) x0 42)) x0 48).toNatClampNeg) (gI (sI (sI m x0 48 ((8 * (gI m x0 4)) + (gI m b_31 ((gI m x0 4).toNatClampNeg)))) b_32 ((gI (sI m x0 48 ((8 * (gI m x0 4)) + (gI m b_31 ((gI m x0 4).toNatClampNeg)))) x0 48).toNatClampNeg) (gI (sI m x0 48 ((8 * (gI m x0 4)) + (gI m b_31 ((gI m x0 4).toNatClampNeg)))) x0 42)) x0 43)) b_34 ((gI (sI (sI (sI m x0 48 ((8 * (gI m x0 4)) + (gI m b_31 ((gI m x0 4).toNatClampNeg)))) b_32 ((gI (sI m x0 48 ((8 * (gI m x0 4)) + (gI m b_31 ((gI m x0 4).toNatClampNeg)))) x0 48).toNatClampNeg) (gI (sI m x0 48 ((8 * (gI m x0 4)) + (gI m b_31 ((gI m x0 4).toNatClampNeg)))) x0 42)) b_33 ((gI (sI (sI m x0 48 ((8 * (gI m x0 4)) + (gI m b_31 ((gI m x0 4).toNatClampNeg)))) b_32 ((gI (sI m x0 48 ((8 * (gI m x0 4)) + (gI m b_31 ((gI m x0 4).toNatClampNeg)))) x0 48).toNatClampNeg) (gI (sI m x0 48 ((8 * (gI m x0 4)) + (gI m b_31 ((gI m x0 4).toNatClampNeg)))) x0 42)) x0 48).toNatClampNeg) (gI (sI (sI m x0 48 ((8 * (gI m x0 4)) + (gI m b_31 ((gI m x0 4).toNatClampNeg)))) b_32 ((gI (sI m x0 48 ((8 * (gI m x0 4)) + (gI m b_31 ((gI m x0 4).toNatClampNeg)))) x0 48).toNatClampNeg) (gI (sI m x0 48 ((8 * (gI m x0 4)) + (gI m b_31 ((gI m x0 4).toNatClampNeg)))) x0 42)) x0 43)) x0 48).toNatClampNeg) 0) x0 48).toNatClampNeg) 0) b_36 ((gI (sI (sI (sI (sI (sI m x0 48 ((8 * (gI m x0 4)) + (gI m b_31 ((gI m x0 4).toNatClampNeg)))) b_32 ((gI (sI m x0 48 ((8 * (gI m x0 4)) + (gI m b_31 ((gI m x0 4).toNatClampNeg)))) x0 48).toNatClampNeg) (gI (sI m x0 48 ((8 * (gI m x0 4)) + (gI m b_31 ((gI m x0 4).toNatClampNeg)))) x0 42)) b_33 ((gI (sI (sI m x0 48 ((8 * (gI m x0 4)) + (gI m b_31 ((gI m x0 4).toNatClampNeg)))) b_32 ((gI (sI m x0 48 ((8 * (gI m x0 4)) + (gI m b_31 ((gI m x0 4).toNatClampNeg)))) x0 48).toNatClampNeg) (gI (sI m x0 48 ((8 * (gI m x0 4)) + (gI m b_31 ((gI m x0 4).toNatClampNeg)))) x0 42)) x0 48).toNatClampNeg) (gI (sI (sI m x0 48 ((8 * (gI m x0 4)) + (gI m b_31 ((gI m x0 4).toNatClampNeg)))) b_32 ((gI (sI m x0 48 ((8 * (gI m x0 4)) + (gI m b_31 ((gI m x0 4).toNatClampNeg)))) x0 48).toNatClampNeg) (gI (sI m x0 48 ((8 * (gI m x0 4)) + (gI m b_31 ((gI m x0 4).toNatClampNeg)))) x0 42)) x0 43)) b_34 ((gI (sI (sI (sI m x0 48 ((8 * (gI m x0 4)) + (gI m b_31 ((gI m x0 4).toNatClampNeg)))) b_32 ((gI (sI m x0 48 ((8 * (gI m x0 4)) + (gI m b_31 ((gI m x0 4).toNatClampNeg)))) x0 48).toNatClampNeg) (gI (sI m x0 48 ((8 * (gI m x0 4)) + (gI m b_31 ((gI m x0 4).toNatClampNeg)))) x0 42)) b_33 ((gI (sI (sI m x0 48 ((8 * (gI m x0 4)) + (gI m b_31 ((gI m x0 4).toNatClampNeg)))) b_32 ((gI (sI m x0 48 ((8 * (gI m x0 4)) + (gI m b_31 ((gI m x0 4).toNatClampNeg)))) x0 48).toNatClampNeg) (gI (sI m x0 48 ((8 * (gI m x0 4)) + (gI m b_31 ((gI m x0 4).toNatClampNeg)))) x0 42)) x0 48).toNatClampNeg) (gI (sI (sI m x0 48 ((8 * (gI m x0 4)) + (gI m b_31 ((gI m x0 4).toNatClampNeg)))) b_32 ((gI (sI m x0 48 ((8 * (gI m x0 4)) + (gI m b_31 ((gI m x0 4).toNatClampNeg)))) x0 48).toNatClampNeg) (gI (sI m x0 48 ((8 * (gI m x0 4)) + (gI m b_31 ((gI m x0 4).toNatClampNeg)))) x0 42)) x0 43)) x0 48).toNatClampNeg) 0) b_35 ((gI (sI (sI (sI (sI m x0 48 ((8 * (gI m x0 4)) + (gI m b_31 ((gI m x0 4).toNatClampNeg)))) b_32 ((gI (sI m x0 48 ((8 * (gI m x0 4)) + (gI m b_31 ((gI m x0 4).toNatClampNeg)))) x0 48).toNatClampNeg) (gI (sI m x0 48 ((8 * (gI m x0 4)) + (gI m b_31 ((gI m x0 4).toNatClampNeg)))) x0 42)) b_33 ((gI (sI (sI m x0 48 ((8 * (gI m x0 4)) + (gI m b_31 ((gI m x0 4).toNatClampNeg)))) b_32 ((gI (sI m x0 48 ((8 * (gI m x0 4)) + (gI m b_31 ((gI m x0 4).toNatClampNeg)))) x0 48).toNatClampNeg) (gI (sI m x0 48 ((8 * (gI m x0 4)) + (gI m b_31 ((gI m x0 4).toNatClampNeg)))) x0 42)) x0 48).toNatClampNeg) (gI (sI (sI m x0 48 ((8 * (gI m x0 4)) + (gI m b_31 ((gI m x0 4).toNatClampNeg)))) b_32 ((gI (sI m x0 48 ((8 * (gI m x0 4)) + (gI m b_31 ((gI m x0 4).toNatClampNeg)))) x0 48).toNatClampNeg) (gI (sI m x0 48 ((8 * (gI m x0 4)) + (gI m b_31 ((gI m x0 4).toNatClampNeg)))) x0 42)) x0 43)) b_34 ((gI (sI (sI (sI m x0 48 ((8 * (gI m x0 4)) + (gI m b_31 ((gI m x0 4).toNatClampNeg)))) b_32 ((gI (sI m x0 48 ((8 * (gI m x0 4)) + (gI m b_31 ((gI m x0 4).toNatClampNeg)))) x0 48).toNatClampNeg) (gI (sI m x0 48 ((8 * (gI m x0 4)) + (gI m b_31 ((gI m x0 4).toNatClampNeg)))) x0 42)) b_33 ((gI (sI (sI m x0 48 ((8 * (gI m x0 4)) + (gI m b_31 ((gI m x0 4).toNatClampNeg)))) b_32 ((gI (sI m x0 48 ((8 * (gI m x0 4)) + (gI m b_31 ((gI m x0 4).toNatClampNeg)))) x0 48).toNatClampNeg) (gI (sI m x0 48 ((8 * (gI m x0 4)) + (gI m b_31 ((gI m x0 4).toNatClampNeg)))) x0 42)) x0 48).toNatClampNeg) (gI (sI (sI m x0 48 ((8 * (gI m x0 4)) + (gI m b_31 ((gI m x0 4).toNatClampNeg)))) b_32 ((gI (sI m x0 48 ((8 * (gI m x0 4)) + (gI m b_31 ((gI m x0 4).toNatClampNeg)))) x0 48).toNatClampNeg) (gI (sI m x0 48 ((8 * (gI m x0 4)) + (gI m b_31 ((gI m x0 4).toNatClampNeg)))) x0 42)) x0 43)) x0 48).toNatClampNeg) 0) x0 48).toNatClampNeg) 0) x0 48).toNatClampNeg) 0) x0 48).toNatClampNeg) (-1)) x0 48).toNatClampNeg) (-1)) x0 4).toNatClampNeg) ((gI (sI (sI (sI (sI (sI (sI (sI (sI m x0 48 ((8 * (gI m x0 4)) + (gI m b_31 ((gI m x0 4).toNatClampNeg)))) b_32 ((gI (sI m x0 48 ((8 * (gI m x0 4)) + (gI m b_31 ((gI m x0 4).toNatClampNeg)))) x0 48).toNatClampNeg) (gI (sI m x0 48 ((8 * (gI m x0 4)) + (gI m b_31 ((gI m x0 4).toNatClampNeg)))) x0 42)) b_33 ((gI (sI (sI m x0 48 ((8 * (gI m x0 4)) + (gI m b_31 ((gI m x0 4).toNatClampNeg)))) b_32 ((gI (sI m x0 48 ((8 * (gI m x0 4)) + (gI m b_31 ((gI m x0 4).toNatClampNeg)))) x0 48).toNatClampNeg) (gI (sI m x0 48 ((8 * (gI m x0 4)) + (gI m b_31 ((gI m x0 4).toNatClampNeg)))) x0 42)) x0 48).toNatClampNeg) (gI (sI (sI m x0 48 ((8 * (gI m x0 4)) + (gI m b_31 ((gI m x0 4).toNatClampNeg)))) b_32 ((gI (sI m x0 48 ((8 * (gI m x0 4)) + (gI m b_31 ((gI m x0 4).toNatClampNeg)))) x0 48).toNatClampNeg) (gI (sI m x0 48 ((8 * (gI m x0 4)) + (gI m b_31 ((gI m x0 4).toNatClampNeg)))) x0 42)) x0 43)) b_34 ((gI (sI (sI (sI m x0 48 ((8 * (gI m x0 4)) + (gI m b_31 ((gI m x0 4).toNatClampNeg)))) b_32 ((gI (sI m x0 48 ((8 * (gI m x0 4)) + (gI m b_31 ((gI m x0 4).toNatClampNeg)))) x0 48).toNatClampNeg) (gI (sI m x0 48 ((8 * (gI m x0 4)) + (gI m b_31 ((gI m x0 4).toNatClampNeg)))) x0 42)) b_33 ((gI (sI (sI m x0 48 ((8 * (gI m x0 4)) + (gI m b_31 ((gI m x0 4).toNatClampNeg)))) b_32 ((gI (sI m x0 48 ((8 * (gI m x0 4)) + (gI m b_31 ((gI m x0 4).toNatClampNeg)))) x0 48).toNatClampNeg) (gI (sI m x0 48 ((8 * (gI m x0 4)) + (gI m b_31 ((gI m x0 4).toNatClampNeg)))) x0 42)) x0 48).toNatClampNeg) (gI (sI (sI m x0 48 ((8 * (gI m x0 4)) + (gI m b_31 ((gI m x0 4).toNatClampNeg)))) b_32 ((gI (sI m x0 48 ((8 * (gI m x0 4)) + (gI m b_31 ((gI m x0 4).toNatClampNeg)))) x0 48).toNatClampNeg) (gI (sI m x0 48 ((8 * (gI m x0 4)) + (gI m b_31 ((gI m x0 4).toNatClampNeg)))) x0 42)) x0 43)) x0 48).toNatClampNeg) 0) b_35 ((gI (sI (sI (sI (sI m x0 48 ((8 * (gI m x0 4)) + (gI m b_31 ((gI m x0 4).toNatClampNeg)))) b_32 ((gI (sI m x0 48 ((8 * (gI m x0 4)) + (gI m b_31 ((gI m x0 4).toNatClampNeg)))) x0 48).toNatClampNeg) (gI (sI m x0 48 ((8 * (gI m x0 4)) + (gI m b_31 ((gI m x0 4).toNatClampNeg)))) x0 42)) b_33 ((gI (sI (sI m x0 48 ((8 * (gI m x0 4)) + (gI m b_31 ((gI m x0 4).toNatClampNeg)))) b_32 ((gI (sI m x0 48 ((8 * (gI m x0 4)) + (gI m b_31 ((gI m x0 4).toNatClampNeg)))) x0 48).toNatClampNeg) (gI (sI m x0 48 ((8 * (gI m x0 4)) + (gI m b_31 ((gI m x0 4).toNatClampNeg)))) x0 42)) x0 48).toNatClampNeg) (gI (sI (sI m x0 48 ((8 * (gI m x0 4)) + (gI m b_31 ((gI m x0 4).toNatClampNeg)))) b_32 ((gI (sI m x0 48 ((8 * (gI m x0 4)) + (gI m b_31 ((gI m x0 4).toNatClampNeg)))) x0 48).toNatClampNeg) (gI (sI m x0 48 ((8 * (gI m x0 4)) + (gI m b_31 ((gI m x0 4).toNatClampNeg)))) x0 42)) x0 43)) b_34 ((gI (sI (sI (sI m x0 48 ((8 * (gI m x0 4)) + (gI m b_31 ((gI m x0 4).toNatClampNeg)))) b_32 ((gI (sI m x0 48 ((8 * (gI m x0 4)) + (gI m b_31 ((gI m x0 4).toNatClampNeg)))) x0 48).toNatClampNeg) (gI (sI m x0 48 ((8 * (gI m x0 4)) + (gI m b_31 ((gI m x0 4).toNatClampNeg)))) x0 42)) b_33 ((gI (sI (sI m x0 48 ((8 * (gI m x0 4)) + (gI m b_31 ((gI m x0 4).toNatClampNeg)))) b_32 ((gI (sI m x0 48 ((8 * (gI m x0 4)) + (gI m b_31 ((gI m x0 4).toNatClampNeg)))) x0 48).toNatClampNeg) (gI (sI m x0 48 ((8 * (gI m x0 4)) + (gI m b_31 ((gI m x0 4).toNatClampNeg)))) x0 42)) x0 48).toNatClampNeg) (gI (sI (sI m x0 48 ((8 * (gI m x0 4)) + (gI m b_31 ((gI m x0 4).toNatClampNeg)))) b_32 ((gI (sI m x0 48 ((8 * (gI m x0 4)) + (gI m b_31 ((gI m x0 4).toNatClampNeg)))) x0 48).toNatClampNeg) (gI (sI m x0 48 ((8 * (gI m x0 4)) + (gI m b_31 ((gI m x0 4).toNatClampNeg)))) x0 42)) x0 43)) x0 48).toNatClampNeg) 0) x0 48).toNatClampNeg) 0) b_36 ((gI (sI (sI (sI (sI (sI m x0 48 ((8 * (gI m x0 4)) + (gI m b_31 ((gI m x0 4).toNatClampNeg)))) b_32 ((gI (sI m x0 48 ((8 * (gI m x0 4)) + (gI m b_31 ((gI m x0 4).toNatClampNeg)))) x0 48).toNatClampNeg) (gI (sI m x0 48 ((8 * (gI m x0 4)) + (gI m b_31 ((gI m x0 4).toNatClampNeg)))) x0 42)) b_33 ((gI (sI (sI m x0 48 ((8 * (gI m x0 4)) + (gI m b_31 ((gI m x0 4).toNatClampNeg)))) b_32 ((gI (sI m x0 48 ((8 * (gI m x0 4)) + (gI m b_31 ((gI m x0 4).toNatClampNeg)))) x0 48).toNatClampNeg) (gI (sI m x0 48 ((8 * (gI m x0 4)) + (gI m b_31 ((gI m x0 4).toNatClampNeg)))) x0 42)) x0 48).toNatClampNeg) (gI (sI (sI m x0 48 ((8 * (gI m x0 4)) + (gI m b_31 ((gI m x0 4).toNatClampNeg)))) b_32 ((gI (sI m x0 48 ((8 * (gI m x0 4)) + (gI m b_31 ((gI m x0 4).toNatClampNeg)))) x0 48).toNatClampNeg) (gI (sI m x0 48 ((8 * (gI m x0 4)) + (gI m b_31 ((gI m x0 4).toNatClampNeg)))) x0 42)) x0 43)) b_34 ((gI (sI (sI (sI m x0 48 ((8 * (gI m x0 4)) + (gI m b_31 ((gI m x0 4).toNatClampNeg)))) b_32 ((gI (sI m x0 48 ((8 * (gI m x0 4)) + (gI m b_31 ((gI m x0 4).toNatClampNeg)))) x0 48).toNatClampNeg) (gI (sI m x0 48 ((8 * (gI m x0 4)) + (gI m b_31 ((gI m x0 4).toNatClampNeg)))) x0 42)) b_33 ((gI (sI (sI m x0 48 ((8 * (gI m x0 4)) + (gI m b_31 ((gI m x0 4).toNatClampNeg)))) b_32 ((gI (sI m x0 48 ((8 * (gI m x0 4)) + (gI m b_31 ((gI m x0 4).toNatClampNeg)))) x0 48).toNatClampNeg) (gI (sI m x0 48 ((8 * (gI m x0 4)) + (gI m b_31 ((gI m x0 4).toNatClampNeg)))) x0 42)) x0 48).toNatClampNeg) (gI (sI (sI m x0 48 ((8 * (gI m x0 4)) + (gI m b_31 ((gI m x0 4).toNatClampNeg)))) b_32 ((gI (sI m x0 48 ((8 * (gI m x0 4)) + (gI m b_31 ((gI m x0 4).toNatClampNeg)))) x0 48).toNatClampNeg) (gI (sI m x0 48 ((8 * (gI m x0 4)) + (gI m b_31 ((gI m x0 4).toNatClampNeg)))) x0 42)) x0 43)) x0 48).toNatClampNeg) 0) b_35 ((gI (sI (sI (sI (sI m x0 48 ((8 * (gI m x0 4)) + (gI m b_31 ((gI m x0 4).toNatClampNeg)))) b_32 ((gI (sI m x0 48 ((8 * (gI m x0 4)) + (gI m b_31 ((gI m x0 4).toNatClampNeg)))) x0 48).toNatClampNeg) (gI (sI m x0 48 ((8 * (gI m x0 4)) + (gI m b_31 ((gI m x0 4).toNatClampNeg)))) x0 42)) b_33 ((gI (sI (sI m x0 48 ((8 * (gI m x0 4)) + (gI m b_31 ((gI m x0 4).toNatClampNeg)))) b_32 ((gI (sI m x0 48 ((8 * (gI m x0 4)) + (gI m b_31 ((gI m x0 4).toNatClampNeg)))) x0 48).toNatClampNeg) (gI (sI m x0 48 ((8 * (gI m x0 4)) + (gI m b_31 ((gI m x0 4).toNatClampNeg)))) x0 42)) x0 48).toNatClampNeg) (gI (sI (sI m x0 48 ((8 * (gI m x0 4)) + (gI m b_31 ((gI m x0 4).toNatClampNeg)))) b_32 ((gI (sI m x0 48 ((8 * (gI m x0 4)) + (gI m b_31 ((gI m x0 4).toNatClampNeg)))) x0 48).toNatClampNeg) (gI (sI m x0 48 ((8 * (gI m x0 4)) + (gI m b_31 ((gI m x0 4).toNatClampNeg)))) x0 42)) x0 43)) b_34 ((gI (sI (sI (sI m x0 48 ((8 * (gI m x0 4)) + (gI m b_31 ((gI m x0 4).toNatClampNeg)))) b_32 ((gI (sI m x0 48 ((8 * (gI m x0 4)) + (gI m b_31 ((gI m x0 4).toNatClampNeg)))) x0 48).toNatClampNeg) (gI (sI m x0 48 ((8 * (gI m x0 4)) + (gI m b_31 ((gI m x0 4).toNatClampNeg)))) x0 42)) b_33 ((gI (sI (sI m x0 48 ((8 * (gI m x0 4)) + (gI m b_31 ((gI m x0 4).toNatClampNeg)))) b_32 ((gI (sI m x0 48 ((8 * (gI m x0 4)) + (gI m b_31 ((gI m x0 4).toNatClampNeg)))) x0 48).toNatClampNeg) (gI (sI m x0 48 ((8 * (gI m x0 4)) + (gI m b_31 ((gI m x0 4).toNatClampNeg)))) x0 42)) x0 48).toNatClampNeg) (gI (sI (sI m x0 48 ((8 * (gI m x0 4)) + (gI m b_31 ((gI m x0 4).toNatClampNeg)))) b_32 ((gI (sI m x0 48 ((8 * (gI m x0 4)) + (gI m b_31 ((gI m x0 4).toNatClampNeg)))) x0 48).toNatClampNeg) (gI (sI m x0 48 ((8 * (gI m x0 4)) + (gI m b_31 ((gI m x0 4).toNatClampNeg)))) x0 42)) x0 43)) x0 48).toNatClampNeg) 0) x0 48).toNatClampNeg) 0) x0 48).toNatClampNeg) 0) b_37 ((gI (sI (sI (sI (sI (sI (sI m x0 48 ((8 * (gI m x0 4)) + (gI m b_31 ((gI m x0 4).toNatClampNeg)))) b_32 ((gI (sI m x0 48 ((8 * (gI m x0 4)) + (gI m b_31 ((gI m x0 4).toNatClampNeg)))) x0 48).toNatClampNeg) (gI (sI m x0 48 ((8 * (gI m x0 4)) + (gI m b_31 ((gI m x0 4).toNatClampNeg)))) x0 42)) b_33 ((gI (sI (sI m x0 48 ((8 * (gI m x0 4)) + (gI m b_31 ((gI m x0 4).toNatClampNeg)))) b_32 ((gI (sI m x0 48 ((8 * (gI m x0 4)) + (gI m b_31 ((gI m x0 4).toNatClampNeg)))) x0 48).toNatClampNeg) (gI (sI m x0 48 ((8 * (gI m x0 4)) + (gI m b_31 ((gI m x0 4).toNatClampNeg)))) x0 42)) x0 48).toNatClampNeg) (gI (sI (sI m x0 48 ((8 * (gI m x0 4)) + (gI m b_31 ((gI m x0 4).toNatClampNeg)))) b_32 ((gI (sI m x0 48 ((8 * (gI m x0 4)) + (gI m b_31 ((gI m x0 4).toNatClampNeg)))) x0 48).toNatClampNeg) (gI (sI m x0 48 ((8 * (gI m x0 4)) + (gI m b_31 ((gI m x0 4).toNatClampNeg)))) x0 42)) x0 43)) b_34 ((gI (sI (sI (sI m x0 48 ((8 * (gI m x0 4)) + (gI m b_31 ((gI m x0 4).toNatClampNeg)))) b_32 ((gI (sI m x0 48 ((8 * (gI m x0 4)) + (gI m b_31 ((gI m x0 4).toNatClampNeg)))) x0 48).toNatClampNeg) (gI (sI m x0 48 ((8 * (gI m x0 4)) + (gI m b_31 ((gI m x0 4).toNatClampNeg)))) x0 42)) b_33 ((gI (sI (sI m x0 48 ((8 * (gI m x0 4)) + (gI m b_31 ((gI m x0 4).toNatClampNeg)))) b_32 ((gI (sI m x0 48 ((8 * (gI m x0 4)) + (gI m b_31 ((gI m x0 4).toNatClampNeg)))) x0 48).toNatClampNeg) (gI (sI m x0 48 ((8 * (gI m x0 4)) + (gI m b_31 ((gI m x0 4).toNatClampNeg)))) x0 42)) x0 48).toNatClampNeg) (gI (sI (sI m x0 48 ((8 * (gI m x0 4)) + (gI m b_31 ((gI m x0 4).toNatClampNeg)))) b_32 ((gI (sI m x0 48 ((8 * (gI m x0 4)) + (gI m b_31 ((gI m x0 4).toNatClampNeg)))) x0 48).toNatClampNeg) (gI (sI m x0 48 ((8 * (gI m x0 4)) + (gI m b_31 ((gI m x0 4).toNatClampNeg)))) x0 42)) x0 43)) x0 48).toNatClampNeg) 0) b_35 ((gI (sI (sI (sI (sI m x0 48 ((8 * (gI m x0 4)) + (gI m b_31 ((gI m x0 4).toNatClampNeg)))) b_32 ((gI (sI m x0 48 ((8 * (gI m x0 4)) + (gI m b_31 ((gI m x0 4).toNatClampNeg)))) x0 48).toNatClampNeg) (gI (sI m x0 48 ((8 * (gI m x0 4)) + (gI m b_31 ((gI m x0 4).toNatClampNeg)))) x0 42)) b_33 ((gI (sI (sI m x0 48 ((8 * (gI m x0 4)) + (gI m b_31 ((gI m x0 4).toNatClampNeg)))) b_32 ((gI (sI m x0 48 ((8 * (gI m x0 4)) + (gI m b_31 ((gI m x0 4).toNatClampNeg)))) x0 48).toNatClampNeg) (gI (sI m x0 48 ((8 * (gI m x0 4)) + (gI m b_31 ((gI m x0 4).toNatClampNeg)))) x0 42)) x0 48).toNatClampNeg) (gI (sI (sI m x0 48 ((8 * (gI m x0 4)) + (gI m b_31 ((gI m x0 4).toNatClampNeg)))) b_32 ((gI (sI m x0 48 ((8 * (gI m x0 4)) + (gI m b_31 ((gI m x0 4).toNatClampNeg)))) x0 48).toNatClampNeg) (gI (sI m x0 48 ((8 * (gI m x0 4)) + (gI m b_31 ((gI m x0 4).toNatClampNeg)))) x0 42)) x0 43)) b_34 ((gI (sI (sI (sI m x0 48 ((8 * (gI m x0 4)) + (gI m b_31 ((gI m x0 4).toNatClampNeg)))) b_32 ((gI (sI m x0 48 ((8 * (gI m x0 4)) + (gI m b_31 ((gI m x0 4).toNatClampNeg)))) x0 48).toNatClampNeg) (gI (sI m x0 48 ((8 * (gI m x0 4)) + (gI m b_31 ((gI m x0 4).toNatClampNeg)))) x0 42)) b_33 ((gI (sI (sI m x0 48 ((8 * (gI m x0 4)) + (gI m b_31 ((gI m x0 4).toNatClampNeg)))) b_32 ((gI (sI m x0 48 ((8 * (gI m x0 4)) + (gI m b_31 ((gI m x0 4).toNatClampNeg)))) x0 48).toNatClampNeg) (gI (sI m x0 48 ((8 * (gI m x0 4)) + (gI m b_31 ((gI m x0 4).toNatClampNeg)))) x0 42)) x0 48).toNatClampNeg) (gI (sI (sI m x0 48 ((8 * (gI m x0 4)) + (gI m b_31 ((gI m x0 4).toNatClampNeg)))) b_32 ((gI (sI m x0 48 ((8 * (gI m x0 4)) + (gI m b_31 ((gI m x0 4).toNatClampNeg)))) x0 48).toNatClampNeg) (gI (sI m x0 48 ((8 * (gI m x0 4)) + (gI m b_31 ((gI m x0 4).toNatClampNeg)))) x0 42)) x0 43)) x0 48).toNatClampNeg) 0) x0 48).toNatClampNeg) 0) b_36 ((gI (sI (sI (sI (sI (sI m x0 48 ((8 * (gI m x0 4)) + (gI m b_31 ((gI m x0 4).toNatClampNeg)))) b_32 ((gI (sI m x0 48 ((8 * (gI m x0 4)) + (gI m b_31 ((gI m x0 4).toNatClampNeg)))) x0 48).toNatClampNeg) (gI (sI m x0 48 ((8 * (gI m x0 4)) + (gI m b_31 ((gI m x0 4).toNatClampNeg)))) x0 42)) b_33 ((gI (sI (sI m x0 48 ((8 * (gI m x0 4)) + (gI m b_31 ((gI m x0 4).toNatClampNeg)))) b_32 ((gI (sI m x0 48 ((8 * (gI m x0 4)) + (gI m b_31 ((gI m x0 4).toNatClampNeg)))) x0 48).toNatClampNeg) (gI (sI m x0 48 ((8 * (gI m x0 4)) + (gI m b_31 ((gI m x0 4).toNatClampNeg)))) x0 42)) x0 48).toNatClampNeg) (gI (sI (sI m x0 48 ((8 * (gI m x0 4)) + (gI m b_31 ((gI m x0 4).toNatClampNeg)))) b_32 ((gI (sI m x0 48 ((8 * (gI m x0 4)) + (gI m b_31 ((gI m x0 4).toNatClampNeg)))) x0 48).toNatClampNeg) (gI (sI m x0 48 ((8 * (gI m x0 4)) + (gI m b_31 ((gI m x0 4).toNatClampNeg)))) x0 42)) x0 43)) b_34 ((gI (sI (sI (sI m x0 48 ((8 * (gI m x0 4)) + (gI m b_31 ((gI m x0 4).toNatClampNeg)))) b_32 ((gI (sI m x0 48 ((8 * (gI m x0 4)) + (gI m b_31 ((gI m x0 4).toNatClampNeg)))) x0 48).toNatClampNeg) (gI (sI m x0 48 ((8 * (gI m x0 4)) + (gI m b_31 ((gI m x0 4).toNatClampNeg)))) x0 42)) b_33 ((gI (sI (sI m x0 48 ((8 * (gI m x0 4)) + (gI m b_31 ((gI m x0 4).toNatClampNeg)))) b_32 ((gI (sI m x0 48 ((8 * (gI m x0 4)) + (gI m b_31 ((gI m x0 4).toNatClampNeg)))) x0 48).toNatClampNeg) (gI (sI m x0 48 ((8 * (gI m x0 4)) + (gI m b_31 ((gI m x0 4).toNatClampNeg)))) x0 42)) x0 48).toNatClampNeg) (gI (sI (sI m x0 48 ((8 * (gI m x0 4)) + (gI m b_31 ((gI m x0 4).toNatClampNeg)))) b_32 ((gI (sI m x0 48 ((8 * (gI m x0 4)) + (gI m b_31 ((gI m x0 4).toNatClampNeg)))) x0 48).toNatClampNeg) (gI (sI m x0 48 ((8 * (gI m x0 4)) + (gI m b_31 ((gI m x0 4).toNatClampNeg)))) x0 42)) x0 43)) x0 48).toNatClampNeg) 0) b_35 ((gI (sI (sI (sI (sI m x0 48 ((8 * (gI m x0 4)) + (gI m b_31 ((gI m x0 4).toNatClampNeg)))) b_32 ((gI (sI m x0 48 ((8 * (gI m x0 4)) + (gI m b_31 ((gI m x0 4).toNatClampNeg)))) x0 48).toNatClampNeg) (gI (sI m x0 48 ((8 * (gI m x0 4)) + (gI m b_31 ((gI m x0 4).toNatClampNeg)))) x0 42)) b_33 ((gI (sI (sI m x0 48 ((8 * (gI m x0 4)) + (gI m b_31 ((gI m x0 4).toNatClampNeg)))) b_32 ((gI (sI m x0 48 ((8 * (gI m x0 4)) + (gI m b_31 ((gI m x0 4).toNatClampNeg)))) x0 48).toNatClampNeg) (gI (sI m x0 48 ((8 * (gI m x0 4)) + (gI m b_31 ((gI m x0 4).toNatClampNeg)))) x0 42)) x0 48).toNatClampNeg) (gI (sI (sI m x0 48 ((8 * (gI m x0 4)) + (gI m b_31 ((gI m x0 4).toNatClampNeg)))) b_32 ((gI (sI m x0 48 ((8 * (gI m x0 4)) + (gI m b_31 ((gI m x0 4).toNatClampNeg)))) x0 48).toNatClampNeg) (gI (sI m x0 48 ((8 * (gI m x0 4)) + (gI m b_31 ((gI m x0 4).toNatClampNeg)))) x0 42)) x0 43)) b_34 ((gI (sI (sI (sI m x0 48 ((8 * (gI m x0 4)) + (gI m b_31 ((gI m x0 4).toNatClampNeg)))) b_32 ((gI (sI m x0 48 ((8 * (gI m x0 4)) + (gI m b_31 ((gI m x0 4).toNatClampNeg)))) x0 48).toNatClampNeg) (gI (sI m x0 48 ((8 * (gI m x0 4)) + (gI m b_31 ((gI m x0 4).toNatClampNeg)))) x0 42)) b_33 ((gI (sI (sI m x0 48 ((8 * (gI m x0 4)) + (gI m b_31 ((gI m x0 4).toNatClampNeg)))) b_32 ((gI (sI m x0 48 ((8 * (gI m x0 4)) + (gI m b_31 ((gI m x0 4).toNatClampNeg)))) x0 48).toNatClampNeg) (gI (sI m x0 48 ((8 * (gI m x0 4)) + (gI m b_31 ((gI m x0 4).toNatClampNeg)))) x0 42)) x0 48).toNatClampNeg) (gI (sI (sI m x0 48 ((8 * (gI m x0 4)) + (gI m b_31 ((gI m x0 4).toNatClampNeg)))) b_32 ((gI (sI m x0 48 ((8 * (gI m x0 4)) + (gI m b_31 ((gI m x0 4).toNatClampNeg)))) x0 48).toNatClampNeg) (gI (sI m x0 48 ((8 * (gI m x0 4)) + (gI m b_31 ((gI m x0 4).toNatClampNeg)))) x0 42)) x0 43)) x0 48).toNatClampNeg) 0) x0 48).toNatClampNeg) 0) x0 48).toNatClampNeg) 0) x0 48).toNatClampNeg) (-1)) b_38 ((gI (sI (sI (sI (sI (sI (sI (sI m x0 48 ((8 * (gI m x0 4)) + (gI m b_31 ((gI m x0 4).toNatClampNeg)))) b_32 ((gI (sI m x0 48 ((8 * (gI m x0 4)) + (gI m b_31 ((gI m x0 4).toNatClampNeg)))) x0 48).toNatClampNeg) (gI (sI m x0 48 ((8 * (gI m x0 4)) + (gI m b_31 ((gI m x0 4).toNatClampNeg)))) x0 42)) b_33 ((gI (sI (sI m x0 48 ((8 * (gI m x0 4)) + (gI m b_31 ((gI m x0 4).toNatClampNeg)))) b_32 ((gI (sI m x0 48 ((8 * (gI m x0 4)) + (gI m b_31 ((gI m x0 4).toNatClampNeg)))) x0 48).toNatClampNeg) (gI (sI m x0 48 ((8 * (gI m x0 4)) + (gI m b_31 ((gI m x0 4).toNatClampNeg)))) x0 42)) x0 48).toNatClampNeg) (gI (sI (sI m x0 48 ((8 * (gI m x0 4)) + (gI m b_31 ((gI m x0 4).toNatClampNeg)))) b_32 ((gI (sI m x0 48 ((8 * (gI m x0 4)) + (gI m b_31 ((gI m x0 4).toNatClampNeg)))) x0 48).toNatClampNeg) (gI (sI m x0 48 ((8 * (gI m x0 4)) + (gI m b_31 ((gI m x0 4).toNatClampNeg)))) x0 42)) x0 43)) b_34 ((gI (sI (sI (sI m x0 48 ((8 * (gI m x0 4)) + (gI m b_31 ((gI m x0 4).toNatClampNeg)))) b_32 ((gI (sI m x0 48 ((8 * (gI m x0 4)) + (gI m b_31 ((gI m x0 4).toNatClampNeg)))) x0 48).toNatClampNeg) (gI (sI m x0 48 ((8 * (gI m x0 4)) + (gI m b_31 ((gI m x0 4).toNatClampNeg)))) x0 42)) b_33 ((gI (sI (sI m x0 48 ((8 * (gI m x0 4)) + (gI m b_31 ((gI m x0 4).toNatClampNeg)))) b_32 ((gI (sI m x0 48 ((8 * (gI m x0 4)) + (gI m b_31 ((gI m x0 4).toNatClampNeg)))) x0 48).toNatClampNeg) (gI (sI m x0 48 ((8 * (gI m x0 4)) + (gI m b_31 ((gI m x0 4).toNatClampNeg)))) x0 42)) x0 48).toNatClampNeg) (gI (sI (sI m x0 48 ((8 * (gI m x0 4)) + (gI m b_31 ((gI m x0 4).toNatClampNeg)))) b_32 ((gI (sI m x0 48 ((8 * (gI m x0 4)) + (gI m b_31 ((gI m x0 4).toNatClampNeg)))) x0 48).toNatClampNeg) (gI (sI m x0 48 ((8 * (gI m x0 4)) + (gI m b_31 ((gI m x0 4).toNatClampNeg)))) x0 42)) x0 43)) x0 48).toNatClampNeg) 0) b_35 ((gI (sI (sI (sI (sI m x0 48 ((8 * (gI m x0 4)) + (gI m b_31 ((gI m x0 4).toNatClampNeg)))) b_32 ((gI (sI m x0 48 ((8 * (gI m x0 4)) + (gI m b_31 ((gI m x0 4).toNatClampNeg)))) x0 48).toNatClampNeg) (gI (sI m x0 48 ((8 * (gI m x0 4)) + (gI m b_31 ((gI m x0 4).toNatClampNeg)))) x0 42)) b_33 ((gI (sI (sI m x0 48 ((8 * (gI m x0 4)) + (gI m b_31 ((gI m x0 4).toNatClampNeg)))) b_32 ((gI (sI m x0 48 ((8 * (gI m x0 4)) + (gI m b_31 ((gI m x0 4).toNatClampNeg)))) x0 48).toNatClampNeg) (gI (sI m x0 48 ((8 * (gI m x0 4)) + (gI m b_31 ((gI m x0 4).toNatClampNeg)))) x0 42)) x0 48).toNatClampNeg) (gI (sI (sI m x0 48 ((8 * (gI m x0 4)) + (gI m b_31 ((gI m x0 4).toNatClampNeg)))) b_32 ((gI (sI m x0 48 ((8 * (gI m x0 4)) + (gI m b_31 ((gI m x0 4).toNatClampNeg)))) x0 48).toNatClampNeg) (gI (sI m x0 48 ((8 * (gI m x0 4)) + (gI m b_31 ((gI m x0 4).toNatClampNeg)))) x0 42)) x0 43)) b_34 ((gI (sI (sI (sI m x0 48 ((8 * (gI m x0 4)) + (gI m b_31 ((gI m x0 4).toNatClampNeg)))) b_32 ((gI (sI m x0 48 ((8 * (gI m x0 4)) + (gI m b_31 ((gI m x0 4).toNatClampNeg)))) x0 48).toNatClampNeg) (gI (sI m x0 48 ((8 * (gI m x0 4)) + (gI m b_31 ((gI m x0 4).toNatClampNeg)))) x0 42)) b_33 ((gI (sI (sI m x0 48 ((8 * (gI m x0 4)) + (gI m b_31 ((gI m x0 4).toNatClampNeg)))) b_32 ((gI (sI m x0 48 ((8 * (gI m x0 4)) + (gI m b_31 ((gI m x0 4).toNatClampNeg)))) x0 48).toNatClampNeg) (gI (sI m x0 48 ((8 * (gI m x0 4)) + (gI m b_31 ((gI m x0 4).toNatClampNeg)))) x0 42)) x0 48).toNatClampNeg) (gI (sI (sI m x0 48 ((8 * (gI m x0 4)) + (gI m b_31 ((gI m x0 4).toNatClampNeg)))) b_32 ((gI (sI m x0 48 ((8 * (gI m x0 4)) + (gI m b_31 ((gI m x0 4).toNatClampNeg)))) x0 48).toNatClampNeg) (gI (sI m x0 48 ((8 * (gI m x0 4)) + (gI m b_31 ((gI m x0 4).toNatClampNeg)))) x0 42)) x0 43)) x0 48).toNatClampNeg) 0) x0 48).toNatClampNeg) 0) b_36 ((gI (sI (sI (sI (sI (sI m x0 48 ((8 * (gI m x0 4)) + (gI m b_31 ((gI m x0 4).toNatClampNeg)))) b_32 ((gI (sI m x0 48 ((8 * (gI m x0 4)) + (gI m b_31 ((gI m x0 4).toNatClampNeg)))) x0 48).toNatClampNeg) (gI (sI m x0 48 ((8 * (gI m x0 4)) + (gI m b_31 ((gI m x0 4).toNatClampNeg)))) x0 42)) b_33 ((gI (sI (sI m x0 48 ((8 * (gI m x0 4)) + (gI m b_31 ((gI m x0 4).toNatClampNeg)))) b_32 ((gI (sI m x0 48 ((8 * (gI m x0 4)) + (gI m b_31 ((gI m x0 4).toNatClampNeg)))) x0 48).toNatClampNeg) (gI (sI m x0 48 ((8 * (gI m x0 4)) + (gI m b_31 ((gI m x0 4).toNatClampNeg)))) x0 42)) x0 48).toNatClampNeg) (gI (sI (sI m x0 48 ((8 * (gI m x0 4)) + (gI m b_31 ((gI m x0 4).toNatClampNeg)))) b_32 ((gI (sI m x0 48 ((8 * (gI m x0 4)) + (gI m b_31 ((gI m x0 4).toNatClampNeg)))) x0 48).toNatClampNeg) (gI (sI m x0 48 ((8 * (gI m x0 4)) + (gI m b_31 ((gI m x0 4).toNatClampNeg)))) x0 42)) x0 43)) b_34 ((gI (sI (sI (sI m x0 48 ((8 * (gI m x0 4)) + (gI m b_31 ((gI m x0 4).toNatClampNeg)))) b_32 ((gI (sI m x0 48 ((8 * (gI m x0 4)) + (gI m b_31 ((gI m x0 4).toNatClampNeg)))) x0 48).toNatClampNeg) (gI (sI m x0 48 ((8 * (gI m x0 4)) + (gI m b_31 ((gI m x0 4).toNatClampNeg)))) x0 42)) b_33 ((gI (sI (sI m x0 48 ((8 * (gI m x0 4)) + (gI m b_31 ((gI m x0 4).toNatClampNeg)))) b_32 ((gI (sI m x0 48 ((8 * (gI m x0 4)) + (gI m b_31 ((gI m x0 4).toNatClampNeg)))) x0 48).toNatClampNeg) (gI (sI m x0 48 ((8 * (gI m x0 4)) + (gI m b_31 ((gI m x0 4).toNatClampNeg)))) x0 42)) x0 48).toNatClampNeg) (gI (sI (sI m x0 48 ((8 * (gI m x0 4)) + (gI m b_31 ((gI m x0 4).toNatClampNeg)))) b_32 ((gI (sI m x0 48 ((8 * (gI m x0 4)) + (gI m b_31 ((gI m x0 4).toNatClampNeg)))) x0 48).toNatClampNeg) (gI (sI m x0 48 ((8 * (gI m x0 4)) + (gI m b_31 ((gI m x0 4).toNatClampNeg)))) x0 42)) x0 43)) x0 48).toNatClampNeg) 0) b_35 ((gI (sI (sI (sI (sI m x0 48 ((8 * (gI m x0 4)) + (gI m b_31 ((gI m x0 4).toNatClampNeg)))) b_32 ((gI (sI m x0 48 ((8 * (gI m x0 4)) + (gI m b_31 ((gI m x0 4).toNatClampNeg)))) x0 48).toNatClampNeg) (gI (sI m x0 48 ((8 * (gI m x0 4)) + (gI m b_31 ((gI m x0 4).toNatClampNeg)))) x0 42)) b_33 ((gI (sI (sI m x0 48 ((8 * (gI m x0 4)) + (gI m b_31 ((gI m x0 4).toNatClampNeg)))) b_32 ((gI (sI m x0 48 ((8 * (gI m x0 4)) + (gI m b_31 ((gI m x0 4).toNatClampNeg)))) x0 48).toNatClampNeg) (gI (sI m x0 48 ((8 * (gI m x0 4)) + (gI m b_31 ((gI m x0 4).toNatClampNeg)))) x0 42)) x0 48).toNatClampNeg) (gI (sI (sI m x0 48 ((8 * (gI m x0 4)) + (gI m b_31 ((gI m x0 4).toNatClampNeg)))) b_32 ((gI (sI m x0 48 ((8 * (gI m x0 4)) + (gI m b_31 ((gI m x0 4).toNatClampNeg)))) x0 48).toNatClampNeg) (gI (sI m x0 48 ((8 * (gI m x0 4)) + (gI m b_31 ((gI m x0 4).toNatClampNeg)))) x0 42)) x0 43)) b_34 ((gI (sI (sI (sI m x0 48 ((8 * (gI m x0 4)) + (gI m b_31 ((gI m x0 4).toNatClampNeg)))) b_32 ((gI (sI m x0 48 ((8 * (gI m x0 4)) + (gI m b_31 ((gI m x0 4).toNatClampNeg)))) x0 48).toNatClampNeg) (gI (sI m x0 48 ((8 * (gI m x0 4)) + (gI m b_31 ((gI m x0 4).toNatClampNeg)))) x0 42)) b_33 ((gI (sI (sI m x0 48 ((8 * (gI m x0 4)) + (gI m b_31 ((gI m x0 4).toNatClampNeg)))) b_32 ((gI (sI m x0 48 ((8 * (gI m x0 4)) + (gI m b_31 ((gI m x0 4).toNatClampNeg)))) x0 48).toNatClampNeg) (gI (sI m x0 48 ((8 * (gI m x0 4)) + (gI m b_31 ((gI m x0 4).toNatClampNeg)))) x0 42)) x0 48).toNatClampNeg) (gI (sI (sI m x0 48 ((8 * (gI m x0 4)) + (gI m b_31 ((gI m x0 4).toNatClampNeg)))) b_32 ((gI (sI m x0 48 ((8 * (gI m x0 4)) + (gI m b_31 ((gI m x0 4).toNatClampNeg)))) x0 48).toNatClampNeg) (gI (sI m x0 48 ((8 * (gI m x0 4)) + (gI m b_31 ((gI m x0 4).toNatClampNeg)))) x0 42)) x0 43)) x0 48).toNatClampNeg) 0) x0 48).toNatClampNeg) 0) x0 48).toNatClampNeg) 0) b_37 ((gI (sI (sI (sI (sI (sI (sI m x0 48 ((8 * (gI m x0 4)) + (gI m b_31 ((gI m x0 4).toNatClampNeg)))) b_32 ((gI (sI m x0 48 ((8 * (gI m x0 4)) + (gI m b_31 ((gI m x0 4).toNatClampNeg)))) x0 48).toNatClampNeg) (gI (sI m x0 48 ((8 * (gI m x0 4)) + (gI m b_31 ((gI m x0 4).toNatClampNeg)))) x0 42)) b_33 ((gI (sI (sI m x0 48 ((8 * (gI m x0 4)) + (gI m b_31 ((gI m x0 4).toNatClampNeg)))) b_32 ((gI (sI m x0 48 ((8 * (gI m x0 4)) + (gI m b_31 ((gI m x0 4).toNatClampNeg)))) x0 48).toNatClampNeg) (gI (sI m x0 48 ((8 * (gI m x0 4)) + (gI m b_31 ((gI m x0 4).toNatClampNeg)))) x0 42)) x0 48).toNatClampNeg) (gI (sI (sI m x0 48 ((8 * (gI m x0 4)) + (gI m b_31 ((gI m x0 4).toNatClampNeg)))) b_32 ((gI (sI m x0 48 ((8 * (gI m x0 4)) + (gI m b_31 ((gI m x0 4).toNatClampNeg)))) x0 48).toNatClampNeg) (gI (sI m x0 48 ((8 * (gI m x0 4)) + (gI m b_31 ((gI m x0 4).toNatClampNeg)))) x0 42)) x0 43)) b_34 ((gI (sI (sI (sI m x0 48 ((8 * (gI m x0 4)) + (gI m b_31 ((gI m x0 4).toNatClampNeg)))) b_32 ((gI (sI m x0 48 ((8 * (gI m x0 4)) + (gI m b_31 ((gI m x0 4).toNatClampNeg)))) x0 48).toNatClampNeg) (gI (sI m x0 48 ((8 * (gI m x0 4)) + (gI m b_31 ((gI m x0 4).toNatClampNeg)))) x0 42)) b_33 ((gI (sI (sI m x0 48 ((8 * (gI m x0 4)) + (gI m b_31 ((gI m x0 4).toNatClampNeg)))) b_32 ((gI (sI m x0 48 ((8 * (gI m x0 4)) + (gI m b_31 ((gI m x0 4).toNatClampNeg)))) x0 48).toNatClampNeg) (gI (sI m x0 48 ((8 * (gI m x0 4)) + (gI m b_31 ((gI m x0 4).toNatClampNeg)))) x0 42)) x0 48).toNatClampNeg) (gI (sI (sI m x0 48 ((8 * (gI m x0 4)) + (gI m b_31 ((gI m x0 4).toNatClampNeg)))) b_32 ((gI (sI m x0 48 ((8 * (gI m x0 4)) + (gI m b_31 ((gI m x0 4).toNatClampNeg)))) x0 48).toNatClampNeg) (gI (sI m x0 48 ((8 * (gI m x0 4)) + (gI m b_31 ((gI m x0 4).toNatClampNeg)))) x0 42)) x0 43)) x0 48).toNatClampNeg) 0) b_35 ((gI (sI (sI (sI (sI m x0 48 ((8 * (gI m x0 4)) + (gI m b_31 ((gI m x0 4).toNatClampNeg)))) b_32 ((gI (sI m x0 48 ((8 * (gI m x0 4)) + (gI m b_31 ((gI m x0 4).toNatClampNeg)))) x0 48).toNatClampNeg) (gI (sI m x0 48 ((8 * (gI m x0 4)) + (gI m b_31 ((gI m x0 4).toNatClampNeg)))) x0 42)) b_33 ((gI (sI (sI m x0 48 ((8 * (gI m x0 4)) + (gI m b_31 ((gI m x0 4).toNatClampNeg)))) b_32 ((gI (sI m x0 48 ((8 * (gI m x0 4)) + (gI m b_31 ((gI m x0 4).toNatClampNeg)))) x0 48).toNatClampNeg) (gI (sI m x0 48 ((8 * (gI m x0 4)) + (gI m b_31 ((gI m x0 4).toNatClampNeg)))) x0 42)) x0 48).toNatClampNeg) (gI (sI (sI m x0 48 ((8 * (gI m x0 4)) + (gI m b_31 ((gI m x0 4).toNatClampNeg)))) b_32 ((gI (sI m x0 48 ((8 * (gI m x0 4)) + (gI m b_31 ((gI m x0 4).toNatClampNeg)))) x0 48).toNatClampNeg) (gI (sI m x0 48 ((8 * (gI m x0 4)) + (gI m b_31 ((gI m x0 4).toNatClampNeg)))) x0 42)) x0 43)) b_34 ((gI (sI (sI (sI m x0 48 ((8 * (gI m x0 4)) + (gI m b_31 ((gI m x0 4).toNatClampNeg)))) b_32 ((gI (sI m x0 48 ((8 * (gI m x0 4)) + (gI m b_31 ((gI m x0 4).toNatClampNeg)))) x0 48).toNatClampNeg) (gI (sI m x0 48 ((8 * (gI m x0 4)) + (gI m b_31 ((gI m x0 4).toNatClampNeg)))) x0 42)) b_33 ((gI (sI (sI m x0 48 ((8 * (gI m x0 4)) + (gI m b_31 ((gI m x0 4).toNatClampNeg)))) b_32 ((gI (sI m x0 48 ((8 * (gI m x0 4)) + (gI m b_31 ((gI m x0 4).toNatClampNeg)))) x0 48).toNatClampNeg) (gI (sI m x0 48 ((8 * (gI m x0 4)) + (gI m b_31 ((gI m x0 4).toNatClampNeg)))) x0 42)) x0 48).toNatClampNeg) (gI (sI (sI m x0 48 ((8 * (gI m x0 4)) + (gI m b_31 ((gI m x0 4).toNatClampNeg)))) b_32 ((gI (sI m x0 48 ((8 * (gI m x0 4)) + (gI m b_31 ((gI m x0 4).toNatClampNeg)))) x0 48).toNatClampNeg) (gI (sI m x0 48 ((8 * (gI m x0 4)) + (gI m b_31 ((gI m x0 4).toNatClampNeg)))) x0 42)) x0 43)) x0 48).toNatClampNeg) 0) x0 48).toNatClampNeg) 0) b_36 ((gI (sI (sI (sI (sI (sI m x0 48 ((8 * (gI m x0 4)) + (gI m b_31 ((gI m x0 4).toNatClampNeg)))) b_32 ((gI (sI m x0 48 ((8 * (gI m x0 4)) + (gI m b_31 ((gI m x0 4).toNatClampNeg)))) x0 48).toNatClampNeg) (gI (sI m x0 48 ((8 * (gI m x0 4)) + (gI m b_31 ((gI m x0 4).toNatClampNeg)))) x0 42)) b_33 ((gI (sI (sI m x0 48 ((8 * (gI m x0 4)) + (gI m b_31 ((gI m x0 4).toNatClampNeg)))) b_32 ((gI (sI m x0 48 ((8 * (gI m x0 4)) + (gI m b_31 ((gI m x0 4).toNatClampNeg)))) x0 48).toNatClampNeg) (gI (sI m x0 48 ((8 * (gI m x0 4)) + (gI m b_31 ((gI m x0 4).toNatClampNeg)))) x0 42)) x0 48).toNatClampNeg) (gI (sI (sI m x0 48 ((8 * (gI m x0 4)) + (gI m b_31 ((gI m x0 4).toNatClampNeg)))) b_32 ((gI (sI m x0 48 ((8 * (gI m x0 4)) + (gI m b_31 ((gI m x0 4).toNatClampNeg)))) x0 48).toNatClampNeg) (gI (sI m x0 48 ((8 * (gI m x0 4)) + (gI m b_31 ((gI m x0 4).toNatClampNeg)))) x0 42)) x0 43)) b_34 ((gI (sI (sI (sI m x0 48 ((8 * (gI m x0 4)) + (gI m b_31 ((gI m x0 4).toNatClampNeg)))) b_32 ((gI (sI m x0 48 ((8 * (gI m x0 4)) + (gI m b_31 ((gI m x0 4).toNatClampNeg)))) x0 48).toNatClampNeg) (gI (sI m x0 48 ((8 * (gI m x0 4)) + (gI m b_31 ((gI m x0 4).toNatClampNeg)))) x0 42)) b_33 ((gI (sI (sI m x0 48 ((8 * (gI m x0 4)) + (gI m b_31 ((gI m x0 4).toNatClampNeg)))) b_32 ((gI (sI m x0 48 ((8 * (gI m x0 4)) + (gI m b_31 ((gI m x0 4).toNatClampNeg)))) x0 48).toNatClampNeg) (gI (sI m x0 48 ((8 * (gI m x0 4)) + (gI m b_31 ((gI m x0 4).toNatClampNeg)))) x0 42)) x0 48).toNatClampNeg) (gI (sI (sI m x0 48 ((8 * (gI m x0 4)) + (gI m b_31 ((gI m x0 4).toNatClampNeg)))) b_32 ((gI (sI m x0 48 ((8 * (gI m x0 4)) + (gI m b_31 ((gI m x0 4).toNatClampNeg)))) x0 48).toNatClampNeg) (gI (sI m x0 48 ((8 * (gI m x0 4)) + (gI m b_31 ((gI m x0 4).toNatClampNeg)))) x0 42)) x0 43)) x0 48).toNatClampNeg) 0) b_35 ((gI (sI (sI (sI (sI m x0 48 ((8 * (gI m x0 4)) + (gI m b_31 ((gI m x0 4).toNatClampNeg)))) b_32 ((gI (sI m x0 48 ((8 * (gI m x0 4)) + (gI m b_31 ((gI m x0 4).toNatClampNeg)))) x0 48).toNatClampNeg) (gI (sI m x0 48 ((8 * (gI m x0 4)) + (gI m b_31 ((gI m x0 4).toNatClampNeg)))) x0 42)) b_33 ((gI (sI (sI m x0 48 ((8 * (gI m x0 4)) + (gI m b_31 ((gI m x0 4).toNatClampNeg)))) b_32 ((gI (sI m x0 48 ((8 * (gI m x0 4)) + (gI m b_31 ((gI m x0 4).toNatClampNeg)))) x0 48).toNatClampNeg) (gI (sI m x0 48 ((8 * (gI m x0 4)) + (gI m b_31 ((gI m x0 4).toNatClampNeg)))) x0 42)) x0 48).toNatClampNeg) (gI (sI (sI m x0 48 ((8 * (gI m x0 4)) + (gI m b_31 ((gI m x0 4).toNatClampNeg)))) b_32 ((gI (sI m x0 48 ((8 * (gI m x0 4)) + (gI m b_31 ((gI m x0 4).toNatClampNeg)))) x0 48).toNatClampNeg) (gI (sI m x0 48 ((8 * (gI m x0 4)) + (gI m b_31 ((gI m x0 4).toNatClampNeg)))) x0 42)) x0 43)) b_34 ((gI (sI (sI (sI m x0 48 ((8 * (gI m x0 4)) + (gI m b_31 ((gI m x0 4).toNatClampNeg)))) b_32 ((gI (sI m x0 48 ((8 * (gI m x0 4)) + (gI m b_31 ((gI m x0 4).toNatClampNeg)))) x0 48).toNatClampNeg) (gI (sI m x0 48 ((8 * (gI m x0 4)) + (gI m b_31 ((gI m x0 4).toNatClampNeg)))) x0 42)) b_33 ((gI (sI (sI m x0 48 ((8 * (gI m x0 4)) + (gI m b_31 ((gI m x0 4).toNatClampNeg)))) b_32 ((gI (sI m x0 48 ((8 * (gI m x0 4)) + (gI m b_31 ((gI m x0 4).toNatClampNeg)))) x0 48).toNatClampNeg) (gI (sI m x0 48 ((8 * (gI m x0 4)) + (gI m b_31 ((gI m x0 4).toNatClampNeg)))) x0 42)) x0 48).toNatClampNeg) (gI (sI (sI m x0 48 ((8 * (gI m x0 4)) + (gI m b_31 ((gI m x0 4).toNatClampNeg)))) b_32 ((gI (sI m x0 48 ((8 * (gI m x0 4)) + (gI m b_31 ((gI m x0 4).toNatClampNeg)))) x0 48).toNatClampNeg) (gI (sI m x0 48 ((8 * (gI m x0 4)) + (gI m b_31 ((gI m x0 4).toNatClampNeg)))) x0 42)) x0 43)) x0 48).toNatClampNeg) 0) x0 48).toNatClampNeg) 0) x0 48).toNatClampNeg) 0) x0 48).toNatClampNeg) (-1)) x0 48).toNatClampNeg) (-1)) b_39 ((gI (sI (sI (sI (sI (sI (sI (sI (sI m x0 48 ((8 * (gI m x0 4)) + (gI m b_31 ((gI m x0 4).toNatClampNeg)))) b_32 ((gI (sI m x0 48 ((8 * (gI m x0 4)) + (gI m b_31 ((gI m x0 4).toNatClampNeg)))) x0 48).toNatClampNeg) (gI (sI m x0 48 ((8 * (gI m x0 4)) + (gI m b_31 ((gI m x0 4).toNatClampNeg)))) x0 42)) b_33 ((gI (sI (sI m x0 48 ((8 * (gI m x0 4)) + (gI m b_31 ((gI m x0 4).toNatClampNeg)))) b_32 ((gI (sI m x0 48 ((8 * (gI m x0 4)) + (gI m b_31 ((gI m x0 4).toNatClampNeg)))) x0 48).toNatClampNeg) (gI (sI m x0 48 ((8 * (gI m x0 4)) + (gI m b_31 ((gI m x0 4).toNatClampNeg)))) x0 42)) x0 48).toNatClampNeg) (gI (sI (sI m x0 48 ((8 * (gI m x0 4)) + (gI m b_31 ((gI m x0 4).toNatClampNeg)))) b_32 ((gI (sI m x0 48 ((8 * (gI m x0 4)) + (gI m b_31 ((gI m x0 4).toNatClampNeg)))) x0 48).toNatClampNeg) (gI (sI m x0 48 ((8 * (gI m x0 4)) + (gI m b_31 ((gI m x0 4).toNatClampNeg)))) x0 42)) x0 43)) b_34 ((gI (sI (sI (sI m x0 48 ((8 * (gI m x0 4)) + (gI m b_31 ((gI m x0 4).toNatClampNeg)))) b_32 ((gI (sI m x0 48 ((8 * (gI m x0 4)) + (gI m b_31 ((gI m x0 4).toNatClampNeg)))) x0 48).toNatClampNeg) (gI (sI m x0 48 ((8 * (gI m x0 4)) + (gI m b_31 ((gI m x0 4).toNatClampNeg)))) x0 42)) b_33 ((gI (sI (sI m x0 48 ((8 * (gI m x0 4)) + (gI m b_31 ((gI m x0 4).toNatClampNeg)))) b_32 ((gI (sI m x0 48 ((8 * (gI m x0 4)) + (gI m b_31 ((gI m x0 4).toNatClampNeg)))) x0 48).toNatClampNeg) (gI (sI m x0 48 ((8 * (gI m x0 4)) + (gI m b_31 ((gI m x0 4).toNatClampNeg)))) x0 42)) x0 48).toNatClampNeg) (gI (sI (sI m x0 48 ((8 * (gI m x0 4)) + (gI m b_31 ((gI m x0 4).toNatClampNeg)))) b_32 ((gI (sI m x0 48 ((8 * (gI m x0 4)) + (gI m b_31 ((gI m x0 4).toNatClampNeg)))) x0 48).toNatClampNeg) (gI (sI m x0 48 ((8 * (gI m x0 4)) + (gI m b_31 ((gI m x0 4).toNatClampNeg)))) x0 42)) x0 43)) x0 48).toNatClampNeg) 0) b_35 ((gI (sI (sI (sI (sI m x0 48 ((8 * (gI m x0 4)) + (gI m b_31 ((gI m x0 4).toNatClampNeg)))) b_32 ((gI (sI m x0 48 ((8 * (gI m x0 4)) + (gI m b_31 ((gI m x0 4).toNatClampNeg)))) x0 48).toNatClampNeg) (gI (sI m x0 48 ((8 * (gI m x0 4)) + (gI m b_31 ((gI m x0 4).toNatClampNeg)))) x0 42)) b_33 ((gI (sI (sI m x0 48 ((8 * (gI m x0 4)) + (gI m b_31 ((gI m x0 4).toNatClampNeg)))) b_32 ((gI (sI m x0 48 ((8 * (gI m x0 4)) + (gI m b_31 ((gI m x0 4).toNatClampNeg)))) x0 48).toNatClampNeg) (gI (sI m x0 48 ((8 * (gI m x0 4)) + (gI m b_31 ((gI m x0 4).toNatClampNeg)))) x0 42)) x0 48).toNatClampNeg) (gI (sI (sI m x0 48 ((8 * (gI m x0 4)) + (gI m b_31 ((gI m x0 4).toNatClampNeg)))) b_32 ((gI (sI m x0 48 ((8 * (gI m x0 4)) + (gI m b_31 ((gI m x0 4).toNatClampNeg)))) x0 48).toNatClampNeg) (gI (sI m x0 48 ((8 * (gI m x0 4)) + (gI m b_31 ((gI m x0 4).toNatClampNeg)))) x0 42)) x0 43)) b_34 ((gI (sI (sI (sI m x0 48 ((8 * (gI m x0 4)) + (gI m b_31 ((gI m x0 4).toNatClampNeg)))) b_32 ((gI (sI m x0 48 ((8 * (gI m x0 4)) + (gI m b_31 ((gI m x0 4).toNatClampNeg)))) x0 48).toNatClampNeg) (gI (sI m x0 48 ((8 * (gI m x0 4)) + (gI m b_31 ((gI m x0 4).toNatClampNeg)))) x0 42)) b_33 ((gI (sI (sI m x0 48 ((8 * (gI m x0 4)) + (gI m b_31 ((gI m x0 4).toNatClampNeg)))) b_32 ((gI (sI m x0 48 ((8 * (gI m x0 4)) + (gI m b_31 ((gI m x0 4).toNatClampNeg)))) x0 48).toNatClampNeg) (gI (sI m x0 48 ((8 * (gI m x0 4)) + (gI m b_31 ((gI m x0 4).toNatClampNeg)))) x0 42)) x0 48).toNatClampNeg) (gI (sI (sI m x0 48 ((8 * (gI m x0 4)) + (gI m b_31 ((gI m x0 4).toNatClampNeg)))) b_32 ((gI (sI m x0 48 ((8 * (gI m x0 4)) + (gI m b_31 ((gI m x0 4).toNatClampNeg)))) x0 48).toNatClampNeg) (gI (sI m x0 48 ((8 * (gI m x0 4)) + (gI m b_31 ((gI m x0 4).toNatClampNeg)))) x0 42)) x0 43)) x0 48).toNatClampNeg) 0) x0 48).toNatClampNeg) 0) b_36 ((gI (sI (sI (sI (sI (sI m x0 48 ((8 * (gI m x0 4)) + (gI m b_31 ((gI m x0 4).toNatClampNeg)))) b_32 ((gI (sI m x0 48 ((8 * (gI m x0 4)) + (gI m b_31 ((gI m x0 4).toNatClampNeg)))) x0 48).toNatClampNeg) (gI (sI m x0 48 ((8 * (gI m x0 4)) + (gI m b_31 ((gI m x0 4).toNatClampNeg)))) x0 42)) b_33 ((gI (sI (sI m x0 48 ((8 * (gI m x0 4)) + (gI m b_31 ((gI m x0 4).toNatClampNeg)))) b_32 ((gI (sI m x0 48 ((8 * (gI m x0 4)) + (gI m b_31 ((gI m x0 4).toNatClampNeg)))) x0 48).toNatClampNeg) (gI (sI m x0 48 ((8 * (gI m x0 4)) + (gI m b_31 ((gI m x0 4).toNatClampNeg)))) x0 42)) x0 48).toNatClampNeg) (gI (sI (sI m x0 48 ((8 * (gI m x0 4)) + (gI m b_31 ((gI m x0 4).toNatClampNeg)))) b_32 ((gI (sI m x0 48 ((8 * (gI m x0 4)) + (gI m b_31 ((gI m x0 4).toNatClampNeg)))) x0 48).toNatClampNeg) (gI (sI m x0 48 ((8 * (gI m x0 4)) + (gI m b_31 ((gI m x0 4).toNatClampNeg)))) x0 42)) x0 43)) b_34 ((gI (sI (sI (sI m x0 48 ((8 * (gI m x0 4)) + (gI m b_31 ((gI m x0 4).toNatClampNeg)))) b_32 ((gI (sI m x0 48 ((8 * (gI m x0 4)) + (gI m b_31 ((gI m x0 4).toNatClampNeg)))) x0 48).toNatClampNeg) (gI (sI m x0 48 ((8 * (gI m x0 4)) + (gI m b_31 ((gI m x0 4).toNatClampNeg)))) x0 42)) b_33 ((gI (sI (sI m x0 48 ((8 * (gI m x0 4)) + (gI m b_31 ((gI m x0 4).toNatClampNeg)))) b_32 ((gI (sI m x0 48 ((8 * (gI m x0 4)) + (gI m b_31 ((gI m x0 4).toNatClampNeg)))) x0 48).toNatClampNeg) (gI (sI m x0 48 ((8 * (gI m x0 4)) + (gI m b_31 ((gI m x0 4).toNatClampNeg)))) x0 42)) x0 48).toNatClampNeg) (gI (sI (sI m x0 48 ((8 * (gI m x0 4)) + (gI m b_31 ((gI m x0 4).toNatClampNeg)))) b_32 ((gI (sI m x0 48 ((8 * (gI m x0 4)) + (gI m b_31 ((gI m x0 4).toNatClampNeg)))) x0 48).toNatClampNeg) (gI (sI m x0 48 ((8 * (gI m x0 4)) + (gI m b_31 ((gI m x0 4).toNatClampNeg)))) x0 42)) x0 43)) x0 48).toNatClampNeg) 0) b_35 ((gI (sI (sI (sI (sI m x0 48 ((8 * (gI m x0 4)) + (gI m b_31 ((gI m x0 4).toNatClampNeg)))) b_32 ((gI (sI m x0 48 ((8 * (gI m x0 4)) + (gI m b_31 ((gI m x0 4).toNatClampNeg)))) x0 48).toNatClampNeg) (gI (sI m x0 48 ((8 * (gI m x0 4)) + (gI m b_31 ((gI m x0 4).toNatClampNeg)))) x0 42)) b_33 ((gI (sI (sI m x0 48 ((8 * (gI m x0 4)) + (gI m b_31 ((gI m x0 4).toNatClampNeg)))) b_32 ((gI (sI m x0 48 ((8 * (gI m x0 4)) + (gI m b_31 ((gI m x0 4).toNatClampNeg)))) x0 48).toNatClampNeg) (gI (sI m x0 48 ((8 * (gI m x0 4)) + (gI m b_31 ((gI m x0 4).toNatClampNeg)))) x0 42)) x0 48).toNatClampNeg) (gI (sI (sI m x0 48 ((8 * (gI m x0 4)) + (gI m b_31 ((gI m x0 4).toNatClampNeg)))) b_32 ((gI (sI m x0 48 ((8 * (gI m x0 4)) + (gI m b_31 ((gI m x0 4).toNatClampNeg)))) x0 48).toNatClampNeg) (gI (sI m x0 48 ((8 * (gI m x0 4)) + (gI m b_31 ((gI m x0 4).toNatClampNeg)))) x0 42)) x0 43)) b_34 ((gI (sI (sI (sI m x0 48 ((8 * (gI m x0 4)) + (gI m b_31 ((gI m x0 4).toNatClampNeg)))) b_32 ((gI (sI m x0 48 ((8 * (gI m x0 4)) + (gI m b_31 ((gI m x0 4).toNatClampNeg)))) x0 48).toNatClampNeg) (gI (sI m x0 48 ((8 * (gI m x0 4)) + (gI m b_31 ((gI m x0 4).toNatClampNeg)))) x0 42)) b_33 ((gI (sI (sI m x0 48 ((8 * (gI m x0 4)) + (gI m b_31 ((gI m x0 4).toNatClampNeg)))) b_32 ((gI (sI m x0 48 ((8 * (gI m x0 4)) + (gI m b_31 ((gI m x0 4).toNatClampNeg)))) x0 48).toNatClampNeg) (gI (sI m x0 48 ((8 * (gI m x0 4)) + (gI m b_31 ((gI m x0 4).toNatClampNeg)))) x0 42)) x0 48).toNatClampNeg) (gI (sI (sI m x0 48 ((8 * (gI m x0 4)) + (gI m b_31 ((gI m x0 4).toNatClampNeg)))) b_32 ((gI (sI m x0 48 ((8 * (gI m x0 4)) + (gI m b_31 ((gI m x0 4).toNatClampNeg)))) x0 48).toNatClampNeg) (gI (sI m x0 48 ((8 * (gI m x0 4)) + (gI m b_31 ((gI m x0 4).toNatClampNeg)))) x0 42)) x0 43)) x0 48).toNatClampNeg) 0) x0 48).toNatClampNeg) 0) x0 48).toNatClampNeg) 0) b_37 ((gI (sI (sI (sI (sI (sI (sI m x0 48 ((8 * (gI m x0 4)) + (gI m b_31 ((gI m x0 4).toNatClampNeg)))) b_32 ((gI (sI m x0 48 ((8 * (gI m x0 4)) + (gI m b_31 ((gI m x0 4).toNatClampNeg)))) x0 48).toNatClampNeg) (gI (sI m x0 48 ((8 * (gI m x0 4)) + (gI m b_31 ((gI m x0 4).toNatClampNeg)))) x0 42)) b_33 ((gI (sI (sI m x0 48 ((8 * (gI m x0 4)) + (gI m b_31 ((gI m x0 4).toNatClampNeg)))) b_32 ((gI (sI m x0 48 ((8 * (gI m x0 4)) + (gI m b_31 ((gI m x0 4).toNatClampNeg)))) x0 48).toNatClampNeg) (gI (sI m x0 48 ((8 * (gI m x0 4)) + (gI m b_31 ((gI m x0 4).toNatClampNeg)))) x0 42)) x0 48).toNatClampNeg) (gI (sI (sI m x0 48 ((8 * (gI m x0 4)) + (gI m b_31 ((gI m x0 4).toNatClampNeg)))) b_32 ((gI (sI m x0 48 ((8 * (gI m x0 4)) + (gI m b_31 ((gI m x0 4).toNatClampNeg)))) x0 48).toNatClampNeg) (gI (sI m x0 48 ((8 * (gI m x0 4)) + (gI m b_31 ((gI m x0 4).toNatClampNeg)))) x0 42)) x0 43)) b_34 ((gI (sI (sI (sI m x0 48 ((8 * (gI m x0 4)) + (gI m b_31 ((gI m x0 4).toNatClampNeg)))) b_32 ((gI (sI m x0 48 ((8 * (gI m x0 4)) + (gI m b_31 ((gI m x0 4).toNatClampNeg)))) x0 48).toNatClampNeg) (gI (sI m x0 48 ((8 * (gI m x0 4)) + (gI m b_31 ((gI m x0 4).toNatClampNeg)))) x0 42)) b_33 ((gI (sI (sI m x0 48 ((8 * (gI m x0 4)) + (gI m b_31 ((gI m x0 4).toNatClampNeg)))) b_32 ((gI (sI m x0 48 ((8 * (gI m x0 4)) + (gI m b_31 ((gI m x0 4).toNatClampNeg)))) x0 48).toNatClampNeg) (gI (sI m x0 48 ((8 * (gI m x0 4)) + (gI m b_31 ((gI m x0 4).toNatClampNeg)))) x0 42)) x0 48).toNatClampNeg) (gI (sI (sI m x0 48 ((8 * (gI m x0 4)) + (gI m b_31 ((gI m x0 4).toNatClampNeg)))) b_32 ((gI (sI m x0 48 ((8 * (gI m x0 4)) + (gI m b_31 ((gI m x0 4).toNatClampNeg)))) x0 48).toNatClampNeg) (gI (sI m x0 48 ((8 * (gI m x0 4)) + (gI m b_31 ((gI m x0 4).toNatClampNeg)))) x0 42)) x0 43)) x0 48).toNatClampNeg) 0) b_35 ((gI (sI (sI (sI (sI m x0 48 ((8 * (gI m x0 4)) + (gI m b_31 ((gI m x0 4).toNatClampNeg)))) b_32 ((gI (sI m x0 48 ((8 * (gI m x0 4)) + (gI m b_31 ((gI m x0 4).toNatClampNeg)))) x0 48).toNatClampNeg) (gI (sI m x0 48 ((8 * (gI m x0 4)) + (gI m b_31 ((gI m x0 4).toNatClampNeg)))) x0 42)) b_33 ((gI (sI (sI m x0 48 ((8 * (gI m x0 4)) + (gI m b_31 ((gI m x0 4).toNatClampNeg)))) b_32 ((gI (sI m x0 48 ((8 * (gI m x0 4)) + (gI m b_31 ((gI m x0 4).toNatClampNeg)))) x0 48).toNatClampNeg) (gI (sI m x0 48 ((8 * (gI m x0 4)) + (gI m b_31 ((gI m x0 4).toNatClampNeg)))) x0 42)) x0 48).toNatClampNeg) (gI (sI (sI m x0 48 ((8 * (gI m x0 4)) + (gI m b_31 ((gI m x0 4).toNatClampNeg)))) b_32 ((gI (sI m x0 48 ((8 * (gI m x0 4)) + (gI m b_31 ((gI m x0 4).toNatClampNeg)))) x0 48).toNatClampNeg) (gI (sI m x0 48 ((8 * (gI m x0 4)) + (gI m b_31 ((gI m x0 4).toNatClampNeg)))) x0 42)) x0 43)) b_34 ((gI (sI (sI (sI m x0 48 ((8 * (gI m x0 4)) + (gI m b_31 ((gI m x0 4).toNatClampNeg)))) b_32 ((gI (sI m x0 48 ((8 * (gI m x0 4)) + (gI m b_31 ((gI m x0 4).toNatClampNeg)))) x0 48).toNatClampNeg) (gI (sI m x0 48 ((8 * (gI m x0 4)) + (gI m b_31 ((gI m x0 4).toNatClampNeg)))) x0 42)) b_33 ((gI (sI (sI m x0 48 ((8 * (gI m x0 4)) + (gI m b_31 ((gI m x0 4).toNatClampNeg)))) b_32 ((gI (sI m x0 48 ((8 * (gI m x0 4)) + (gI m b_31 ((gI m x0 4).toNatClampNeg)))) x0 48).toNatClampNeg) (gI (sI m x0 48 ((8 * (gI m x0 4)) + (gI m b_31 ((gI m x0 4).toNatClampNeg)))) x0 42)) x0 48).toNatClampNeg) (gI (sI (sI m x0 48 ((8 * (gI m x0 4)) + (gI m b_31 ((gI m x0 4).toNatClampNeg)))) b_32 ((gI (sI m x0 48 ((8 * (gI m x0 4)) + (gI m b_31 ((gI m x0 4).toNatClampNeg)))) x0 48).toNatClampNeg) (gI (sI m x0 48 ((8 * (gI m x0 4)) + (gI m b_31 ((gI m x0 4).toNatClampNeg)))) x0 42)) x0 43)) x0 48).toNatClampNeg) 0) x0 48).toNatClampNeg) 0) b_36 ((gI (sI (sI (sI (sI (sI m x0 48 ((8 * (gI m x0 4)) + (gI m b_31 ((gI m x0 4).toNatClampNeg)))) b_32 ((gI (sI m x0 48 ((8 * (gI m x0 4)) + (gI m b_31 ((gI m x0 4).toNatClampNeg)))) x0 48).toNatClampNeg) (gI (sI m x0 48 ((8 * (gI m x0 4)) + (gI m b_31 ((gI m x0 4).toNatClampNeg)))) x0 42)) b_33 ((gI (sI (sI m x0 48 ((8 * (gI m x0 4)) + (gI m b_31 ((gI m x0 4).toNatClampNeg)))) b_32 ((gI (sI m x0 48 ((8 * (gI m x0 4)) + (gI m b_31 ((gI m x0 4).toNatClampNeg)))) x0 48).toNatClampNeg) (gI (sI m x0 48 ((8 * (gI m x0 4)) + (gI m b_31 ((gI m x0 4).toNatClampNeg)))) x0 42)) x0 48).toNatClampNeg) (gI (sI (sI m x0 48 ((8 * (gI m x0 4)) + (gI m b_31 ((gI m x0 4).toNatClampNeg)))) b_32 ((gI (sI m x0 48 ((8 * (gI m x0 4)) + (gI m b_31 ((gI m x0 4).toNatClampNeg)))) x0 48).toNatClampNeg) (gI (sI m x0 48 ((8 * (gI m x0 4)) + (gI m b_31 ((gI m x0 4).toNatClampNeg)))) x0 42)) x0 43)) b_34 ((gI (sI (sI (sI m x0 48 ((8 * (gI m x0 4)) + (gI m b_31 ((gI m x0 4).toNatClampNeg)))) b_32 ((gI (sI m x0 48 ((8 * (gI m x0 4)) + (gI m b_31 ((gI m x0 4).toNatClampNeg)))) x0 48).toNatClampNeg) (gI (sI m x0 48 ((8 * (gI m x0 4)) + (gI m b_31 ((gI m x0 4).toNatClampNeg)))) x0 42)) b_33 ((gI (sI (sI m x0 48 ((8 * (gI m x0 4)) + (gI m b_31 ((gI m x0 4).toNatClampNeg)))) b_32 ((gI (sI m x0 48 ((8 * (gI m x0 4)) + (gI m b_31 ((gI m x0 4).toNatClampNeg)))) x0 48).toNatClampNeg) (gI (sI m x0 48 ((8 * (gI m x0 4)) + (gI m b_31 ((gI m x0 4).toNatClampNeg)))) x0 42)) x0 48).toNatClampNeg) (gI (sI (sI m x0 48 ((8 * (gI m x0 4)) + (gI m b_31 ((gI m x0 4).toNatClampNeg)))) b_32 ((gI (sI m x0 48 ((8 * (gI m x0 4)) + (gI m b_31 ((gI m x0 4).toNatClampNeg)))) x0 48).toNatClampNeg) (gI (sI m x0 48 ((8 * (gI m x0 4)) + (gI m b_31 ((gI m x0 4).toNatClampNeg)))) x0 42)) x0 43)) x0 48).toNatClampNeg) 0) b_35 ((gI (sI (sI (sI (sI m x0 48 ((8 * (gI m x0 4)) + (gI m b_31 ((gI m x0 4).toNatClampNeg)))) b_32 ((gI (sI m x0 48 ((8 * (gI m x0 4)) + (gI m b_31 ((gI m x0 4).toNatClampNeg)))) x0 48).toNatClampNeg) (gI (sI m x0 48 ((8 * (gI m x0 4)) + (gI m b_31 ((gI m x0 4).toNatClampNeg)))) x0 42)) b_33 ((gI (sI (sI m x0 48 ((8 * (gI m x0 4)) + (gI m b_31 ((gI m x0 4).toNatClampNeg)))) b_32 ((gI (sI m x0 48 ((8 * (gI m x0 4)) + (gI m b_31 ((gI m x0 4).toNatClampNeg)))) x0 48).toNatClampNeg) (gI (sI m x0 48 ((8 * (gI m x0 4)) + (gI m b_31 ((gI m x0 4).toNatClampNeg)))) x0 42)) x0 48).toNatClampNeg) (gI (sI (sI m x0 48 ((8 * (gI m x0 4)) + (gI m b_31 ((gI m x0 4).toNatClampNeg)))) b_32 ((gI (sI m x0 48 ((8 * (gI m x0 4)) + (gI m b_31 ((gI m x0 4).toNatClampNeg)))) x0 48).toNatClampNeg) (gI (sI m x0 48 ((8 * (gI m x0 4)) + (gI m b_31 ((gI m x0 4).toNatClampNeg)))) x0 42)) x0 43)) b_34 ((gI (sI (sI (sI m x0 48 ((8 * (gI m x0 4)) + (gI m b_31 ((gI m x0 4).toNatClampNeg)))) b_32 ((gI (sI m x0 48 ((8 * (gI m x0 4)) + (gI m b_31 ((gI m x0 4).toNatClampNeg)))) x0 48).toNatClampNeg) (gI (sI m x0 48 ((8 * (gI m x0 4)) + (gI m b_31 ((gI m x0 4).toNatClampNeg)))) x0 42)) b_33 ((gI (sI (sI m x0 48 ((8 * (gI m x0 4)) + (gI m b_31 ((gI m x0 4).toNatClampNeg)))) b_32 ((gI (sI m x0 48 ((8 * (gI m x0 4)) + (gI m b_31 ((gI m x0 4).toNatClampNeg)))) x0 48).toNatClampNeg) (gI (sI m x0 48 ((8 * (gI m x0 4)) + (gI m b_31 ((gI m x0 4).toNatClampNeg)))) x0 42)) x0 48).toNatClampNeg) (gI (sI (sI m x0 48 ((8 * (gI m x0 4)) + (gI m b_31 ((gI m x0 4).toNatClampNeg)))) b_32 ((gI (sI m x0 48 ((8 * (gI m x0 4)) + (gI m b_31 ((gI m x0 4).toNatClampNeg)))) x0 48).toNatClampNeg) (gI (sI m x0 48 ((8 * (gI m x0 4)) + (gI m b_31 ((gI m x0 4).toNatClampNeg)))) x0 42)) x0 43)) x0 48).toNatClampNeg) 0) x0 48).toNatClampNeg) 0) x0 48).toNatClampNeg) 0) x0 48).toNatClampNeg) (-1)) b_38 ((gI (sI (sI (sI (sI (sI (sI (sI m x0 48 ((8 * (gI m x0 4)) + (gI m b_31 ((gI m x0 4).toNatClampNeg)))) b_32 ((gI (sI m x0 48 ((8 * (gI m x0 4)) + (gI m b_31 ((gI m x0 4).toNatClampNeg)))) x0 48).toNatClampNeg) (gI (sI m x0 48 ((8 * (gI m x0 4)) + (gI m b_31 ((gI m x0 4).toNatClampNeg)))) x0 42)) b_33 ((gI (sI (sI m x0 48 ((8 * (gI m x0 4)) + (gI m b_31 ((gI m x0 4).toNatClampNeg)))) b_32 ((gI (sI m x0 48 ((8 * (gI m x0 4)) + (gI m b_31 ((gI m x0 4).toNatClampNeg)))) x0 48).toNatClampNeg) (gI (sI m x0 48 ((8 * (gI m x0 4)) + (gI m b_31 ((gI m x0 4).toNatClampNeg)))) x0 42)) x0 48).toNatClampNeg) (gI (sI (sI m x0 48 ((8 * (gI m x0 4)) + (gI m b_31 ((gI m x0 4).toNatClampNeg)))) b_32 ((gI (sI m x0 48 ((8 * (gI m x0 4)) + (gI m b_31 ((gI m x0 4).toNatClampNeg)))) x0 48).toNatClampNeg) (gI (sI m x0 48 ((8 * (gI m x0 4)) + (gI m b_31 ((gI m x0 4).toNatClampNeg)))) x0 42)) x0 43)) b_34 ((gI (sI (sI (sI m x0 48 ((8 * (gI m x0 4)) + (gI m b_31 ((gI m x0 4).toNatClampNeg)))) b_32 ((gI (sI m x0 48 ((8 * (gI m x0 4)) + (gI m b_31 ((gI m x0 4).toNatClampNeg)))) x0 48).toNatClampNeg) (gI (sI m x0 48 ((8 * (gI m x0 4)) + (gI m b_31 ((gI m x0 4).toNatClampNeg)))) x0 42)) b_33 ((gI (sI (sI m x0 48 ((8 * (gI m x0 4)) + (gI m b_31 ((gI m x0 4).toNatClampNeg)))) b_32 ((gI (sI m x0 48 ((8 * (gI m x0 4)) + (gI m b_31 ((gI m x0 4).toNatClampNeg)))) x0 48).toNatClampNeg) (gI (sI m x0 48 ((8 * (gI m x0 4)) + (gI m b_31 ((gI m x0 4).toNatClampNeg)))) x0 42)) x0 48).toNatClampNeg) (gI (sI (sI m x0 48 ((8 * (gI m x0 4)) + (gI m b_31 ((gI m x0 4).toNatClampNeg)))) b_32 ((gI (sI m x0 48 ((8 * (gI m x0 4)) + (gI m b_31 ((gI m x0 4).toNatClampNeg)))) x0 48).toNatClampNeg) (gI (sI m x0 48 ((8 * (gI m x0 4)) + (gI m b_31 ((gI m x0 4).toNatClampNeg)))) x0 42)) x0 43)) x0 48).toNatClampNeg) 0) b_35 ((gI (sI (sI (sI (sI m x0 48 ((8 * (gI m x0 4)) + (gI m b_31 ((gI m x0 4).toNatClampNeg)))) b_32 ((gI (sI m x0 48 ((8 * (gI m x0 4)) + (gI m b_31 ((gI m x0 4).toNatClampNeg)))) x0 48).toNatClampNeg) (gI (sI m x0 48 ((8 * (gI m x0 4)) + (gI m b_31 ((gI m x0 4).toNatClampNeg)))) x0 42)) b_33 ((gI (sI (sI m x0 48 ((8 * (gI m x0 4)) + (gI m b_31 ((gI m x0 4).toNatClampNeg)))) b_32 ((gI (sI m x0 48 ((8 * (gI m x0 4)) + (gI m b_31 ((gI m x0 4).toNatClampNeg)))) x0 48).toNatClampNeg) (gI (sI m x0 48 ((8 * (gI m x0 4)) + (gI m b_31 ((gI m x0 4).toNatClampNeg)))) x0 42)) x0 48).toNatClampNeg) (gI (sI (sI m x0 48 ((8 * (gI m x0 4)) + (gI m b_31 ((gI m x0 4).toNatClampNeg)))) b_32 ((gI (sI m x0 48 ((8 * (gI m x0 4)) + (gI m b_31 ((gI m x0 4).toNatClampNeg)))) x0 48).toNatClampNeg) (gI (sI m x0 48 ((8 * (gI m x0 4)) + (gI m b_31 ((gI m x0 4).toNatClampNeg)))) x0 42)) x0 43)) b_34 ((gI (sI (sI (sI m x0 48 ((8 * (gI m x0 4)) + (gI m b_31 ((gI m x0 4).toNatClampNeg)))) b_32 ((gI (sI m x0 48 ((8 * (gI m x0 4)) + (gI m b_31 ((gI m x0 4).toNatClampNeg)))) x0 48).toNatClampNeg) (gI (sI m x0 48 ((8 * (gI m x0 4)) + (gI m b_31 ((gI m x0 4).toNatClampNeg)))) x0 42)) b_33 ((gI (sI (sI m x0 48 ((8 * (gI m x0 4)) + (gI m b_31 ((gI m x0 4).toNatClampNeg)))) b_32 ((gI (sI m x0 48 ((8 * (gI m x0 4)) + (gI m b_31 ((gI m x0 4).toNatClampNeg)))) x0 48).toNatClampNeg) (gI (sI m x0 48 ((8 * (gI m x0 4)) + (gI m b_31 ((gI m x0 4).toNatClampNeg)))) x0 42)) x0 48).toNatClampNeg) (gI (sI (sI m x0 48 ((8 * (gI m x0 4)) + (gI m b_31 ((gI m x0 4).toNatClampNeg)))) b_32 ((gI (sI m x0 48 ((8 * (gI m x0 4)) + (gI m b_31 ((gI m x0 4).toNatClampNeg)))) x0 48).toNatClampNeg) (gI (sI m x0 48 ((8 * (gI m x0 4)) + (gI m b_31 ((gI m x0 4).toNatClampNeg)))) x0 42)) x0 43)) x0 48).toNatClampNeg) 0) x0 48).toNatClampNeg) 0) b_36 ((gI (sI (sI (sI (sI (sI m x0 48 ((8 * (gI m x0 4)) + (gI m b_31 ((gI m x0 4).toNatClampNeg)))) b_32 ((gI (sI m x0 48 ((8 * (gI m x0 4)) + (gI m b_31 ((gI m x0 4).toNatClampNeg)))) x0 48).toNatClampNeg) (gI (sI m x0 48 ((8 * (gI m x0 4)) + (gI m b_31 ((gI m x0 4).toNatClampNeg)))) x0 42)) b_33 ((gI (sI (sI m x0 48 ((8 * (gI m x0 4)) + (gI m b_31 ((gI m x0 4).toNatClampNeg)))) b_32 ((gI (sI m x0 48 ((8 * (gI m x0 4)) + (gI m b_31 ((gI m x0 4).toNatClampNeg)))) x0 48).toNatClampNeg) (gI (sI m x0 48 ((8 * (gI m x0 4)) + (gI m b_31 ((gI m x0 4).toNatClampNeg)))) x0 42)) x0 48).toNatClampNeg) (gI (sI (sI m x0 48 ((8 * (gI m x0 4)) + (gI m b_31 ((gI m x0 4).toNatClampNeg)))) b_32 ((gI (sI m x0 48 ((8 * (gI m x0 4)) + (gI m b_31 ((gI m x0 4).toNatClampNeg)))) x0 48).toNatClampNeg) (gI (sI m x0 48 ((8 * (gI m x0 4)) + (gI m b_31 ((gI m x0 4).toNatClampNeg)))) x0 42)) x0 43)) b_34 ((gI (sI (sI (sI m x0 48 ((8 * (gI m x0 4)) + (gI m b_31 ((gI m x0 4).toNatClampNeg)))) b_32 ((gI (sI m x0 48 ((8 * (gI m x0 4)) + (gI m b_31 ((gI m x0 4).toNatClampNeg)))) x0 48).toNatClampNeg) (gI (sI m x0 48 ((8 * (gI m x0 4)) + (gI m b_31 ((gI m x0 4).toNatClampNeg)))) x0 42)) b_33 ((gI (sI (sI m x0 48 ((8 * (gI m x0 4)) + (gI m b_31 ((gI m x0 4).toNatClampNeg)))) b_32 ((gI (sI m x0 48 ((8 * (gI m x0 4)) + (gI m b_31 ((gI m x0 4).toNatClampNeg)))) x0 48).toNatClampNeg) (gI (sI m x0 48 ((8 * (gI m x0 4)) + (gI m b_31 ((gI m x0 4).toNatClampNeg)))) x0 42)) x0 48).toNatClampNeg) (gI (sI (sI m x0 48 ((8 * (gI m x0 4)) + (gI m b_31 ((gI m x0 4).toNatClampNeg)))) b_32 ((gI (sI m x0 48 ((8 * (gI m x0 4)) + (gI m b_31 ((gI m x0 4).toNatClampNeg)))) x0 48).toNatClampNeg) (gI (sI m x0 48 ((8 * (gI m x0 4)) + (gI m b_31 ((gI m x0 4).toNatClampNeg)))) x0 42)) x0 43)) x0 48).toNatClampNeg) 0) b_35 ((gI (sI (sI (sI (sI m x0 48 ((8 * (gI m x0 4)) + (gI m b_31 ((gI m x0 4).toNatClampNeg)))) b_32 ((gI (sI m x0 48 ((8 * (gI m x0 4)) + (gI m b_31 ((gI m x0 4).toNatClampNeg)))) x0 48).toNatClampNeg) (gI (sI m x0 48 ((8 * (gI m x0 4)) + (gI m b_31 ((gI m x0 4).toNatClampNeg)))) x0 42)) b_33 ((gI (sI (sI m x0 48 ((8 * (gI m x0 4)) + (gI m b_31 ((gI m x0 4).toNatClampNeg)))) b_32 ((gI (sI m x0 48 ((8 * (gI m x0 4)) + (gI m b_31 ((gI m x0 4).toNatClampNeg)))) x0 48).toNatClampNeg) (gI (sI m x0 48 ((8 * (gI m x0 4)) + (gI m b_31 ((gI m x0 4).toNatClampNeg)))) x0 42)) x0 48).toNatClampNeg) (gI (sI (sI m x0 48 ((8 * (gI m x0 4)) + (gI m b_31 ((gI m x0 4).toNatClampNeg)))) b_32 ((gI (sI m x0 48 ((8 * (gI m x0 4)) + (gI m b_31 ((gI m x0 4).toNatClampNeg)))) x0 48).toNatClampNeg) (gI (sI m x0 48 ((8 * (gI m x0 4)) + (gI m b_31 ((gI m x0 4).toNatClampNeg)))) x0 42)) x0 43)) b_34 ((gI (sI (sI (sI m x0 48 ((8 * (gI m x0 4)) + (gI m b_31 ((gI m x0 4).toNatClampNeg)))) b_32 ((gI (sI m x0 48 ((8 * (gI m x0 4)) + (gI m b_31 ((gI m x0 4).toNatClampNeg)))) x0 48).toNatClampNeg) (gI (sI m x0 48 ((8 * (gI m x0 4)) + (gI m b_31 ((gI m x0 4).toNatClampNeg)))) x0 42)) b_33 ((gI (sI (sI m x0 48 ((8 * (gI m x0 4)) + (gI m b_31 ((gI m x0 4).toNatClampNeg)))) b_32 ((gI (sI m x0 48 ((8 * (gI m x0 4)) + (gI m b_31 ((gI m x0 4).toNatClampNeg)))) x0 48).toNatClampNeg) (gI (sI m x0 48 ((8 * (gI m x0 4)) + (gI m b_31 ((gI m x0 4).toNatClampNeg)))) x0 42)) x0 48).toNatClampNeg) (gI (sI (sI m x0 48 ((8 * (gI m x0 4)) + (gI m b_31 ((gI m x0 4).toNatClampNeg)))) b_32 ((gI (sI m x0 48 ((8 * (gI m x0 4)) + (gI m b_31 ((gI m x0 4).toNatClampNeg)))) x0 48).toNatClampNeg) (gI (sI m x0 48 ((8 * (gI m x0 4)) + (gI m b_31 ((gI m x0 4).toNatClampNeg)))) x0 42)) x0 43)) x0 48).toNatClampNeg) 0) x0 48).toNatClampNeg) 0) x0 48).toNatClampNeg) 0) b_37 ((gI (sI (sI (sI (sI (sI (sI m x0 48 ((8 * (gI m x0 4)) + (gI m b_31 ((gI m x0 4).toNatClampNeg)))) b_32 ((gI (sI m x0 48 ((8 * (gI m x0 4)) + (gI m b_31 ((gI m x0 4).toNatClampNeg)))) x0 48).toNatClampNeg) (gI (sI m x0 48 ((8 * (gI m x0 4)) + (gI m b_31 ((gI m x0 4).toNatClampNeg)))) x0 42)) b_33 ((gI (sI (sI m x0 48 ((8 * (gI m x0 4)) + (gI m b_31 ((gI m x0 4).toNatClampNeg)))) b_32 ((gI (sI m x0 48 ((8 * (gI m x0 4)) + (gI m b_31 ((gI m x0 4).toNatClampNeg)))) x0 48).toNatClampNeg) (gI (sI m x0 48 ((8 * (gI m x0 4)) + (gI m b_31 ((gI m x0 4).toNatClampNeg)))) x0 42)) x0 48).toNatClampNeg) (gI (sI (sI m x0 48 ((8 * (gI m x0 4)) + (gI m b_31 ((gI m x0 4).toNatClampNeg)))) b_32 ((gI (sI m x0 48 ((8 * (gI m x0 4)) + (gI m b_31 ((gI m x0 4).toNatClampNeg)))) x0 48).toNatClampNeg) (gI (sI m x0 48 ((8 * (gI m x0 4)) + (gI m b_31 ((gI m x0 4).toNatClampNeg)))) x0 42)) x0 43)) b_34 ((gI (sI (sI (sI m x0 48 ((8 * (gI m x0 4)) + (gI m b_31 ((gI m x0 4).toNatClampNeg)))) b_32 ((gI (sI m x0 48 ((8 * (gI m x0 4)) + (gI m b_31 ((gI m x0 4).toNatClampNeg)))) x0 48).toNatClampNeg) (gI (sI m x0 48 ((8 * (gI m x0 4)) + (gI m b_31 ((gI m x0 4).toNatClampNeg)))) x0 42)) b_33 ((gI (sI (sI m x0 48 ((8 * (gI m x0 4)) + (gI m b_31 ((gI m x0 4).toNatClampNeg)))) b_32 ((gI (sI m x0 48 ((8 * (gI m x0 4)) + (gI m b_31 ((gI m x0 4).toNatClampNeg)))) x0 48).toNatClampNeg) (gI (sI m x0 48 ((8 * (gI m x0 4)) + (gI m b_31 ((gI m x0 4).toNatClampNeg)))) x0 42)) x0 48).toNatClampNeg) (gI (sI (sI m x0 48 ((8 * (gI m x0 4)) + (gI m b_31 ((gI m x0 4).toNatClampNeg)))) b_32 ((gI (sI m x0 48 ((8 * (gI m x0 4)) + (gI m b_31 ((gI m x0 4).toNatClampNeg)))) x0 48).toNatClampNeg) (gI (sI m x0 48 ((8 * (gI m x0 4)) + (gI m b_31 ((gI m x0 4).toNatClampNeg)))) x0 42)) x0 43)) x0 48).toNatClampNeg) 0) b_35 ((gI (sI (sI (sI (sI m x0 48 ((8 * (gI m x0 4)) + (gI m b_31 ((gI m x0 4).toNatClampNeg)))) b_32 ((gI (sI m x0 48 ((8 * (gI m x0 4)) + (gI m b_31 ((gI m x0 4).toNatClampNeg)))) x0 48).toNatClampNeg) (gI (sI m x0 48 ((8 * (gI m x0 4)) + (gI m b_31 ((gI m x0 4).toNatClampNeg)))) x0 42)) b_33 ((gI (sI (sI m x0 48 ((8 * (gI m x0 4)) + (gI m b_31 ((gI m x0 4).toNatClampNeg)))) b_32 ((gI (sI m x0 48 ((8 * (gI m x0 4)) + (gI m b_31 ((gI m x0 4).toNatClampNeg)))) x0 48).toNatClampNeg) (gI (sI m x0 48 ((8 * (gI m x0 4)) + (gI m b_31 ((gI m x0 4).toNatClampNeg)))) x0 42)) x0 48).toNatClampNeg) (gI (sI (sI m x0 48 ((8 * (gI m x0 4)) + (gI m b_31 ((gI m x0 4).toNatClampNeg)))) b_32 ((gI (sI m x0 48 ((8 * (gI m x0 4)) + (gI m b_31 ((gI m x0 4).toNatClampNeg)))) x0 48).toNatClampNeg) (gI (sI m x0 48 ((8 * (gI m x0 4)) + (gI m b_31 ((gI m x0 4).toNatClampNeg)))) x0 42)) x0 43)) b_34 ((gI (sI (sI (sI m x0 48 ((8 * (gI m x0 4)) + (gI m b_31 ((gI m x0 4).toNatClampNeg)))) b_32 ((gI (sI m x0 48 ((8 * (gI m x0 4)) + (gI m b_31 ((gI m x0 4).toNatClampNeg)))) x0 48).toNatClampNeg) (gI (sI m x0 48 ((8 * (gI m x0 4)) + (gI m b_31 ((gI m x0 4).toNatClampNeg)))) x0 42)) b_33 ((gI (sI (sI m x0 48 ((8 * (gI m x0 4)) + (gI m b_31 ((gI m x0 4).toNatClampNeg)))) b_32 ((gI (sI m x0 48 ((8 * (gI m x0 4)) + (gI m b_31 ((gI m x0 4).toNatClampNeg)))) x0 48).toNatClampNeg) (gI (sI m x0 48 ((8 * (gI m x0 4)) + (gI m b_31 ((gI m x0 4).toNatClampNeg)))) x0 42)) x0 48).toNatClampNeg) (gI (sI (sI m x0 48 ((8 * (gI m x0 4)) + (gI m b_31 ((gI m x0 4).toNatClampNeg)))) b_32 ((gI (sI m x0 48 ((8 * (gI m x0 4)) + (gI m b_31 ((gI m x0 4).toNatClampNeg)))) x0 48).toNatClampNeg) (gI (sI m x0 48 ((8 * (gI m x0 4)) + (gI m b_31 ((gI m x0 4).toNatClampNeg)))) x0 42)) x0 43)) x0 48).toNatClampNeg) 0) x0 48).toNatClampNeg) 0) b_36 ((gI (sI (sI (sI (sI (sI m x0 48 ((8 * (gI m x0 4)) + (gI m b_31 ((gI m x0 4).toNatClampNeg)))) b_32 ((gI (sI m x0 48 ((8 * (gI m x0 4)) + (gI m b_31 ((gI m x0 4).toNatClampNeg)))) x0 48).toNatClampNeg) (gI (sI m x0 48 ((8 * (gI m x0 4)) + (gI m b_31 ((gI m x0 4).toNatClampNeg)))) x0 42)) b_33 ((gI (sI (sI m x0 48 ((8 * (gI m x0 4)) + (gI m b_31 ((gI m x0 4).toNatClampNeg)))) b_32 ((gI (sI m x0 48 ((8 * (gI m x0 4)) + (gI m b_31 ((gI m x0 4).toNatClampNeg)))) x0 48).toNatClampNeg) (gI (sI m x0 48 ((8 * (gI m x0 4)) + (gI m b_31 ((gI m x0 4).toNatClampNeg)))) x0 42)) x0 48).toNatClampNeg) (gI (sI (sI m x0 48 ((8 * (gI m x0 4)) + (gI m b_31 ((gI m x0 4).toNatClampNeg)))) b_32 ((gI (sI m x0 48 ((8 * (gI m x0 4)) + (gI m b_31 ((gI m x0 4).toNatClampNeg)))) x0 48).toNatClampNeg) (gI (sI m x0 48 ((8 * (gI m x0 4)) + (gI m b_31 ((gI m x0 4).toNatClampNeg)))) x0 42)) x0 43)) b_34 ((gI (sI (sI (sI m x0 48 ((8 * (gI m x0 4)) + (gI m b_31 ((gI m x0 4).toNatClampNeg)))) b_32 ((gI (sI m x0 48 ((8 * (gI m x0 4)) + (gI m b_31 ((gI m x0 4).toNatClampNeg)))) x0 48).toNatClampNeg) (gI (sI m x0 48 ((8 * (gI m x0 4)) + (gI m b_31 ((gI m x0 4).toNatClampNeg)))) x0 42)) b_33 ((gI (sI (sI m x0 48 ((8 * (gI m x0 4)) + (gI m b_31 ((gI m x0 4).toNatClampNeg)))) b_32 ((gI (sI m x0 48 ((8 * (gI m x0 4)) + (gI m b_31 ((gI m x0 4).toNatClampNeg)))) x0 48).toNatClampNeg) (gI (sI m x0 48 ((8 * (gI m x0 4)) + (gI m b_31 ((gI m x0 4).toNatClampNeg)))) x0 42)) x0 48).toNatClampNeg) (gI (sI (sI m x0 48 ((8 * (gI m x0 4)) + (gI m b_31 ((gI m x0 4).toNatClampNeg)))) b_32 ((gI (sI m x0 48 ((8 * (gI m x0 4)) + (gI m b_31 ((gI m x0 4).toNatClampNeg)))) x0 48).toNatClampNeg) (gI (sI m x0 48 ((8 * (gI m x0 4)) + (gI m b_31 ((gI m x0 4).toNatClampNeg)))) x0 42)) x0 43)) x0 48).toNatClampNeg) 0) b_35 ((gI (sI (sI (sI (sI m x0 48 ((8 * (gI m x0 4)) + (gI m b_31 ((gI m x0 4).toNatClampNeg)))) b_32 ((gI (sI m x0 48 ((8 * (gI m x0 4)) + (gI m b_31 ((gI m x0 4).toNatClampNeg)))) x0 48).toNatClampNeg) (gI (sI m x0 48 ((8 * (gI m x0 4)) + (gI m b_31 ((gI m x0 4).toNatClampNeg)))) x0 42)) b_33 ((gI (sI (sI m x0 48 ((8 * (gI m x0 4)) + (gI m b_31 ((gI m x0 4).toNatClampNeg)))) b_32 ((gI (sI m x0 48 ((8 * (gI m x0 4)) + (gI m b_31 ((gI m x0 4).toNatClampNeg)))) x0 48).toNatClampNeg) (gI (sI m x0 48 ((8 * (gI m x0 4)) + (gI m b_31 ((gI m x0 4).toNatClampNeg)))) x0 42)) x0 48).toNatClampNeg) (gI (sI (sI m x0 48 ((8 * (gI m x0 4)) + (gI m b_31 ((gI m x0 4).toNatClampNeg)))) b_32 ((gI (sI m x0 48 ((8 * (gI m x0 4)) + (gI m b_31 ((gI m x0 4).toNatClampNeg)))) x0 48).toNatClampNeg) (gI (sI m x0 48 ((8 * (gI m x0 4)) + (gI m b_31 ((gI m x0 4).toNatClampNeg)))) x0 42)) x0 43)) b_34 ((gI (sI (sI (sI m x0 48 ((8 * (gI m x0 4)) + (gI m b_31 ((gI m x0 4).toNatClampNeg)))) b_32 ((gI (sI m x0 48 ((8 * (gI m x0 4)) + (gI m b_31 ((gI m x0 4).toNatClampNeg)))) x0 48).toNatClampNeg) (gI (sI m x0 48 ((8 * (gI m x0 4)) + (gI m b_31 ((gI m x0 4).toNatClampNeg)))) x0 42)) b_33 ((gI (sI (sI m x0 48 ((8 * (gI m x0 4)) + (gI m b_31 ((gI m x0 4).toNatClampNeg)))) b_32 ((gI (sI m x0 48 ((8 * (gI m x0 4)) + (gI m b_31 ((gI m x0 4).toNatClampNeg)))) x0 48).toNatClampNeg) (gI (sI m x0 48 ((8 * (gI m x0 4)) + (gI m b_31 ((gI m x0 4).toNatClampNeg)))) x0 42)) x0 48).toNatClampNeg) (gI (sI (sI m x0 48 ((8 * (gI m x0 4)) + (gI m b_31 ((gI m x0 4).toNatClampNeg)))) b_32 ((gI (sI m x0 48 ((8 * (gI m x0 4)) + (gI m b_31 ((gI m x0 4).toNatClampNeg)))) x0 48).toNatClampNeg) (gI (sI m x0 48 ((8 * (gI m x0 4)) + (gI m b_31 ((gI m x0 4).toNatClampNeg)))) x0 42)) x0 43)) x0 48).toNatClampNeg) 0) x0 48).toNatClampNeg) 0) x0 48).toNatClampNeg) 0) x0 48).toNatClampNeg) (-1)) x0 48).toNatClampNeg) (-1)) x0 4).toNatClampNeg)) + 1))) fun _ m_41 =>
                                                bd (M_X11_need G x0 123 m_41) fun _ m_43 =>
                                                  bd (M_X11_isGood G x0 m_43) fun r_44 m_45 =>
                                                    if r_44 = true then
                                                      if (gI m_45 x0 44) = 1 then
                                                        bd (M_X11_readConst G x0 m_45) fun _ m_47 =>
                                                          B_X11_readEnum_166 G FU x0 m_47
                                                      else
                                                        B_X11_readEnum_193 G x0 m_45
                                                    else
                                                      B_X11_readEnum_193 G x0 m_45
  else
    bd (M_X11_stop G x0 m) fun _ m_30 =>
      some ((), m_30)
set_option maxRecDepth 100000 in
set_option maxHeartbeats 4000000 in
theorem cM_X11_readEnum {p : Program} {l : Launch} {e : Env} {s : State} {mth : MethodId} {args : Array Value} {below : List Frame} {meth : Method} {c : Code} {E : EE} {G : GG} {r9 : Unit} {m9 : MM} (C : Cx E G p s mth args meth c cX11_readEnum RX11 "readEnum" 1 none) {x0 : Nat} {m : MM} (hM : M_X11_readEnum G x0 m = some (r9, m9)) (tx0 : Ty E G x0 11) : ∀ (H : Heap) (locs : List Loc), Hp E G m s H locs → ∀ ls : Array Slot, lv_has ls 1 [(0, .ref x0)] → W p l e rmX11_readEnum s mth args below meth c H locs 0 0 (MQ below (cQv E G m9) args s 0 0 (fun q => E.2.2.1 ≤ q)) (F0 mth 0 ls []) := by
  intro H locs h ls hl
  unfold M_X11_readEnum at hM
  refine lv_aload_n C.1 C.2.1 dX11_readEnum_0 rfl (lv_at hl 0 rfl) ?_
  refine gt_11_44 C h tx0 fl_X11_196 dX11_readEnum_1 ?_
  refine lv_iconst (v := 1) C.1 C.2.1 dX11_readEnum_4 (by decide) ?_
  refine lv_icmp_ne (tgt := 22) C.1 C.2.1 dX11_readEnum_5 (by decide) (fun q => ?_) (fun q => ?_)
  · have hM := ite_f q hM
    refine lv_aload_n C.1 C.2.1 dX11_readEnum_22 rfl (lv_at hl 0 rfl) ?_
    obtain ⟨r_29, m_30, hc_29, hM⟩ := bd_some hM
    refine h_callVv C h (As := []) (rest := []) m_30 (c_X11_stop hc_29 tx0) 11 rfl (by decide) tx0 im_yX11_stop se_yX11_stop cy_X11_stop rfl ml_X11_259 ⟨by decide, by decide⟩ ⟨Nat.zero_le _, Nat.zero_le _⟩ hl.1 rfl (Nat.le_of_ble_eq_true rfl) dX11_readEnum_23 (fun H locs h => ?_)
    obtain ⟨rfl, rfl⟩ := so_inj hM
    exact h_vret C h dX11_readEnum_26
  · have hM := ite_t q hM
    refine lv_aload_n C.1 C.2.1 dX11_readEnum_8 rfl (lv_at hl 0 rfl) ?_
    refine gt_11_6 C h tx0 fl_X11_16 dX11_readEnum_9 ?_
    obtain ⟨b_31, hb_31, hM⟩ := nb_some hM
    have tb_31 : Ty E G b_31 12 := (fun b hb => tyf h tx0 hb) _ hb_31
    refine st_ref hb_31 ?_
    refine lv_aload_n C.1 C.2.1 dX11_readEnum_12 rfl (lv_at hl 0 rfl) ?_
    refine gt_11_4 C h tx0 fl_X11_183 dX11_readEnum_13 ?_
    obtain ⟨hi, hM⟩ := ib_some hM
    refine h_iald C h tb_31 hi dX11_readEnum_16 ?_
    refine lv_bipush (v := 8) C.1 C.2.1 dX11_readEnum_17 (by decide) ?_
    refine lv_icmp_ne (tgt := 27) C.1 C.2.1 dX11_readEnum_19 (by decide) (fun q => ?_) (fun q => ?_)
    · have hM := ite_f q hM
      refine lv_aload_n C.1 C.2.1 dX11_readEnum_27 rfl (lv_at hl 0 rfl) ?_
      refine lv_bipush (v := 8) C.1 C.2.1 dX11_readEnum_28 (by decide) ?_
      refine lv_aload_n C.1 C.2.1 dX11_readEnum_30 rfl (lv_at hl 0 rfl) ?_
      refine gt_11_4 C h tx0 fl_X11_183 dX11_readEnum_31 ?_
      refine lv_imul C.1 C.2.1 dX11_readEnum_34 ?_
      refine lv_aload_n C.1 C.2.1 dX11_readEnum_35 rfl (lv_at hl 0 rfl) ?_
      refine gt_11_6 C h tx0 fl_X11_16 dX11_readEnum_36 ?_
      refine st_ref hb_31 ?_
      refine lv_aload_n C.1 C.2.1 dX11_readEnum_39 rfl (lv_at hl 0 rfl) ?_
      refine gt_11_4 C h tx0 fl_X11_183 dX11_readEnum_40 ?_
      obtain ⟨hi, hM⟩ := ib_some hM
      refine h_iald C h tb_31 hi dX11_readEnum_43 ?_
      refine lv_iadd C.1 C.2.1 dX11_readEnum_44 ?_
      refine pt_11_48 C h tx0 fl_X11_265 dX11_readEnum_45 (fun H locs h => ?_)
      refine lv_aload_n C.1 C.2.1 dX11_readEnum_48 rfl (lv_at hl 0 rfl) ?_
      refine gt_11_7 C h tx0 fl_X11_19 dX11_readEnum_49 ?_
      obtain ⟨b_32, hb_32, hM⟩ := nb_some hM
      have tb_32 : Ty E G b_32 12 := (fun b hb => tyf h tx0 hb) _ hb_32
      refine st_ref hb_32 ?_
      refine lv_aload_n C.1 C.2.1 dX11_readEnum_52 rfl (lv_at hl 0 rfl) ?_
      refine gt_11_48 C h tx0 fl_X11_265 dX11_readEnum_53 ?_
      refine lv_aload_n C.1 C.2.1 dX11_readEnum_56 rfl (lv_at hl 0 rfl) ?_
      refine gt_11_42 C h tx0 fl_X11_193 dX11_readEnum_57 ?_
      obtain ⟨hi, hM⟩ := ib_some hM
      refine h_iast C h tb_32 hi dX11_readEnum_60 (fun H locs h => ?_)
      refine lv_aload_n C.1 C.2.1 dX11_readEnum_61 rfl (lv_at hl 0 rfl) ?_
      refine gt_11_8 C h tx0 fl_X11_22 dX11_readEnum_62 ?_
      obtain ⟨b_33, hb_33, hM⟩ := nb_some hM
      have tb_33 : Ty E G b_33 12 := (fun b hb => tyf h tx0 hb) _ hb_33
      refine st_ref hb_33 ?_
      refine lv_aload_n C.1 C.2.1 dX11_readEnum_65 rfl (lv_at hl 0 rfl) ?_
      refine gt_11_48 C h tx0 fl_X11_265 dX11_readEnum_66 ?_
      refine lv_aload_n C.1 C.2.1 dX11_readEnum_69 rfl (lv_at hl 0 rfl) ?_
      refine gt_11_43 C h tx0 fl_X11_206 dX11_readEnum_70 ?_
      obtain ⟨hi, hM⟩ := ib_some hM
      refine h_iast C h tb_33 hi dX11_readEnum_73 (fun H locs h => ?_)
      refine lv_aload_n C.1 C.2.1 dX11_readEnum_74 rfl (lv_at hl 0 rfl) ?_
      refine gt_11_9 C h tx0 fl_X11_25 dX11_readEnum_75 ?_
      obtain ⟨b_34, hb_34, hM⟩ := nb_some hM
      have tb_34 : Ty E G b_34 12 := (fun b hb => tyf h tx0 hb) _ hb_34
      refine st_ref hb_34 ?_
      refine lv_aload_n C.1 C.2.1 dX11_readEnum_78 rfl (lv_at hl 0 rfl) ?_
      refine gt_11_48 C h tx0 fl_X11_265 dX11_readEnum_79 ?_
      refine lv_iconst (v := 0) C.1 C.2.1 dX11_readEnum_82 (by decide) ?_
      obtain ⟨hi, hM⟩ := ib_some hM
      refine h_iast C h tb_34 hi dX11_readEnum_83 (fun H locs h => ?_)
      refine lv_aload_n C.1 C.2.1 dX11_readEnum_84 rfl (lv_at hl 0 rfl) ?_
      refine gt_11_10 C h tx0 fl_X11_28 dX11_readEnum_85 ?_
      obtain ⟨b_35, hb_35, hM⟩ := nb_some hM
      have tb_35 : Ty E G b_35 12 := (fun b hb => tyf h tx0 hb) _ hb_35
      refine st_ref hb_35 ?_
      refine lv_aload_n C.1 C.2.1 dX11_readEnum_88 rfl (lv_at hl 0 rfl) ?_
      refine gt_11_48 C h tx0 fl_X11_265 dX11_readEnum_89 ?_
      refine lv_iconst (v := 0) C.1 C.2.1 dX11_readEnum_92 (by decide) ?_
      obtain ⟨hi, hM⟩ := ib_some hM
      refine h_iast C h tb_35 hi dX11_readEnum_93 (fun H locs h => ?_)
      refine lv_aload_n C.1 C.2.1 dX11_readEnum_94 rfl (lv_at hl 0 rfl) ?_
      refine gt_11_11 C h tx0 fl_X11_31 dX11_readEnum_95 ?_
      obtain ⟨b_36, hb_36, hM⟩ := nb_some hM
      have tb_36 : Ty E G b_36 12 := (fun b hb => tyf h tx0 hb) _ hb_36
      refine st_ref hb_36 ?_
      refine lv_aload_n C.1 C.2.1 dX11_readEnum_98 rfl (lv_at hl 0 rfl) ?_
      refine gt_11_48 C h tx0 fl_X11_265 dX11_readEnum_99 ?_
      refine lv_iconst (v := 0) C.1 C.2.1 dX11_readEnum_102 (by decide) ?_
      obtain ⟨hi, hM⟩ := ib_some hM
      refine h_iast C h tb_36 hi dX11_readEnum_103 (fun H locs h => ?_)
      refine lv_aload_n C.1 C.2.1 dX11_readEnum_104 rfl (lv_at hl 0 rfl) ?_
      refine gt_11_12 C h tx0 fl_X11_34 dX11_readEnum_105 ?_
      obtain ⟨b_37, hb_37, hM⟩ := nb_some hM
      have tb_37 : Ty E G b_37 12 := (fun b hb => tyf h tx0 hb) _ hb_37
      refine st_ref hb_37 ?_
      refine lv_aload_n C.1 C.2.1 dX11_readEnum_108 rfl (lv_at hl 0 rfl) ?_
      refine gt_11_48 C h tx0 fl_X11_265 dX11_readEnum_109 ?_
      refine lv_iconst (v := (-1)) C.1 C.2.1 dX11_readEnum_112 (by decide) ?_
      obtain ⟨hi, hM⟩ := ib_some hM
      refine h_iast C h tb_37 hi dX11_readEnum_113 (fun H locs h => ?_)
      refine lv_aload_n C.1 C.2.1 dX11_readEnum_114 rfl (lv_at hl 0 rfl) ?_
      refine gt_11_49 C h tx0 fl_X11_121 dX11_readEnum_115 ?_
      obtain ⟨b_38, hb_38, hM⟩ := nb_some hM
      have tb_38 : Ty E G b_38 12 := (fun b hb => tyf h tx0 hb) _ hb_38
      refine st_ref hb_38 ?_
      refine lv_aload_n C.1 C.2.1 dX11_readEnum_118 rfl (lv_at hl 0 rfl) ?_
      refine gt_11_48 C h tx0 fl_X11_265 dX11_readEnum_119 ?_
      refine lv_iconst (v := (-1)) C.1 C.2.1 dX11_readEnum_122 (by decide) ?_
      obtain ⟨hi, hM⟩ := ib_some hM
      refine h_iast C h tb_38 hi dX11_readEnum_123 (fun H locs h => ?_)
      refine lv_aload_n C.1 C.2.1 dX11_readEnum_124 rfl (lv_at hl 0 rfl) ?_
      refine gt_11_6 C h tx0 fl_X11_16 dX11_readEnum_125 ?_
      obtain ⟨b_39, hb_39, hM⟩ := nb_some hM
      have tb_39 : Ty E G b_39 12 := (fun b hb => tyf h tx0 hb) _ hb_39
      refine st_ref hb_39 ?_
      refine lv_aload_n C.1 C.2.1 dX11_readEnum_128 rfl (lv_at hl 0 rfl) ?_
      refine gt_11_4 C h tx0 fl_X11_183 dX11_readEnum_129 ?_
      refine lv_dup2_11 C.1 C.2.1 dX11_readEnum_132 rfl rfl ?_
      obtain ⟨hi, hM⟩ := ib_some hM
      refine h_iald C h tb_39 hi dX11_readEnum_133 ?_
      refine lv_iconst (v := 1) C.1 C.2.1 dX11_readEnum_134 (by decide) ?_
      refine lv_iadd C.1 C.2.1 dX11_readEnum_135 ?_
      obtain ⟨hi, hM⟩ := ib_some hM
      refine h_iast C h tb_39 hi dX11_readEnum_136 (fun H locs h => ?_)
      refine lv_aload_n C.1 C.2.1 dX11_readEnum_137 rfl (lv_at hl 0 rfl) ?_
      obtain ⟨r_40, m_41, hc_40, hM⟩ := bd_some hM
      refine h_callVv C h (As := []) (rest := []) m_41 (c_X11_next hc_40 tx0) 11 rfl (by decide) tx0 im_yX11_next se_yX11_next cy_X11_next rfl ml_X11_256 ⟨by decide, by decide⟩ ⟨Nat.zero_le _, Nat.zero_le _⟩ hl.1 rfl (Nat.le_of_ble_eq_true rfl) dX11_readEnum_138 (fun H locs h => ?_)
      refine lv_aload_n C.1 C.2.1 dX11_readEnum_141 rfl (lv_at hl 0 rfl) ?_
      refine lv_bipush (v := 123) C.1 C.2.1 dX11_readEnum_142 (by decide) ?_
      obtain ⟨r_42, m_43, hc_42, hM⟩ := bd_some hM
      refine h_callVv C h (As := [.int 123]) (rest := []) m_43 (c_X11_need hc_42 tx0) 11 rfl (by decide) tx0 im_yX11_need se_yX11_need cy_X11_need rfl ml_X11_268 ⟨by decide, by decide⟩ ⟨Nat.zero_le _, Nat.zero_le _⟩ hl.1 rfl (Nat.le_of_ble_eq_true rfl) dX11_readEnum_144 (fun H locs h => ?_)
      refine lv_aload_n C.1 C.2.1 dX11_readEnum_147 rfl (lv_at hl 0 rfl) ?_
      obtain ⟨r_44, m_45, hc_44, hM⟩ := bd_some hM
      refine h_callVi C h (As := []) (rest := []) (bz r_44) m_45 (c_X11_isGood hc_44 tx0) 11 rfl (by decide) tx0 im_yX11_isGood se_yX11_isGood cy_X11_isGood rfl ml_X11_249 ⟨by decide, by decide⟩ ⟨Nat.zero_le _, Nat.zero_le _⟩ hl.1 rfl (Nat.le_of_ble_eq_true rfl) dX11_readEnum_148 (fun H locs h => ?_)
      refine h_ifz (tgt := 193) C.1 C.2.1 dX11_readEnum_151 (by decide) (fun q => ?_) (fun q => ?_)
      · have hM := ite_f q hM
        exact cB_X11_readEnum_193 C hM tx0 _ _ h ls (lv_sub hl [0] rfl)
      · have hM := ite_t q hM
        refine lv_aload_n C.1 C.2.1 dX11_readEnum_154 rfl (lv_at hl 0 rfl) ?_
        refine gt_11_44 C h tx0 fl_X11_196 dX11_readEnum_155 ?_
        refine lv_iconst (v := 1) C.1 C.2.1 dX11_readEnum_158 (by decide) ?_
        refine lv_icmp_ne (tgt := 193) C.1 C.2.1 dX11_readEnum_159 (by decide) (fun q => ?_) (fun q => ?_)
        · have hM := ite_f q hM
          exact cB_X11_readEnum_193 C hM tx0 _ _ h ls (lv_sub hl [0] rfl)
        · have hM := ite_t q hM
          refine lv_aload_n C.1 C.2.1 dX11_readEnum_162 rfl (lv_at hl 0 rfl) ?_
          obtain ⟨r_46, m_47, hc_46, hM⟩ := bd_some hM
          refine h_callVv C h (As := []) (rest := []) m_47 (c_X11_readConst hc_46 tx0) 11 rfl (by decide) tx0 im_yX11_readConst se_yX11_readConst cy_X11_readConst rfl ml_X11_272 ⟨by decide, by decide⟩ ⟨Nat.zero_le _, Nat.zero_le _⟩ hl.1 rfl (Nat.le_of_ble_eq_true rfl) dX11_readEnum_163 (fun H locs h => ?_)
          exact cB_X11_readEnum_166 C _ _ _ hM tx0 _ _ h ls (lv_sub hl [0] rfl)
    · have hM := ite_t q hM
      refine lv_aload_n C.1 C.2.1 dX11_readEnum_22 rfl (lv_at hl 0 rfl) ?_
      obtain ⟨r_48, m_49, hc_48, hM⟩ := bd_some hM
      refine h_callVv C h (As := []) (rest := []) m_49 (c_X11_stop hc_48 tx0) 11 rfl (by decide) tx0 im_yX11_stop se_yX11_stop cy_X11_stop rfl ml_X11_259 ⟨by decide, by decide⟩ ⟨Nat.zero_le _, Nat.zero_le _⟩ hl.1 rfl (Nat.le_of_ble_eq_true rfl) dX11_readEnum_23 (fun H locs h => ?_)
      obtain ⟨rfl, rfl⟩ := so_inj hM
      exact h_vret C h dX11_readEnum_26
theorem cy_X11_readEnum : Cy yX11_readEnum cX11_readEnum 1 none 0 := ⟨cd_yX11_readEnum, ii_X11, by decide, by decide, by decide +kernel⟩
set_option maxRecDepth 100000 in
theorem c_X11_readEnum {l : Launch} {E : EE} {G : GG} {x0 : Nat} {m m9 : MM} {r9 : Unit} (hM : M_X11_readEnum G x0 m = some (r9, m9)) (tx0 : Ty E G x0 11) : Mc l E yX11_readEnum cX11_readEnum 1 none rmX11_readEnum [.ref x0] G m (cQv E G m9) := M_of (by decide) (Nat.le_of_ble_eq_true rfl) (fun p e s mth below meth c C h ls hl => cM_X11_readEnum C hM tx0 _ _ h ls hl)
abbrev rmX11_readText : Room := { frames := 8, cells := 0, slots := 0, locals := 181 }
def B_X11_readText_44 (G : GG) : Nat → Nat → MM → Option (Unit × MM)
  | 0, _, _ => none
  | fu + 1, x0, m =>
    bd (M_X11_isGood G x0 m) fun r_1 m_2 =>
      if r_1 = true then
        if (gI m_2 x0 44) = 0 then
          some ((), m_2)
        else
          if (gI m_2 x0 44) = 20 then
            bd (M_X11_next G x0 m_2) fun _ m_4 =>
              bd (M_X11_readEnum G x0 m_4) fun _ m_6 =>
                B_X11_readText_44 G fu x0 m_6
          else
            bd (M_X11_stop G x0 m_2) fun _ m_8 =>
              B_X11_readText_44 G fu x0 m_8
      else
        some ((), m_2)
set_option maxRecDepth 100000 in
set_option maxHeartbeats 4000000 in
theorem cB_X11_readText_44 {p : Program} {l : Launch} {e : Env} {s : State} {mth : MethodId} {args : Array Value} {below : List Frame} {meth : Method} {c : Code} {E : EE} {G : GG} {r9 : Unit} {m9 : MM} (C : Cx E G p s mth args meth c cX11_readText RX11 "readText" 1 none) : ∀ (fu : Nat) (x0 : Nat) (m : MM), B_X11_readText_44 G fu x0 m = some (r9, m9) → (Ty E G x0 11) → ∀ (H : Heap) (locs : List Loc), Hp E G m s H locs → ∀ ls : Array Slot, lv_has ls 1 [(0, .ref x0)] → W p l e rmX11_readText s mth args below meth c H locs 0 0 (MQ below (cQv E G m9) args s 0 0 (fun q => E.2.2.1 ≤ q)) (F0 mth 44 ls []) := by
  intro fu
  induction fu with
  | zero =>
    intro x0 m hM
    rw [B_X11_readText_44] at hM
    cases hM
  | succ fu ih =>
    intro x0 m hM tx0 H locs h ls hl
    rw [B_X11_readText_44] at hM
    refine lv_aload_n C.1 C.2.1 dX11_readText_44 rfl (lv_at hl 0 rfl) ?_
    obtain ⟨r_1, m_2, hc_1, hM⟩ := bd_some hM
    refine h_callVi C h (As := []) (rest := []) (bz r_1) m_2 (c_X11_isGood hc_1 tx0) 11 rfl (by decide) tx0 im_yX11_isGood se_yX11_isGood cy_X11_isGood rfl ml_X11_249 ⟨by decide, by decide⟩ ⟨Nat.zero_le _, Nat.zero_le _⟩ hl.1 rfl (Nat.le_of_ble_eq_true rfl) dX11_readText_45 (fun H locs h => ?_)
    refine h_ifz (tgt := 85) C.1 C.2.1 dX11_readText_48 (by decide) (fun q => ?_) (fun q => ?_)
    · have hM := ite_f q hM
      obtain ⟨rfl, rfl⟩ := so_inj hM
      exact h_vret C h dX11_readText_85
    · have hM := ite_t q hM
      refine lv_aload_n C.1 C.2.1 dX11_readText_51 rfl (lv_at hl 0 rfl) ?_
      refine gt_11_44 C h tx0 fl_X11_196 dX11_readText_52 ?_
      refine lv_if_eq (tgt := 85) C.1 C.2.1 dX11_readText_55 (by decide) (fun q => ?_) (fun q => ?_)
      · have hM := ite_t q hM
        obtain ⟨rfl, rfl⟩ := so_inj hM
        exact h_vret C h dX11_readText_85
      · have hM := ite_f q hM
        refine lv_aload_n C.1 C.2.1 dX11_readText_58 rfl (lv_at hl 0 rfl) ?_
        refine gt_11_44 C h tx0 fl_X11_196 dX11_readText_59 ?_
        refine lv_bipush (v := 20) C.1 C.2.1 dX11_readText_62 (by decide) ?_
        refine lv_icmp_eq (tgt := 74) C.1 C.2.1 dX11_readText_64 (by decide) (fun q => ?_) (fun q => ?_)
        · have hM := ite_t q hM
          refine lv_aload_n C.1 C.2.1 dX11_readText_74 rfl (lv_at hl 0 rfl) ?_
          obtain ⟨r_3, m_4, hc_3, hM⟩ := bd_some hM
          refine h_callVv C h (As := []) (rest := []) m_4 (c_X11_next hc_3 tx0) 11 rfl (by decide) tx0 im_yX11_next se_yX11_next cy_X11_next rfl ml_X11_256 ⟨by decide, by decide⟩ ⟨Nat.zero_le _, Nat.zero_le _⟩ hl.1 rfl (Nat.le_of_ble_eq_true rfl) dX11_readText_75 (fun H locs h => ?_)
          refine lv_aload_n C.1 C.2.1 dX11_readText_78 rfl (lv_at hl 0 rfl) ?_
          obtain ⟨r_5, m_6, hc_5, hM⟩ := bd_some hM
          refine h_callVv C h (As := []) (rest := []) m_6 (c_X11_readEnum hc_5 tx0) 11 rfl (by decide) tx0 im_yX11_readEnum se_yX11_readEnum cy_X11_readEnum rfl ml_X11_262 ⟨by decide, by decide⟩ ⟨Nat.zero_le _, Nat.zero_le _⟩ hl.1 rfl (Nat.le_of_ble_eq_true rfl) dX11_readText_79 (fun H locs h => ?_)
          refine lv_goto (tgt := 44) C.1 C.2.1 dX11_readText_82 (by decide) ?_
          exact ih _ _ hM tx0 _ _ h ls (lv_sub hl [0] rfl)
        · have hM := ite_f q hM
          refine lv_aload_n C.1 C.2.1 dX11_readText_67 rfl (lv_at hl 0 rfl) ?_
          obtain ⟨r_7, m_8, hc_7, hM⟩ := bd_some hM
          refine h_callVv C h (As := []) (rest := []) m_8 (c_X11_stop hc_7 tx0) 11 rfl (by decide) tx0 im_yX11_stop se_yX11_stop cy_X11_stop rfl ml_X11_259 ⟨by decide, by decide⟩ ⟨Nat.zero_le _, Nat.zero_le _⟩ hl.1 rfl (Nat.le_of_ble_eq_true rfl) dX11_readText_68 (fun H locs h => ?_)
          refine lv_goto (tgt := 44) C.1 C.2.1 dX11_readText_71 (by decide) ?_
          exact ih _ _ hM tx0 _ _ h ls (lv_sub hl [0] rfl)
def M_X11_readText (G : GG) (x0 : Nat) (m : MM) : Option (Unit × MM) :=
  nb (gR m x0 6) fun b_9 =>
    ib (gI m x0 4) (G.2.2 b_9) <|
      nb (gR (sI m b_9 ((gI m x0 4).toNatClampNeg) 0) x0 27) fun b_10 =>
        ib (gI (sI m b_9 ((gI m x0 4).toNatClampNeg) 0) x0 4) (G.2.2 b_10) <|
          nb (gR (sI (sI m b_9 ((gI m x0 4).toNatClampNeg) 0) b_10 ((gI (sI m b_9 ((gI m x0 4).toNatClampNeg) 0) x0 4).toNatClampNeg) 0) x0 33) fun b_11 =>
            ib (gI (sI (sI m b_9 ((gI m x0 4).toNatClampNeg) 0) b_10 ((gI (sI m b_9 ((gI m x0 4).toNatClampNeg) 0) x0 4).toNatClampNeg) 0) x0 4) (G.2.2 b_11) <|
              bd (M_X11_next G x0 (sI (sI (sI (sI (sI m b_9 ((gI m x0 4).toNatClampNeg) 0) b_10 ((gI (sI m b_9 ((gI m x0 4).toNatClampNeg) 0) x0 4).toNatClampNeg) 0) b_11 ((gI (sI (sI m b_9 ((gI m x0 4).toNatClampNeg) 0) b_10 ((gI (sI m b_9 ((gI m x0 4).toNatClampNeg) 0) x0 4).toNatClampNeg) 0) x0 4).toNatClampNeg) 0) x0 46 0) x0 41 0)) fun _ m_13 =>
                B_X11_readText_44 G FU x0 m_13
set_option maxRecDepth 100000 in
set_option maxHeartbeats 4000000 in
theorem cM_X11_readText {p : Program} {l : Launch} {e : Env} {s : State} {mth : MethodId} {args : Array Value} {below : List Frame} {meth : Method} {c : Code} {E : EE} {G : GG} {r9 : Unit} {m9 : MM} (C : Cx E G p s mth args meth c cX11_readText RX11 "readText" 1 none) {x0 : Nat} {m : MM} (hM : M_X11_readText G x0 m = some (r9, m9)) (tx0 : Ty E G x0 11) : ∀ (H : Heap) (locs : List Loc), Hp E G m s H locs → ∀ ls : Array Slot, lv_has ls 1 [(0, .ref x0)] → W p l e rmX11_readText s mth args below meth c H locs 0 0 (MQ below (cQv E G m9) args s 0 0 (fun q => E.2.2.1 ≤ q)) (F0 mth 0 ls []) := by
  intro H locs h ls hl
  unfold M_X11_readText at hM
  refine lv_aload_n C.1 C.2.1 dX11_readText_0 rfl (lv_at hl 0 rfl) ?_
  refine gt_11_6 C h tx0 fl_X11_16 dX11_readText_1 ?_
  obtain ⟨b_9, hb_9, hM⟩ := nb_some hM
  have tb_9 : Ty E G b_9 12 := (fun b hb => tyf h tx0 hb) _ hb_9
  refine st_ref hb_9 ?_
  refine lv_aload_n C.1 C.2.1 dX11_readText_4 rfl (lv_at hl 0 rfl) ?_
  refine gt_11_4 C h tx0 fl_X11_183 dX11_readText_5 ?_
  refine lv_iconst (v := 0) C.1 C.2.1 dX11_readText_8 (by decide) ?_
  obtain ⟨hi, hM⟩ := ib_some hM
  refine h_iast C h tb_9 hi dX11_readText_9 (fun H locs h => ?_)
  refine lv_aload_n C.1 C.2.1 dX11_readText_10 rfl (lv_at hl 0 rfl) ?_
  refine gt_11_27 C h tx0 fl_X11_79 dX11_readText_11 ?_
  obtain ⟨b_10, hb_10, hM⟩ := nb_some hM
  have tb_10 : Ty E G b_10 12 := (fun b hb => tyf h tx0 hb) _ hb_10
  refine st_ref hb_10 ?_
  refine lv_aload_n C.1 C.2.1 dX11_readText_14 rfl (lv_at hl 0 rfl) ?_
  refine gt_11_4 C h tx0 fl_X11_183 dX11_readText_15 ?_
  refine lv_iconst (v := 0) C.1 C.2.1 dX11_readText_18 (by decide) ?_
  obtain ⟨hi, hM⟩ := ib_some hM
  refine h_iast C h tb_10 hi dX11_readText_19 (fun H locs h => ?_)
  refine lv_aload_n C.1 C.2.1 dX11_readText_20 rfl (lv_at hl 0 rfl) ?_
  refine gt_11_33 C h tx0 fl_X11_97 dX11_readText_21 ?_
  obtain ⟨b_11, hb_11, hM⟩ := nb_some hM
  have tb_11 : Ty E G b_11 12 := (fun b hb => tyf h tx0 hb) _ hb_11
  refine st_ref hb_11 ?_
  refine lv_aload_n C.1 C.2.1 dX11_readText_24 rfl (lv_at hl 0 rfl) ?_
  refine gt_11_4 C h tx0 fl_X11_183 dX11_readText_25 ?_
  refine lv_iconst (v := 0) C.1 C.2.1 dX11_readText_28 (by decide) ?_
  obtain ⟨hi, hM⟩ := ib_some hM
  refine h_iast C h tb_11 hi dX11_readText_29 (fun H locs h => ?_)
  refine lv_aload_n C.1 C.2.1 dX11_readText_30 rfl (lv_at hl 0 rfl) ?_
  refine lv_iconst (v := 0) C.1 C.2.1 dX11_readText_31 (by decide) ?_
  refine pt_11_46 C h tx0 fl_X11_243 dX11_readText_32 (fun H locs h => ?_)
  refine lv_aload_n C.1 C.2.1 dX11_readText_35 rfl (lv_at hl 0 rfl) ?_
  refine lv_iconst (v := 0) C.1 C.2.1 dX11_readText_36 (by decide) ?_
  refine pt_11_41 C h tx0 fl_X11_186 dX11_readText_37 (fun H locs h => ?_)
  refine lv_aload_n C.1 C.2.1 dX11_readText_40 rfl (lv_at hl 0 rfl) ?_
  obtain ⟨r_12, m_13, hc_12, hM⟩ := bd_some hM
  refine h_callVv C h (As := []) (rest := []) m_13 (c_X11_next hc_12 tx0) 11 rfl (by decide) tx0 im_yX11_next se_yX11_next cy_X11_next rfl ml_X11_256 ⟨by decide, by decide⟩ ⟨Nat.zero_le _, Nat.zero_le _⟩ hl.1 rfl (Nat.le_of_ble_eq_true rfl) dX11_readText_41 (fun H locs h => ?_)
  exact cB_X11_readText_44 C _ _ _ hM tx0 _ _ h ls (lv_sub hl [0] rfl)
theorem cy_X11_readText : Cy yX11_readText cX11_readText 1 none 0 := ⟨cd_yX11_readText, ii_X11, by decide, by decide, by decide +kernel⟩
set_option maxRecDepth 100000 in
theorem c_X11_readText {l : Launch} {E : EE} {G : GG} {x0 : Nat} {m m9 : MM} {r9 : Unit} (hM : M_X11_readText G x0 m = some (r9, m9)) (tx0 : Ty E G x0 11) : Mc l E yX11_readText cX11_readText 1 none rmX11_readText [.ref x0] G m (cQv E G m9) := M_of (by decide) (Nat.le_of_ble_eq_true rfl) (fun p e s mth below meth c C h ls hl => cM_X11_readText C hM tx0 _ _ h ls hl)
abbrev rmX11_memberOf : Room := { frames := 1, cells := 0, slots := 0, locals := 26 }
def B_X11_memberOf_3 (G : GG) : Nat → Nat → Int32 → Int32 → Int32 → Int32 → MM → Option (Int32 × MM)
  | 0, _, _, _, _, _, _ => none
  | fu + 1, x0, x1, x2, x3, x4, m =>
    nb (gR m x0 10) fun b_1 =>
      ib x1 (G.2.2 b_1) <|
        if (gI m b_1 x1.toNatClampNeg) ≤ x4 then
          some ((-1), m)
        else
          nb (gR m x0 18) fun b_2 =>
            ib ((8 * x1) + x4) (G.2.2 b_2) <|
              nb (gR m x0 19) fun b_3 =>
                ib ((8 * x1) + x4) (G.2.2 b_3) <|
                  bd (M_X11_isSame G x0 (gI m b_2 (((8 * x1) + x4).toNatClampNeg)) (gI m b_3 (((8 * x1) + x4).toNatClampNeg)) x2 x3 m) fun r_4 m_5 =>
                    if r_4 = true then
                      some (x4, m_5)
                    else
                      B_X11_memberOf_3 G fu x0 x1 x2 x3 (x4 + 1) m_5
set_option maxRecDepth 100000 in
set_option maxHeartbeats 4000000 in
theorem cB_X11_memberOf_3 {p : Program} {l : Launch} {e : Env} {s : State} {mth : MethodId} {args : Array Value} {below : List Frame} {meth : Method} {c : Code} {E : EE} {G : GG} {r9 : Int32} {m9 : MM} (C : Cx E G p s mth args meth c cX11_memberOf RX11 "memberOf" 5 (some .int)) : ∀ (fu : Nat) (x0 : Nat) (x1 : Int32) (x2 : Int32) (x3 : Int32) (x4 : Int32) (m : MM), B_X11_memberOf_3 G fu x0 x1 x2 x3 x4 m = some (r9, m9) → (Ty E G x0 11) → ∀ (H : Heap) (locs : List Loc), Hp E G m s H locs → ∀ ls : Array Slot, lv_has ls 5 [(0, .ref x0), (1, .int x1), (2, .int x2), (3, .int x3), (4, .int x4)] → W p l e rmX11_memberOf s mth args below meth c H locs 0 0 (MQ below (cQi E r9 G m9) args s 0 0 (fun q => E.2.2.1 ≤ q)) (F0 mth 3 ls []) := by
  intro fu
  induction fu with
  | zero =>
    intro x0 x1 x2 x3 x4 m hM
    rw [B_X11_memberOf_3] at hM
    cases hM
  | succ fu ih =>
    intro x0 x1 x2 x3 x4 m hM tx0 H locs h ls hl
    rw [B_X11_memberOf_3] at hM
    refine lv_iload C.1 C.2.1 dX11_memberOf_3 (lv_at hl 4 rfl) ?_
    refine lv_aload_n C.1 C.2.1 dX11_memberOf_5 rfl (lv_at hl 0 rfl) ?_
    refine gt_11_10 C h tx0 fl_X11_28 dX11_memberOf_6 ?_
    obtain ⟨b_1, hb_1, hM⟩ := nb_some hM
    have tb_1 : Ty E G b_1 12 := (fun b hb => tyf h tx0 hb) _ hb_1
    refine st_ref hb_1 ?_
    refine lv_iload_n C.1 C.2.1 dX11_memberOf_9 rfl (lv_at hl 1 rfl) ?_
    obtain ⟨hi, hM⟩ := ib_some hM
    refine h_iald C h tb_1 hi dX11_memberOf_10 ?_
    refine lv_icmp_ge (tgt := 56) C.1 C.2.1 dX11_memberOf_11 (by decide) (fun q => ?_) (fun q => ?_)
    · have hM := ite_t q hM
      refine lv_iconst (v := (-1)) C.1 C.2.1 dX11_memberOf_56 (by decide) ?_
      obtain ⟨rfl, rfl⟩ := so_inj hM
      exact h_iret C h dX11_memberOf_57
    · have hM := ite_f q hM
      refine lv_aload_n C.1 C.2.1 dX11_memberOf_14 rfl (lv_at hl 0 rfl) ?_
      refine lv_aload_n C.1 C.2.1 dX11_memberOf_15 rfl (lv_at hl 0 rfl) ?_
      refine gt_11_18 C h tx0 fl_X11_52 dX11_memberOf_16 ?_
      obtain ⟨b_2, hb_2, hM⟩ := nb_some hM
      have tb_2 : Ty E G b_2 12 := (fun b hb => tyf h tx0 hb) _ hb_2
      refine st_ref hb_2 ?_
      refine lv_bipush (v := 8) C.1 C.2.1 dX11_memberOf_19 (by decide) ?_
      refine lv_iload_n C.1 C.2.1 dX11_memberOf_21 rfl (lv_at hl 1 rfl) ?_
      refine lv_imul C.1 C.2.1 dX11_memberOf_22 ?_
      refine lv_iload C.1 C.2.1 dX11_memberOf_23 (lv_at hl 4 rfl) ?_
      refine lv_iadd C.1 C.2.1 dX11_memberOf_25 ?_
      obtain ⟨hi, hM⟩ := ib_some hM
      refine h_iald C h tb_2 hi dX11_memberOf_26 ?_
      refine lv_aload_n C.1 C.2.1 dX11_memberOf_27 rfl (lv_at hl 0 rfl) ?_
      refine gt_11_19 C h tx0 fl_X11_55 dX11_memberOf_28 ?_
      obtain ⟨b_3, hb_3, hM⟩ := nb_some hM
      have tb_3 : Ty E G b_3 12 := (fun b hb => tyf h tx0 hb) _ hb_3
      refine st_ref hb_3 ?_
      refine lv_bipush (v := 8) C.1 C.2.1 dX11_memberOf_31 (by decide) ?_
      refine lv_iload_n C.1 C.2.1 dX11_memberOf_33 rfl (lv_at hl 1 rfl) ?_
      refine lv_imul C.1 C.2.1 dX11_memberOf_34 ?_
      refine lv_iload C.1 C.2.1 dX11_memberOf_35 (lv_at hl 4 rfl) ?_
      refine lv_iadd C.1 C.2.1 dX11_memberOf_37 ?_
      obtain ⟨hi, hM⟩ := ib_some hM
      refine h_iald C h tb_3 hi dX11_memberOf_38 ?_
      refine lv_iload_n C.1 C.2.1 dX11_memberOf_39 rfl (lv_at hl 2 rfl) ?_
      refine lv_iload_n C.1 C.2.1 dX11_memberOf_40 rfl (lv_at hl 3 rfl) ?_
      obtain ⟨r_4, m_5, hc_4, hM⟩ := bd_some hM
      refine h_callVi C h (As := [.int (gI m b_2 (((8 * x1) + x4).toNatClampNeg)), .int (gI m b_3 (((8 * x1) + x4).toNatClampNeg)), .int x2, .int x3]) (rest := []) (bz r_4) m_5 (c_X11_isSame hc_4 tx0) 11 rfl (by decide) tx0 im_yX11_isSame se_yX11_isSame cy_X11_isSame rfl ml_X11_300 ⟨by decide, by decide⟩ ⟨Nat.zero_le _, Nat.zero_le _⟩ hl.1 rfl (Nat.le_of_ble_eq_true rfl) dX11_memberOf_41 (fun H locs h => ?_)
      refine h_ifz (tgt := 50) C.1 C.2.1 dX11_memberOf_44 (by decide) (fun q => ?_) (fun q => ?_)
      · have hM := ite_f q hM
        refine lv_iinc (v := x4 + 1) (lv' := [(4, .int (x4 + 1)), (0, .ref x0), (1, .int x1), (2, .int x2), (3, .int x3)]) C.1 C.2.1 dX11_memberOf_50 hl (k := 4) rfl rfl (by decide) rfl (fun ls hl => ?_)
        refine lv_goto (tgt := 3) C.1 C.2.1 dX11_memberOf_53 (by decide) ?_
        exact ih _ _ _ _ _ _ hM tx0 _ _ h ls (lv_sub hl [1, 2, 3, 4, 0] rfl)
      · have hM := ite_t q hM
        refine lv_iload C.1 C.2.1 dX11_memberOf_47 (lv_at hl 4 rfl) ?_
        obtain ⟨rfl, rfl⟩ := so_inj hM
        exact h_iret C h dX11_memberOf_49
def M_X11_memberOf (G : GG) (x0 : Nat) (x1 : Int32) (x2 : Int32) (x3 : Int32) (m : MM) : Option (Int32 × MM) :=
  B_X11_memberOf_3 G FU x0 x1 x2 x3 0 m
set_option maxRecDepth 100000 in
set_option maxHeartbeats 4000000 in
theorem cM_X11_memberOf {p : Program} {l : Launch} {e : Env} {s : State} {mth : MethodId} {args : Array Value} {below : List Frame} {meth : Method} {c : Code} {E : EE} {G : GG} {r9 : Int32} {m9 : MM} (C : Cx E G p s mth args meth c cX11_memberOf RX11 "memberOf" 5 (some .int)) {x0 : Nat} {x1 : Int32} {x2 : Int32} {x3 : Int32} {m : MM} (hM : M_X11_memberOf G x0 x1 x2 x3 m = some (r9, m9)) (tx0 : Ty E G x0 11) : ∀ (H : Heap) (locs : List Loc), Hp E G m s H locs → ∀ ls : Array Slot, lv_has ls 5 [(0, .ref x0), (1, .int x1), (2, .int x2), (3, .int x3)] → W p l e rmX11_memberOf s mth args below meth c H locs 0 0 (MQ below (cQi E r9 G m9) args s 0 0 (fun q => E.2.2.1 ≤ q)) (F0 mth 0 ls []) := by
  intro H locs h ls hl
  unfold M_X11_memberOf at hM
  refine lv_iconst (v := 0) C.1 C.2.1 dX11_memberOf_0 (by decide) ?_
  refine lv_istore (lv' := [(4, .int 0), (0, .ref x0), (1, .int x1), (2, .int x2), (3, .int x3)]) C.1 C.2.1 dX11_memberOf_1 hl (by decide) rfl (fun ls hl => ?_)
  exact cB_X11_memberOf_3 C _ _ _ _ _ _ _ hM tx0 _ _ h ls (lv_sub hl [1, 2, 3, 4, 0] rfl)
theorem cy_X11_memberOf : Cy yX11_memberOf cX11_memberOf 5 (some .int) 3 := ⟨cd_yX11_memberOf, ii_X11, by decide, by decide, by decide +kernel⟩
set_option maxRecDepth 100000 in
theorem c_X11_memberOf {l : Launch} {E : EE} {G : GG} {x0 : Nat} {x1 : Int32} {x2 : Int32} {x3 : Int32} {m m9 : MM} {r9 : Int32} (hM : M_X11_memberOf G x0 x1 x2 x3 m = some (r9, m9)) (tx0 : Ty E G x0 11) : Mc l E yX11_memberOf cX11_memberOf 5 (some .int) rmX11_memberOf [.ref x0, .int x1, .int x2, .int x3] G m (cQi E r9 G m9) := M_of (by decide) (Nat.le_of_ble_eq_true rfl) (fun p e s mth below meth c C h ls hl => cM_X11_memberOf C hM tx0 _ _ h ls hl)
abbrev rmX11_fieldOf : Room := { frames := 1, cells := 0, slots := 0, locals := 26 }
def B_X11_fieldOf_3 (G : GG) : Nat → Nat → Int32 → Int32 → Int32 → Int32 → MM → Option (Int32 × MM)
  | 0, _, _, _, _, _, _ => none
  | fu + 1, x0, x1, x2, x3, x4, m =>
    nb (gR m x0 11) fun b_1 =>
      ib x1 (G.2.2 b_1) <|
        if (gI m b_1 x1.toNatClampNeg) ≤ x4 then
          some ((-1), m)
        else
          nb (gR m x0 22) fun b_2 =>
            ib ((6 * x1) + x4) (G.2.2 b_2) <|
              nb (gR m x0 23) fun b_3 =>
                ib ((6 * x1) + x4) (G.2.2 b_3) <|
                  bd (M_X11_isSame G x0 (gI m b_2 (((6 * x1) + x4).toNatClampNeg)) (gI m b_3 (((6 * x1) + x4).toNatClampNeg)) x2 x3 m) fun r_4 m_5 =>
                    if r_4 = true then
                      some (x4, m_5)
                    else
                      B_X11_fieldOf_3 G fu x0 x1 x2 x3 (x4 + 1) m_5
set_option maxRecDepth 100000 in
set_option maxHeartbeats 4000000 in
theorem cB_X11_fieldOf_3 {p : Program} {l : Launch} {e : Env} {s : State} {mth : MethodId} {args : Array Value} {below : List Frame} {meth : Method} {c : Code} {E : EE} {G : GG} {r9 : Int32} {m9 : MM} (C : Cx E G p s mth args meth c cX11_fieldOf RX11 "fieldOf" 5 (some .int)) : ∀ (fu : Nat) (x0 : Nat) (x1 : Int32) (x2 : Int32) (x3 : Int32) (x4 : Int32) (m : MM), B_X11_fieldOf_3 G fu x0 x1 x2 x3 x4 m = some (r9, m9) → (Ty E G x0 11) → ∀ (H : Heap) (locs : List Loc), Hp E G m s H locs → ∀ ls : Array Slot, lv_has ls 5 [(0, .ref x0), (1, .int x1), (2, .int x2), (3, .int x3), (4, .int x4)] → W p l e rmX11_fieldOf s mth args below meth c H locs 0 0 (MQ below (cQi E r9 G m9) args s 0 0 (fun q => E.2.2.1 ≤ q)) (F0 mth 3 ls []) := by
  intro fu
  induction fu with
  | zero =>
    intro x0 x1 x2 x3 x4 m hM
    rw [B_X11_fieldOf_3] at hM
    cases hM
  | succ fu ih =>
    intro x0 x1 x2 x3 x4 m hM tx0 H locs h ls hl
    rw [B_X11_fieldOf_3] at hM
    refine lv_iload C.1 C.2.1 dX11_fieldOf_3 (lv_at hl 4 rfl) ?_
    refine lv_aload_n C.1 C.2.1 dX11_fieldOf_5 rfl (lv_at hl 0 rfl) ?_
    refine gt_11_11 C h tx0 fl_X11_31 dX11_fieldOf_6 ?_
    obtain ⟨b_1, hb_1, hM⟩ := nb_some hM
    have tb_1 : Ty E G b_1 12 := (fun b hb => tyf h tx0 hb) _ hb_1
    refine st_ref hb_1 ?_
    refine lv_iload_n C.1 C.2.1 dX11_fieldOf_9 rfl (lv_at hl 1 rfl) ?_
    obtain ⟨hi, hM⟩ := ib_some hM
    refine h_iald C h tb_1 hi dX11_fieldOf_10 ?_
    refine lv_icmp_ge (tgt := 56) C.1 C.2.1 dX11_fieldOf_11 (by decide) (fun q => ?_) (fun q => ?_)
    · have hM := ite_t q hM
      refine lv_iconst (v := (-1)) C.1 C.2.1 dX11_fieldOf_56 (by decide) ?_
      obtain ⟨rfl, rfl⟩ := so_inj hM
      exact h_iret C h dX11_fieldOf_57
    · have hM := ite_f q hM
      refine lv_aload_n C.1 C.2.1 dX11_fieldOf_14 rfl (lv_at hl 0 rfl) ?_
      refine lv_aload_n C.1 C.2.1 dX11_fieldOf_15 rfl (lv_at hl 0 rfl) ?_
      refine gt_11_22 C h tx0 fl_X11_64 dX11_fieldOf_16 ?_
      obtain ⟨b_2, hb_2, hM⟩ := nb_some hM
      have tb_2 : Ty E G b_2 12 := (fun b hb => tyf h tx0 hb) _ hb_2
      refine st_ref hb_2 ?_
      refine lv_bipush (v := 6) C.1 C.2.1 dX11_fieldOf_19 (by decide) ?_
      refine lv_iload_n C.1 C.2.1 dX11_fieldOf_21 rfl (lv_at hl 1 rfl) ?_
      refine lv_imul C.1 C.2.1 dX11_fieldOf_22 ?_
      refine lv_iload C.1 C.2.1 dX11_fieldOf_23 (lv_at hl 4 rfl) ?_
      refine lv_iadd C.1 C.2.1 dX11_fieldOf_25 ?_
      obtain ⟨hi, hM⟩ := ib_some hM
      refine h_iald C h tb_2 hi dX11_fieldOf_26 ?_
      refine lv_aload_n C.1 C.2.1 dX11_fieldOf_27 rfl (lv_at hl 0 rfl) ?_
      refine gt_11_23 C h tx0 fl_X11_67 dX11_fieldOf_28 ?_
      obtain ⟨b_3, hb_3, hM⟩ := nb_some hM
      have tb_3 : Ty E G b_3 12 := (fun b hb => tyf h tx0 hb) _ hb_3
      refine st_ref hb_3 ?_
      refine lv_bipush (v := 6) C.1 C.2.1 dX11_fieldOf_31 (by decide) ?_
      refine lv_iload_n C.1 C.2.1 dX11_fieldOf_33 rfl (lv_at hl 1 rfl) ?_
      refine lv_imul C.1 C.2.1 dX11_fieldOf_34 ?_
      refine lv_iload C.1 C.2.1 dX11_fieldOf_35 (lv_at hl 4 rfl) ?_
      refine lv_iadd C.1 C.2.1 dX11_fieldOf_37 ?_
      obtain ⟨hi, hM⟩ := ib_some hM
      refine h_iald C h tb_3 hi dX11_fieldOf_38 ?_
      refine lv_iload_n C.1 C.2.1 dX11_fieldOf_39 rfl (lv_at hl 2 rfl) ?_
      refine lv_iload_n C.1 C.2.1 dX11_fieldOf_40 rfl (lv_at hl 3 rfl) ?_
      obtain ⟨r_4, m_5, hc_4, hM⟩ := bd_some hM
      refine h_callVi C h (As := [.int (gI m b_2 (((6 * x1) + x4).toNatClampNeg)), .int (gI m b_3 (((6 * x1) + x4).toNatClampNeg)), .int x2, .int x3]) (rest := []) (bz r_4) m_5 (c_X11_isSame hc_4 tx0) 11 rfl (by decide) tx0 im_yX11_isSame se_yX11_isSame cy_X11_isSame rfl ml_X11_300 ⟨by decide, by decide⟩ ⟨Nat.zero_le _, Nat.zero_le _⟩ hl.1 rfl (Nat.le_of_ble_eq_true rfl) dX11_fieldOf_41 (fun H locs h => ?_)
      refine h_ifz (tgt := 50) C.1 C.2.1 dX11_fieldOf_44 (by decide) (fun q => ?_) (fun q => ?_)
      · have hM := ite_f q hM
        refine lv_iinc (v := x4 + 1) (lv' := [(4, .int (x4 + 1)), (0, .ref x0), (1, .int x1), (2, .int x2), (3, .int x3)]) C.1 C.2.1 dX11_fieldOf_50 hl (k := 4) rfl rfl (by decide) rfl (fun ls hl => ?_)
        refine lv_goto (tgt := 3) C.1 C.2.1 dX11_fieldOf_53 (by decide) ?_
        exact ih _ _ _ _ _ _ hM tx0 _ _ h ls (lv_sub hl [1, 2, 3, 4, 0] rfl)
      · have hM := ite_t q hM
        refine lv_iload C.1 C.2.1 dX11_fieldOf_47 (lv_at hl 4 rfl) ?_
        obtain ⟨rfl, rfl⟩ := so_inj hM
        exact h_iret C h dX11_fieldOf_49
def M_X11_fieldOf (G : GG) (x0 : Nat) (x1 : Int32) (x2 : Int32) (x3 : Int32) (m : MM) : Option (Int32 × MM) :=
  B_X11_fieldOf_3 G FU x0 x1 x2 x3 0 m
set_option maxRecDepth 100000 in
set_option maxHeartbeats 4000000 in
theorem cM_X11_fieldOf {p : Program} {l : Launch} {e : Env} {s : State} {mth : MethodId} {args : Array Value} {below : List Frame} {meth : Method} {c : Code} {E : EE} {G : GG} {r9 : Int32} {m9 : MM} (C : Cx E G p s mth args meth c cX11_fieldOf RX11 "fieldOf" 5 (some .int)) {x0 : Nat} {x1 : Int32} {x2 : Int32} {x3 : Int32} {m : MM} (hM : M_X11_fieldOf G x0 x1 x2 x3 m = some (r9, m9)) (tx0 : Ty E G x0 11) : ∀ (H : Heap) (locs : List Loc), Hp E G m s H locs → ∀ ls : Array Slot, lv_has ls 5 [(0, .ref x0), (1, .int x1), (2, .int x2), (3, .int x3)] → W p l e rmX11_fieldOf s mth args below meth c H locs 0 0 (MQ below (cQi E r9 G m9) args s 0 0 (fun q => E.2.2.1 ≤ q)) (F0 mth 0 ls []) := by
  intro H locs h ls hl
  unfold M_X11_fieldOf at hM
  refine lv_iconst (v := 0) C.1 C.2.1 dX11_fieldOf_0 (by decide) ?_
  refine lv_istore (lv' := [(4, .int 0), (0, .ref x0), (1, .int x1), (2, .int x2), (3, .int x3)]) C.1 C.2.1 dX11_fieldOf_1 hl (by decide) rfl (fun ls hl => ?_)
  exact cB_X11_fieldOf_3 C _ _ _ _ _ _ _ hM tx0 _ _ h ls (lv_sub hl [1, 2, 3, 4, 0] rfl)
theorem cy_X11_fieldOf : Cy yX11_fieldOf cX11_fieldOf 5 (some .int) 3 := ⟨cd_yX11_fieldOf, ii_X11, by decide, by decide, by decide +kernel⟩
set_option maxRecDepth 100000 in
theorem c_X11_fieldOf {l : Launch} {E : EE} {G : GG} {x0 : Nat} {x1 : Int32} {x2 : Int32} {x3 : Int32} {m m9 : MM} {r9 : Int32} (hM : M_X11_fieldOf G x0 x1 x2 x3 m = some (r9, m9)) (tx0 : Ty E G x0 11) : Mc l E yX11_fieldOf cX11_fieldOf 5 (some .int) rmX11_fieldOf [.ref x0, .int x1, .int x2, .int x3] G m (cQi E r9 G m9) := M_of (by decide) (Nat.le_of_ble_eq_true rfl) (fun p e s mth below meth c C h ls hl => cM_X11_fieldOf C hM tx0 _ _ h ls hl)
abbrev rmX11_constOf : Room := { frames := 1, cells := 0, slots := 0, locals := 26 }
def B_X11_constOf_3 (G : GG) : Nat → Nat → Int32 → Int32 → Int32 → Int32 → MM → Option (Int32 × MM)
  | 0, _, _, _, _, _, _ => none
  | fu + 1, x0, x1, x2, x3, x4, m =>
    nb (gR m x0 9) fun b_1 =>
      ib x1 (G.2.2 b_1) <|
        if (gI m b_1 x1.toNatClampNeg) ≤ x4 then
          some ((-1), m)
        else
          nb (gR m x0 14) fun b_2 =>
            ib ((12 * x1) + x4) (G.2.2 b_2) <|
              nb (gR m x0 15) fun b_3 =>
                ib ((12 * x1) + x4) (G.2.2 b_3) <|
                  bd (M_X11_isSame G x0 (gI m b_2 (((12 * x1) + x4).toNatClampNeg)) (gI m b_3 (((12 * x1) + x4).toNatClampNeg)) x2 x3 m) fun r_4 m_5 =>
                    if r_4 = true then
                      some (x4, m_5)
                    else
                      B_X11_constOf_3 G fu x0 x1 x2 x3 (x4 + 1) m_5
set_option maxRecDepth 100000 in
set_option maxHeartbeats 4000000 in
theorem cB_X11_constOf_3 {p : Program} {l : Launch} {e : Env} {s : State} {mth : MethodId} {args : Array Value} {below : List Frame} {meth : Method} {c : Code} {E : EE} {G : GG} {r9 : Int32} {m9 : MM} (C : Cx E G p s mth args meth c cX11_constOf RX11 "constOf" 5 (some .int)) : ∀ (fu : Nat) (x0 : Nat) (x1 : Int32) (x2 : Int32) (x3 : Int32) (x4 : Int32) (m : MM), B_X11_constOf_3 G fu x0 x1 x2 x3 x4 m = some (r9, m9) → (Ty E G x0 11) → ∀ (H : Heap) (locs : List Loc), Hp E G m s H locs → ∀ ls : Array Slot, lv_has ls 5 [(0, .ref x0), (1, .int x1), (2, .int x2), (3, .int x3), (4, .int x4)] → W p l e rmX11_constOf s mth args below meth c H locs 0 0 (MQ below (cQi E r9 G m9) args s 0 0 (fun q => E.2.2.1 ≤ q)) (F0 mth 3 ls []) := by
  intro fu
  induction fu with
  | zero =>
    intro x0 x1 x2 x3 x4 m hM
    rw [B_X11_constOf_3] at hM
    cases hM
  | succ fu ih =>
    intro x0 x1 x2 x3 x4 m hM tx0 H locs h ls hl
    rw [B_X11_constOf_3] at hM
    refine lv_iload C.1 C.2.1 dX11_constOf_3 (lv_at hl 4 rfl) ?_
    refine lv_aload_n C.1 C.2.1 dX11_constOf_5 rfl (lv_at hl 0 rfl) ?_
    refine gt_11_9 C h tx0 fl_X11_25 dX11_constOf_6 ?_
    obtain ⟨b_1, hb_1, hM⟩ := nb_some hM
    have tb_1 : Ty E G b_1 12 := (fun b hb => tyf h tx0 hb) _ hb_1
    refine st_ref hb_1 ?_
    refine lv_iload_n C.1 C.2.1 dX11_constOf_9 rfl (lv_at hl 1 rfl) ?_
    obtain ⟨hi, hM⟩ := ib_some hM
    refine h_iald C h tb_1 hi dX11_constOf_10 ?_
    refine lv_icmp_ge (tgt := 56) C.1 C.2.1 dX11_constOf_11 (by decide) (fun q => ?_) (fun q => ?_)
    · have hM := ite_t q hM
      refine lv_iconst (v := (-1)) C.1 C.2.1 dX11_constOf_56 (by decide) ?_
      obtain ⟨rfl, rfl⟩ := so_inj hM
      exact h_iret C h dX11_constOf_57
    · have hM := ite_f q hM
      refine lv_aload_n C.1 C.2.1 dX11_constOf_14 rfl (lv_at hl 0 rfl) ?_
      refine lv_aload_n C.1 C.2.1 dX11_constOf_15 rfl (lv_at hl 0 rfl) ?_
      refine gt_11_14 C h tx0 fl_X11_40 dX11_constOf_16 ?_
      obtain ⟨b_2, hb_2, hM⟩ := nb_some hM
      have tb_2 : Ty E G b_2 12 := (fun b hb => tyf h tx0 hb) _ hb_2
      refine st_ref hb_2 ?_
      refine lv_bipush (v := 12) C.1 C.2.1 dX11_constOf_19 (by decide) ?_
      refine lv_iload_n C.1 C.2.1 dX11_constOf_21 rfl (lv_at hl 1 rfl) ?_
      refine lv_imul C.1 C.2.1 dX11_constOf_22 ?_
      refine lv_iload C.1 C.2.1 dX11_constOf_23 (lv_at hl 4 rfl) ?_
      refine lv_iadd C.1 C.2.1 dX11_constOf_25 ?_
      obtain ⟨hi, hM⟩ := ib_some hM
      refine h_iald C h tb_2 hi dX11_constOf_26 ?_
      refine lv_aload_n C.1 C.2.1 dX11_constOf_27 rfl (lv_at hl 0 rfl) ?_
      refine gt_11_15 C h tx0 fl_X11_43 dX11_constOf_28 ?_
      obtain ⟨b_3, hb_3, hM⟩ := nb_some hM
      have tb_3 : Ty E G b_3 12 := (fun b hb => tyf h tx0 hb) _ hb_3
      refine st_ref hb_3 ?_
      refine lv_bipush (v := 12) C.1 C.2.1 dX11_constOf_31 (by decide) ?_
      refine lv_iload_n C.1 C.2.1 dX11_constOf_33 rfl (lv_at hl 1 rfl) ?_
      refine lv_imul C.1 C.2.1 dX11_constOf_34 ?_
      refine lv_iload C.1 C.2.1 dX11_constOf_35 (lv_at hl 4 rfl) ?_
      refine lv_iadd C.1 C.2.1 dX11_constOf_37 ?_
      obtain ⟨hi, hM⟩ := ib_some hM
      refine h_iald C h tb_3 hi dX11_constOf_38 ?_
      refine lv_iload_n C.1 C.2.1 dX11_constOf_39 rfl (lv_at hl 2 rfl) ?_
      refine lv_iload_n C.1 C.2.1 dX11_constOf_40 rfl (lv_at hl 3 rfl) ?_
      obtain ⟨r_4, m_5, hc_4, hM⟩ := bd_some hM
      refine h_callVi C h (As := [.int (gI m b_2 (((12 * x1) + x4).toNatClampNeg)), .int (gI m b_3 (((12 * x1) + x4).toNatClampNeg)), .int x2, .int x3]) (rest := []) (bz r_4) m_5 (c_X11_isSame hc_4 tx0) 11 rfl (by decide) tx0 im_yX11_isSame se_yX11_isSame cy_X11_isSame rfl ml_X11_300 ⟨by decide, by decide⟩ ⟨Nat.zero_le _, Nat.zero_le _⟩ hl.1 rfl (Nat.le_of_ble_eq_true rfl) dX11_constOf_41 (fun H locs h => ?_)
      refine h_ifz (tgt := 50) C.1 C.2.1 dX11_constOf_44 (by decide) (fun q => ?_) (fun q => ?_)
      · have hM := ite_f q hM
        refine lv_iinc (v := x4 + 1) (lv' := [(4, .int (x4 + 1)), (0, .ref x0), (1, .int x1), (2, .int x2), (3, .int x3)]) C.1 C.2.1 dX11_constOf_50 hl (k := 4) rfl rfl (by decide) rfl (fun ls hl => ?_)
        refine lv_goto (tgt := 3) C.1 C.2.1 dX11_constOf_53 (by decide) ?_
        exact ih _ _ _ _ _ _ hM tx0 _ _ h ls (lv_sub hl [1, 2, 3, 4, 0] rfl)
      · have hM := ite_t q hM
        refine lv_iload C.1 C.2.1 dX11_constOf_47 (lv_at hl 4 rfl) ?_
        obtain ⟨rfl, rfl⟩ := so_inj hM
        exact h_iret C h dX11_constOf_49
def M_X11_constOf (G : GG) (x0 : Nat) (x1 : Int32) (x2 : Int32) (x3 : Int32) (m : MM) : Option (Int32 × MM) :=
  B_X11_constOf_3 G FU x0 x1 x2 x3 0 m
set_option maxRecDepth 100000 in
set_option maxHeartbeats 4000000 in
theorem cM_X11_constOf {p : Program} {l : Launch} {e : Env} {s : State} {mth : MethodId} {args : Array Value} {below : List Frame} {meth : Method} {c : Code} {E : EE} {G : GG} {r9 : Int32} {m9 : MM} (C : Cx E G p s mth args meth c cX11_constOf RX11 "constOf" 5 (some .int)) {x0 : Nat} {x1 : Int32} {x2 : Int32} {x3 : Int32} {m : MM} (hM : M_X11_constOf G x0 x1 x2 x3 m = some (r9, m9)) (tx0 : Ty E G x0 11) : ∀ (H : Heap) (locs : List Loc), Hp E G m s H locs → ∀ ls : Array Slot, lv_has ls 5 [(0, .ref x0), (1, .int x1), (2, .int x2), (3, .int x3)] → W p l e rmX11_constOf s mth args below meth c H locs 0 0 (MQ below (cQi E r9 G m9) args s 0 0 (fun q => E.2.2.1 ≤ q)) (F0 mth 0 ls []) := by
  intro H locs h ls hl
  unfold M_X11_constOf at hM
  refine lv_iconst (v := 0) C.1 C.2.1 dX11_constOf_0 (by decide) ?_
  refine lv_istore (lv' := [(4, .int 0), (0, .ref x0), (1, .int x1), (2, .int x2), (3, .int x3)]) C.1 C.2.1 dX11_constOf_1 hl (by decide) rfl (fun ls hl => ?_)
  exact cB_X11_constOf_3 C _ _ _ _ _ _ _ hM tx0 _ _ h ls (lv_sub hl [1, 2, 3, 4, 0] rfl)
theorem cy_X11_constOf : Cy yX11_constOf cX11_constOf 5 (some .int) 3 := ⟨cd_yX11_constOf, ii_X11, by decide, by decide, by decide +kernel⟩
set_option maxRecDepth 100000 in
theorem c_X11_constOf {l : Launch} {E : EE} {G : GG} {x0 : Nat} {x1 : Int32} {x2 : Int32} {x3 : Int32} {m m9 : MM} {r9 : Int32} (hM : M_X11_constOf G x0 x1 x2 x3 m = some (r9, m9)) (tx0 : Ty E G x0 11) : Mc l E yX11_constOf cX11_constOf 5 (some .int) rmX11_constOf [.ref x0, .int x1, .int x2, .int x3] G m (cQi E r9 G m9) := M_of (by decide) (Nat.le_of_ble_eq_true rfl) (fun p e s mth below meth c C h ls hl => cM_X11_constOf C hM tx0 _ _ h ls hl)
abbrev rmX11_enumOf : Room := { frames := 1, cells := 0, slots := 0, locals := 26 }
def B_X11_enumOf_8 (G : GG) : Nat → Nat → Int32 → Int32 → Int32 → MM → Option (Int32 × MM)
  | 0, _, _, _, _, _ => none
  | fu + 1, x0, x1, x2, x3, m =>
    nb (gR m x0 6) fun b_1 =>
      ib (gI m x0 4) (G.2.2 b_1) <|
        if ((8 * (gI m x0 4)) + (gI m b_1 ((gI m x0 4).toNatClampNeg))) ≤ x3 then
          some ((-1), m)
        else
          nb (gR m x0 7) fun b_2 =>
            ib x3 (G.2.2 b_2) <|
              nb (gR m x0 8) fun b_3 =>
                ib x3 (G.2.2 b_3) <|
                  bd (M_X11_isSame G x0 (gI m b_2 x3.toNatClampNeg) (gI m b_3 x3.toNatClampNeg) x1 x2 m) fun r_4 m_5 =>
                    if r_4 = true then
                      some (x3, m_5)
                    else
                      B_X11_enumOf_8 G fu x0 x1 x2 (x3 + 1) m_5
set_option maxRecDepth 100000 in
set_option maxHeartbeats 4000000 in
theorem cB_X11_enumOf_8 {p : Program} {l : Launch} {e : Env} {s : State} {mth : MethodId} {args : Array Value} {below : List Frame} {meth : Method} {c : Code} {E : EE} {G : GG} {r9 : Int32} {m9 : MM} (C : Cx E G p s mth args meth c cX11_enumOf RX11 "enumOf" 4 (some .int)) : ∀ (fu : Nat) (x0 : Nat) (x1 : Int32) (x2 : Int32) (x3 : Int32) (m : MM), B_X11_enumOf_8 G fu x0 x1 x2 x3 m = some (r9, m9) → (Ty E G x0 11) → ∀ (H : Heap) (locs : List Loc), Hp E G m s H locs → ∀ ls : Array Slot, lv_has ls 4 [(0, .ref x0), (1, .int x1), (2, .int x2), (3, .int x3)] → W p l e rmX11_enumOf s mth args below meth c H locs 0 0 (MQ below (cQi E r9 G m9) args s 0 0 (fun q => E.2.2.1 ≤ q)) (F0 mth 8 ls []) := by
  intro fu
  induction fu with
  | zero =>
    intro x0 x1 x2 x3 m hM
    rw [B_X11_enumOf_8] at hM
    cases hM
  | succ fu ih =>
    intro x0 x1 x2 x3 m hM tx0 H locs h ls hl
    rw [B_X11_enumOf_8] at hM
    refine lv_iload_n C.1 C.2.1 dX11_enumOf_8 rfl (lv_at hl 3 rfl) ?_
    refine lv_bipush (v := 8) C.1 C.2.1 dX11_enumOf_9 (by decide) ?_
    refine lv_aload_n C.1 C.2.1 dX11_enumOf_11 rfl (lv_at hl 0 rfl) ?_
    refine gt_11_4 C h tx0 fl_X11_183 dX11_enumOf_12 ?_
    refine lv_imul C.1 C.2.1 dX11_enumOf_15 ?_
    refine lv_aload_n C.1 C.2.1 dX11_enumOf_16 rfl (lv_at hl 0 rfl) ?_
    refine gt_11_6 C h tx0 fl_X11_16 dX11_enumOf_17 ?_
    obtain ⟨b_1, hb_1, hM⟩ := nb_some hM
    have tb_1 : Ty E G b_1 12 := (fun b hb => tyf h tx0 hb) _ hb_1
    refine st_ref hb_1 ?_
    refine lv_aload_n C.1 C.2.1 dX11_enumOf_20 rfl (lv_at hl 0 rfl) ?_
    refine gt_11_4 C h tx0 fl_X11_183 dX11_enumOf_21 ?_
    obtain ⟨hi, hM⟩ := ib_some hM
    refine h_iald C h tb_1 hi dX11_enumOf_24 ?_
    refine lv_iadd C.1 C.2.1 dX11_enumOf_25 ?_
    refine lv_icmp_ge (tgt := 58) C.1 C.2.1 dX11_enumOf_26 (by decide) (fun q => ?_) (fun q => ?_)
    · have hM := ite_t q hM
      refine lv_iconst (v := (-1)) C.1 C.2.1 dX11_enumOf_58 (by decide) ?_
      obtain ⟨rfl, rfl⟩ := so_inj hM
      exact h_iret C h dX11_enumOf_59
    · have hM := ite_f q hM
      refine lv_aload_n C.1 C.2.1 dX11_enumOf_29 rfl (lv_at hl 0 rfl) ?_
      refine lv_aload_n C.1 C.2.1 dX11_enumOf_30 rfl (lv_at hl 0 rfl) ?_
      refine gt_11_7 C h tx0 fl_X11_19 dX11_enumOf_31 ?_
      obtain ⟨b_2, hb_2, hM⟩ := nb_some hM
      have tb_2 : Ty E G b_2 12 := (fun b hb => tyf h tx0 hb) _ hb_2
      refine st_ref hb_2 ?_
      refine lv_iload_n C.1 C.2.1 dX11_enumOf_34 rfl (lv_at hl 3 rfl) ?_
      obtain ⟨hi, hM⟩ := ib_some hM
      refine h_iald C h tb_2 hi dX11_enumOf_35 ?_
      refine lv_aload_n C.1 C.2.1 dX11_enumOf_36 rfl (lv_at hl 0 rfl) ?_
      refine gt_11_8 C h tx0 fl_X11_22 dX11_enumOf_37 ?_
      obtain ⟨b_3, hb_3, hM⟩ := nb_some hM
      have tb_3 : Ty E G b_3 12 := (fun b hb => tyf h tx0 hb) _ hb_3
      refine st_ref hb_3 ?_
      refine lv_iload_n C.1 C.2.1 dX11_enumOf_40 rfl (lv_at hl 3 rfl) ?_
      obtain ⟨hi, hM⟩ := ib_some hM
      refine h_iald C h tb_3 hi dX11_enumOf_41 ?_
      refine lv_iload_n C.1 C.2.1 dX11_enumOf_42 rfl (lv_at hl 1 rfl) ?_
      refine lv_iload_n C.1 C.2.1 dX11_enumOf_43 rfl (lv_at hl 2 rfl) ?_
      obtain ⟨r_4, m_5, hc_4, hM⟩ := bd_some hM
      refine h_callVi C h (As := [.int (gI m b_2 x3.toNatClampNeg), .int (gI m b_3 x3.toNatClampNeg), .int x1, .int x2]) (rest := []) (bz r_4) m_5 (c_X11_isSame hc_4 tx0) 11 rfl (by decide) tx0 im_yX11_isSame se_yX11_isSame cy_X11_isSame rfl ml_X11_300 ⟨by decide, by decide⟩ ⟨Nat.zero_le _, Nat.zero_le _⟩ hl.1 rfl (Nat.le_of_ble_eq_true rfl) dX11_enumOf_44 (fun H locs h => ?_)
      refine h_ifz (tgt := 52) C.1 C.2.1 dX11_enumOf_47 (by decide) (fun q => ?_) (fun q => ?_)
      · have hM := ite_f q hM
        refine lv_iinc (v := x3 + 1) (lv' := [(3, .int (x3 + 1)), (0, .ref x0), (1, .int x1), (2, .int x2)]) C.1 C.2.1 dX11_enumOf_52 hl (k := 3) rfl rfl (by decide) rfl (fun ls hl => ?_)
        refine lv_goto (tgt := 8) C.1 C.2.1 dX11_enumOf_55 (by decide) ?_
        exact ih _ _ _ _ _ hM tx0 _ _ h ls (lv_sub hl [1, 2, 3, 0] rfl)
      · have hM := ite_t q hM
        refine lv_iload_n C.1 C.2.1 dX11_enumOf_50 rfl (lv_at hl 3 rfl) ?_
        obtain ⟨rfl, rfl⟩ := so_inj hM
        exact h_iret C h dX11_enumOf_51
def M_X11_enumOf (G : GG) (x0 : Nat) (x1 : Int32) (x2 : Int32) (m : MM) : Option (Int32 × MM) :=
  B_X11_enumOf_8 G FU x0 x1 x2 (8 * (gI m x0 4)) m
set_option maxRecDepth 100000 in
set_option maxHeartbeats 4000000 in
theorem cM_X11_enumOf {p : Program} {l : Launch} {e : Env} {s : State} {mth : MethodId} {args : Array Value} {below : List Frame} {meth : Method} {c : Code} {E : EE} {G : GG} {r9 : Int32} {m9 : MM} (C : Cx E G p s mth args meth c cX11_enumOf RX11 "enumOf" 4 (some .int)) {x0 : Nat} {x1 : Int32} {x2 : Int32} {m : MM} (hM : M_X11_enumOf G x0 x1 x2 m = some (r9, m9)) (tx0 : Ty E G x0 11) : ∀ (H : Heap) (locs : List Loc), Hp E G m s H locs → ∀ ls : Array Slot, lv_has ls 4 [(0, .ref x0), (1, .int x1), (2, .int x2)] → W p l e rmX11_enumOf s mth args below meth c H locs 0 0 (MQ below (cQi E r9 G m9) args s 0 0 (fun q => E.2.2.1 ≤ q)) (F0 mth 0 ls []) := by
  intro H locs h ls hl
  unfold M_X11_enumOf at hM
  refine lv_bipush (v := 8) C.1 C.2.1 dX11_enumOf_0 (by decide) ?_
  refine lv_aload_n C.1 C.2.1 dX11_enumOf_2 rfl (lv_at hl 0 rfl) ?_
  refine gt_11_4 C h tx0 fl_X11_183 dX11_enumOf_3 ?_
  refine lv_imul C.1 C.2.1 dX11_enumOf_6 ?_
  refine lv_istore_n (lv' := [(3, .int (8 * (gI m x0 4))), (0, .ref x0), (1, .int x1), (2, .int x2)]) C.1 C.2.1 dX11_enumOf_7 rfl hl (by decide) rfl (fun ls hl => ?_)
  exact cB_X11_enumOf_8 C _ _ _ _ _ _ hM tx0 _ _ h ls (lv_sub hl [1, 2, 3, 0] rfl)
theorem cy_X11_enumOf : Cy yX11_enumOf cX11_enumOf 4 (some .int) 2 := ⟨cd_yX11_enumOf, ii_X11, by decide, by decide, by decide +kernel⟩
set_option maxRecDepth 100000 in
theorem c_X11_enumOf {l : Launch} {E : EE} {G : GG} {x0 : Nat} {x1 : Int32} {x2 : Int32} {m m9 : MM} {r9 : Int32} (hM : M_X11_enumOf G x0 x1 x2 m = some (r9, m9)) (tx0 : Ty E G x0 11) : Mc l E yX11_enumOf cX11_enumOf 4 (some .int) rmX11_enumOf [.ref x0, .int x1, .int x2] G m (cQi E r9 G m9) := M_of (by decide) (Nat.le_of_ble_eq_true rfl) (fun p e s mth below meth c C h ls hl => cM_X11_enumOf C hM tx0 _ _ h ls hl)
abbrev rmX11_giveBy : Room := { frames := 1, cells := 0, slots := 0, locals := 26 }
def B_X11_giveBy_10 (G : GG) : Nat → Nat → Int32 → Int32 → Int32 → Int32 → MM → Option (Int32 × MM)
  | 0, _, _, _, _, _, _ => none
  | fu + 1, x0, x1, x2, x3, x4, m =>
    nb (gR m x0 27) fun b_1 =>
      ib (gI m x0 4) (G.2.2 b_1) <|
        if ((520 * (gI m x0 4)) + (gI m b_1 ((gI m x0 4).toNatClampNeg))) ≤ x4 then
          some ((-1), m)
        else
          nb (gR m x0 28) fun b_2 =>
            ib x4 (G.2.2 b_2) <|
              if (gI m b_2 x4.toNatClampNeg) = x1 then
                nb (gR m x0 29) fun b_3 =>
                  ib x4 (G.2.2 b_3) <|
                    nb (gR m x0 30) fun b_4 =>
                      ib x4 (G.2.2 b_4) <|
                        bd (M_X11_isSame G x0 (gI m b_3 x4.toNatClampNeg) (gI m b_4 x4.toNatClampNeg) x2 x3 m) fun r_5 m_6 =>
                          if r_5 = true then
                            some (x4, m_6)
                          else
                            B_X11_giveBy_10 G fu x0 x1 x2 x3 (x4 + 1) m_6
              else
                B_X11_giveBy_10 G fu x0 x1 x2 x3 (x4 + 1) m
set_option maxRecDepth 100000 in
set_option maxHeartbeats 4000000 in
theorem cB_X11_giveBy_10 {p : Program} {l : Launch} {e : Env} {s : State} {mth : MethodId} {args : Array Value} {below : List Frame} {meth : Method} {c : Code} {E : EE} {G : GG} {r9 : Int32} {m9 : MM} (C : Cx E G p s mth args meth c cX11_giveBy RX11 "giveBy" 5 (some .int)) : ∀ (fu : Nat) (x0 : Nat) (x1 : Int32) (x2 : Int32) (x3 : Int32) (x4 : Int32) (m : MM), B_X11_giveBy_10 G fu x0 x1 x2 x3 x4 m = some (r9, m9) → (Ty E G x0 11) → ∀ (H : Heap) (locs : List Loc), Hp E G m s H locs → ∀ ls : Array Slot, lv_has ls 5 [(0, .ref x0), (1, .int x1), (2, .int x2), (3, .int x3), (4, .int x4)] → W p l e rmX11_giveBy s mth args below meth c H locs 0 0 (MQ below (cQi E r9 G m9) args s 0 0 (fun q => E.2.2.1 ≤ q)) (F0 mth 10 ls []) := by
  intro fu
  induction fu with
  | zero =>
    intro x0 x1 x2 x3 x4 m hM
    rw [B_X11_giveBy_10] at hM
    cases hM
  | succ fu ih =>
    intro x0 x1 x2 x3 x4 m hM tx0 H locs h ls hl
    rw [B_X11_giveBy_10] at hM
    refine lv_iload C.1 C.2.1 dX11_giveBy_10 (lv_at hl 4 rfl) ?_
    refine lv_sipush (v := 520) C.1 C.2.1 dX11_giveBy_12 (by decide) ?_
    refine lv_aload_n C.1 C.2.1 dX11_giveBy_15 rfl (lv_at hl 0 rfl) ?_
    refine gt_11_4 C h tx0 fl_X11_183 dX11_giveBy_16 ?_
    refine lv_imul C.1 C.2.1 dX11_giveBy_19 ?_
    refine lv_aload_n C.1 C.2.1 dX11_giveBy_20 rfl (lv_at hl 0 rfl) ?_
    refine gt_11_27 C h tx0 fl_X11_79 dX11_giveBy_21 ?_
    obtain ⟨b_1, hb_1, hM⟩ := nb_some hM
    have tb_1 : Ty E G b_1 12 := (fun b hb => tyf h tx0 hb) _ hb_1
    refine st_ref hb_1 ?_
    refine lv_aload_n C.1 C.2.1 dX11_giveBy_24 rfl (lv_at hl 0 rfl) ?_
    refine gt_11_4 C h tx0 fl_X11_183 dX11_giveBy_25 ?_
    obtain ⟨hi, hM⟩ := ib_some hM
    refine h_iald C h tb_1 hi dX11_giveBy_28 ?_
    refine lv_iadd C.1 C.2.1 dX11_giveBy_29 ?_
    refine lv_icmp_ge (tgt := 76) C.1 C.2.1 dX11_giveBy_30 (by decide) (fun q => ?_) (fun q => ?_)
    · have hM := ite_t q hM
      refine lv_iconst (v := (-1)) C.1 C.2.1 dX11_giveBy_76 (by decide) ?_
      obtain ⟨rfl, rfl⟩ := so_inj hM
      exact h_iret C h dX11_giveBy_77
    · have hM := ite_f q hM
      refine lv_aload_n C.1 C.2.1 dX11_giveBy_33 rfl (lv_at hl 0 rfl) ?_
      refine gt_11_28 C h tx0 fl_X11_82 dX11_giveBy_34 ?_
      obtain ⟨b_2, hb_2, hM⟩ := nb_some hM
      have tb_2 : Ty E G b_2 12 := (fun b hb => tyf h tx0 hb) _ hb_2
      refine st_ref hb_2 ?_
      refine lv_iload C.1 C.2.1 dX11_giveBy_37 (lv_at hl 4 rfl) ?_
      obtain ⟨hi, hM⟩ := ib_some hM
      refine h_iald C h tb_2 hi dX11_giveBy_39 ?_
      refine lv_iload_n C.1 C.2.1 dX11_giveBy_40 rfl (lv_at hl 1 rfl) ?_
      refine lv_icmp_ne (tgt := 70) C.1 C.2.1 dX11_giveBy_41 (by decide) (fun q => ?_) (fun q => ?_)
      · have hM := ite_f q hM
        refine lv_iinc (v := x4 + 1) (lv' := [(4, .int (x4 + 1)), (0, .ref x0), (1, .int x1), (2, .int x2), (3, .int x3)]) C.1 C.2.1 dX11_giveBy_70 hl (k := 4) rfl rfl (by decide) rfl (fun ls hl => ?_)
        refine lv_goto (tgt := 10) C.1 C.2.1 dX11_giveBy_73 (by decide) ?_
        exact ih _ _ _ _ _ _ hM tx0 _ _ h ls (lv_sub hl [1, 2, 3, 4, 0] rfl)
      · have hM := ite_t q hM
        refine lv_aload_n C.1 C.2.1 dX11_giveBy_44 rfl (lv_at hl 0 rfl) ?_
        refine lv_aload_n C.1 C.2.1 dX11_giveBy_45 rfl (lv_at hl 0 rfl) ?_
        refine gt_11_29 C h tx0 fl_X11_85 dX11_giveBy_46 ?_
        obtain ⟨b_3, hb_3, hM⟩ := nb_some hM
        have tb_3 : Ty E G b_3 12 := (fun b hb => tyf h tx0 hb) _ hb_3
        refine st_ref hb_3 ?_
        refine lv_iload C.1 C.2.1 dX11_giveBy_49 (lv_at hl 4 rfl) ?_
        obtain ⟨hi, hM⟩ := ib_some hM
        refine h_iald C h tb_3 hi dX11_giveBy_51 ?_
        refine lv_aload_n C.1 C.2.1 dX11_giveBy_52 rfl (lv_at hl 0 rfl) ?_
        refine gt_11_30 C h tx0 fl_X11_88 dX11_giveBy_53 ?_
        obtain ⟨b_4, hb_4, hM⟩ := nb_some hM
        have tb_4 : Ty E G b_4 12 := (fun b hb => tyf h tx0 hb) _ hb_4
        refine st_ref hb_4 ?_
        refine lv_iload C.1 C.2.1 dX11_giveBy_56 (lv_at hl 4 rfl) ?_
        obtain ⟨hi, hM⟩ := ib_some hM
        refine h_iald C h tb_4 hi dX11_giveBy_58 ?_
        refine lv_iload_n C.1 C.2.1 dX11_giveBy_59 rfl (lv_at hl 2 rfl) ?_
        refine lv_iload_n C.1 C.2.1 dX11_giveBy_60 rfl (lv_at hl 3 rfl) ?_
        obtain ⟨r_5, m_6, hc_5, hM⟩ := bd_some hM
        refine h_callVi C h (As := [.int (gI m b_3 x4.toNatClampNeg), .int (gI m b_4 x4.toNatClampNeg), .int x2, .int x3]) (rest := []) (bz r_5) m_6 (c_X11_isSame hc_5 tx0) 11 rfl (by decide) tx0 im_yX11_isSame se_yX11_isSame cy_X11_isSame rfl ml_X11_300 ⟨by decide, by decide⟩ ⟨Nat.zero_le _, Nat.zero_le _⟩ hl.1 rfl (Nat.le_of_ble_eq_true rfl) dX11_giveBy_61 (fun H locs h => ?_)
        refine h_ifz (tgt := 70) C.1 C.2.1 dX11_giveBy_64 (by decide) (fun q => ?_) (fun q => ?_)
        · have hM := ite_f q hM
          refine lv_iinc (v := x4 + 1) (lv' := [(4, .int (x4 + 1)), (0, .ref x0), (1, .int x1), (2, .int x2), (3, .int x3)]) C.1 C.2.1 dX11_giveBy_70 hl (k := 4) rfl rfl (by decide) rfl (fun ls hl => ?_)
          refine lv_goto (tgt := 10) C.1 C.2.1 dX11_giveBy_73 (by decide) ?_
          exact ih _ _ _ _ _ _ hM tx0 _ _ h ls (lv_sub hl [1, 2, 3, 4, 0] rfl)
        · have hM := ite_t q hM
          refine lv_iload C.1 C.2.1 dX11_giveBy_67 (lv_at hl 4 rfl) ?_
          obtain ⟨rfl, rfl⟩ := so_inj hM
          exact h_iret C h dX11_giveBy_69
def M_X11_giveBy (G : GG) (x0 : Nat) (x1 : Int32) (x2 : Int32) (x3 : Int32) (m : MM) : Option (Int32 × MM) :=
  B_X11_giveBy_10 G FU x0 x1 x2 x3 (520 * (gI m x0 4)) m
set_option maxRecDepth 100000 in
set_option maxHeartbeats 4000000 in
theorem cM_X11_giveBy {p : Program} {l : Launch} {e : Env} {s : State} {mth : MethodId} {args : Array Value} {below : List Frame} {meth : Method} {c : Code} {E : EE} {G : GG} {r9 : Int32} {m9 : MM} (C : Cx E G p s mth args meth c cX11_giveBy RX11 "giveBy" 5 (some .int)) {x0 : Nat} {x1 : Int32} {x2 : Int32} {x3 : Int32} {m : MM} (hM : M_X11_giveBy G x0 x1 x2 x3 m = some (r9, m9)) (tx0 : Ty E G x0 11) : ∀ (H : Heap) (locs : List Loc), Hp E G m s H locs → ∀ ls : Array Slot, lv_has ls 5 [(0, .ref x0), (1, .int x1), (2, .int x2), (3, .int x3)] → W p l e rmX11_giveBy s mth args below meth c H locs 0 0 (MQ below (cQi E r9 G m9) args s 0 0 (fun q => E.2.2.1 ≤ q)) (F0 mth 0 ls []) := by
  intro H locs h ls hl
  unfold M_X11_giveBy at hM
  refine lv_sipush (v := 520) C.1 C.2.1 dX11_giveBy_0 (by decide) ?_
  refine lv_aload_n C.1 C.2.1 dX11_giveBy_3 rfl (lv_at hl 0 rfl) ?_
  refine gt_11_4 C h tx0 fl_X11_183 dX11_giveBy_4 ?_
  refine lv_imul C.1 C.2.1 dX11_giveBy_7 ?_
  refine lv_istore (lv' := [(4, .int (520 * (gI m x0 4))), (0, .ref x0), (1, .int x1), (2, .int x2), (3, .int x3)]) C.1 C.2.1 dX11_giveBy_8 hl (by decide) rfl (fun ls hl => ?_)
  exact cB_X11_giveBy_10 C _ _ _ _ _ _ _ hM tx0 _ _ h ls (lv_sub hl [1, 2, 3, 4, 0] rfl)
theorem cy_X11_giveBy : Cy yX11_giveBy cX11_giveBy 5 (some .int) 3 := ⟨cd_yX11_giveBy, ii_X11, by decide, by decide, by decide +kernel⟩
set_option maxRecDepth 100000 in
theorem c_X11_giveBy {l : Launch} {E : EE} {G : GG} {x0 : Nat} {x1 : Int32} {x2 : Int32} {x3 : Int32} {m m9 : MM} {r9 : Int32} (hM : M_X11_giveBy G x0 x1 x2 x3 m = some (r9, m9)) (tx0 : Ty E G x0 11) : Mc l E yX11_giveBy cX11_giveBy 5 (some .int) rmX11_giveBy [.ref x0, .int x1, .int x2, .int x3] G m (cQi E r9 G m9) := M_of (by decide) (Nat.le_of_ble_eq_true rfl) (fun p e s mth below meth c C h ls hl => cM_X11_giveBy C hM tx0 _ _ h ls hl)
abbrev rmX11_first : Room := { frames := 1, cells := 0, slots := 0, locals := 26 }
def B_X11_first_156 (G : GG) : Nat → Nat → Int32 → Int32 → Int32 → Int32 → Int32 → MM → Option (Unit × MM)
  | 0, _, _, _, _, _, _, _ => none
  | fu + 1, x0, x1, x2, x3, x4, x5, m =>
    nb (gR m x0 9) fun b_1 =>
      ib x1 (G.2.2 b_1) <|
        if (gI m b_1 x1.toNatClampNeg) ≤ x5 then
          if x4 = 0 then
            some ((), m)
          else
            bd (M_X11_wrong G x0 2 x2 m) fun _ m_3 =>
              some ((), m_3)
        else
          nb (gR m x0 14) fun b_4 =>
            ib ((12 * x1) + x5) (G.2.2 b_4) <|
              if x4 = 0 then
                if x2 ≤ (gI m b_4 (((12 * x1) + x5).toNatClampNeg)) then
                  B_X11_first_156 G fu x0 x1 x2 x3 0 (x5 + 1) m
                else
                  nb (gR m x0 15) fun b_5 =>
                    ib ((12 * x1) + x5) (G.2.2 b_5) <|
                      bd (M_X11_isSame G x0 (gI m b_4 (((12 * x1) + x5).toNatClampNeg)) (gI m b_5 (((12 * x1) + x5).toNatClampNeg)) x2 x3 m) fun r_6 m_7 =>
                        if r_6 = true then
                          B_X11_first_156 G fu x0 x1 x2 x3 1 (x5 + 1) m_7
                        else
                          B_X11_first_156 G fu x0 x1 x2 x3 0 (x5 + 1) m_7
              else
                B_X11_first_156 G fu x0 x1 x2 x3 1 (x5 + 1) m
set_option maxRecDepth 100000 in
set_option maxHeartbeats 4000000 in
theorem cB_X11_first_156 {p : Program} {l : Launch} {e : Env} {s : State} {mth : MethodId} {args : Array Value} {below : List Frame} {meth : Method} {c : Code} {E : EE} {G : GG} {r9 : Unit} {m9 : MM} (C : Cx E G p s mth args meth c cX11_first RX11 "first" 7 none) : ∀ (fu : Nat) (x0 : Nat) (x1 : Int32) (x2 : Int32) (x3 : Int32) (x4 : Int32) (x5 : Int32) (m : MM), B_X11_first_156 G fu x0 x1 x2 x3 x4 x5 m = some (r9, m9) → (Ty E G x0 11) → ∀ (H : Heap) (locs : List Loc), Hp E G m s H locs → ∀ ls : Array Slot, lv_has ls 7 [(0, .ref x0), (1, .int x1), (2, .int x2), (3, .int x3), (4, .int x4), (5, .int x5)] → W p l e rmX11_first s mth args below meth c H locs 0 0 (MQ below (cQv E G m9) args s 0 0 (fun q => E.2.2.1 ≤ q)) (F0 mth 156 ls []) := by
  intro fu
  induction fu with
  | zero =>
    intro x0 x1 x2 x3 x4 x5 m hM
    rw [B_X11_first_156] at hM
    cases hM
  | succ fu ih =>
    intro x0 x1 x2 x3 x4 x5 m hM tx0 H locs h ls hl
    rw [B_X11_first_156] at hM
    refine lv_iload C.1 C.2.1 dX11_first_156 (lv_at hl 5 rfl) ?_
    refine lv_aload_n C.1 C.2.1 dX11_first_158 rfl (lv_at hl 0 rfl) ?_
    refine gt_11_9 C h tx0 fl_X11_25 dX11_first_159 ?_
    obtain ⟨b_1, hb_1, hM⟩ := nb_some hM
    have tb_1 : Ty E G b_1 12 := (fun b hb => tyf h tx0 hb) _ hb_1
    refine st_ref hb_1 ?_
    refine lv_iload_n C.1 C.2.1 dX11_first_162 rfl (lv_at hl 1 rfl) ?_
    obtain ⟨hi, hM⟩ := ib_some hM
    refine h_iald C h tb_1 hi dX11_first_163 ?_
    refine lv_icmp_ge (tgt := 228) C.1 C.2.1 dX11_first_164 (by decide) (fun q => ?_) (fun q => ?_)
    · have hM := ite_t q hM
      refine lv_iload C.1 C.2.1 dX11_first_228 (lv_at hl 4 rfl) ?_
      refine lv_if_eq (tgt := 239) C.1 C.2.1 dX11_first_230 (by decide) (fun q => ?_) (fun q => ?_)
      · have hM := ite_t q hM
        obtain ⟨rfl, rfl⟩ := so_inj hM
        exact h_vret C h dX11_first_239
      · have hM := ite_f q hM
        refine lv_aload_n C.1 C.2.1 dX11_first_233 rfl (lv_at hl 0 rfl) ?_
        refine lv_iconst (v := 2) C.1 C.2.1 dX11_first_234 (by decide) ?_
        refine lv_iload_n C.1 C.2.1 dX11_first_235 rfl (lv_at hl 2 rfl) ?_
        obtain ⟨r_2, m_3, hc_2, hM⟩ := bd_some hM
        refine h_callVv C h (As := [.int 2, .int x2]) (rest := []) m_3 (c_X11_wrong hc_2 tx0) 11 rfl (by decide) tx0 im_yX11_wrong se_yX11_wrong cy_X11_wrong rfl ml_X11_304 ⟨by decide, by decide⟩ ⟨Nat.zero_le _, Nat.zero_le _⟩ hl.1 rfl (Nat.le_of_ble_eq_true rfl) dX11_first_236 (fun H locs h => ?_)
        obtain ⟨rfl, rfl⟩ := so_inj hM
        exact h_vret C h dX11_first_239
    · have hM := ite_f q hM
      refine lv_aload_n C.1 C.2.1 dX11_first_167 rfl (lv_at hl 0 rfl) ?_
      refine gt_11_14 C h tx0 fl_X11_40 dX11_first_168 ?_
      obtain ⟨b_4, hb_4, hM⟩ := nb_some hM
      have tb_4 : Ty E G b_4 12 := (fun b hb => tyf h tx0 hb) _ hb_4
      refine st_ref hb_4 ?_
      refine lv_bipush (v := 12) C.1 C.2.1 dX11_first_171 (by decide) ?_
      refine lv_iload_n C.1 C.2.1 dX11_first_173 rfl (lv_at hl 1 rfl) ?_
      refine lv_imul C.1 C.2.1 dX11_first_174 ?_
      refine lv_iload C.1 C.2.1 dX11_first_175 (lv_at hl 5 rfl) ?_
      refine lv_iadd C.1 C.2.1 dX11_first_177 ?_
      obtain ⟨hi, hM⟩ := ib_some hM
      refine h_iald C h tb_4 hi dX11_first_178 ?_
      refine lv_istore (lv' := [(6, .int (gI m b_4 (((12 * x1) + x5).toNatClampNeg))), (0, .ref x0), (1, .int x1), (2, .int x2), (3, .int x3), (4, .int x4), (5, .int x5)]) C.1 C.2.1 dX11_first_179 hl (by decide) rfl (fun ls hl => ?_)
      refine lv_iload C.1 C.2.1 dX11_first_181 (lv_at hl 5 rfl) ?_
      refine lv_if_ne (tgt := 215) C.1 C.2.1 dX11_first_183 (by decide) (fun q => ?_) (fun q => ?_)
      · have hM := ite_f q hM
        refine lv_iconst (v := 1) C.1 C.2.1 dX11_first_215 (by decide) ?_
        refine lv_goto (tgt := 220) C.1 C.2.1 dX11_first_216 (by decide) ?_
        refine lv_istore (lv' := [(4, .int 1), (6, .int (gI m b_4 (((12 * x1) + x5).toNatClampNeg))), (0, .ref x0), (1, .int x1), (2, .int x2), (3, .int x3), (5, .int x5)]) C.1 C.2.1 dX11_first_220 hl (by decide) rfl (fun ls hl => ?_)
        refine lv_iinc (v := x5 + 1) (lv' := [(5, .int (x5 + 1)), (4, .int 1), (6, .int (gI m b_4 (((12 * x1) + x5).toNatClampNeg))), (0, .ref x0), (1, .int x1), (2, .int x2), (3, .int x3)]) C.1 C.2.1 dX11_first_222 hl (k := 6) rfl rfl (by decide) rfl (fun ls hl => ?_)
        refine lv_goto (tgt := 156) C.1 C.2.1 dX11_first_225 (by decide) ?_
        exact ih _ _ _ _ _ _ _ hM tx0 _ _ h ls (lv_sub hl [3, 4, 5, 6, 1, 0] rfl)
      · have hM := ite_t q hM
        refine lv_iload C.1 C.2.1 dX11_first_186 (lv_at hl 0 rfl) ?_
        refine lv_iload_n C.1 C.2.1 dX11_first_188 rfl (lv_at hl 3 rfl) ?_
        refine lv_icmp_ge (tgt := 219) C.1 C.2.1 dX11_first_189 (by decide) (fun q => ?_) (fun q => ?_)
        · have hM := ite_t q hM
          refine lv_iconst (v := 0) C.1 C.2.1 dX11_first_219 (by decide) ?_
          refine lv_istore (lv' := [(4, .int 0), (6, .int (gI m b_4 (((12 * x1) + x5).toNatClampNeg))), (0, .ref x0), (1, .int x1), (2, .int x2), (3, .int x3), (5, .int x5)]) C.1 C.2.1 dX11_first_220 hl (by decide) rfl (fun ls hl => ?_)
          refine lv_iinc (v := x5 + 1) (lv' := [(5, .int (x5 + 1)), (4, .int 0), (6, .int (gI m b_4 (((12 * x1) + x5).toNatClampNeg))), (0, .ref x0), (1, .int x1), (2, .int x2), (3, .int x3)]) C.1 C.2.1 dX11_first_222 hl (k := 6) rfl rfl (by decide) rfl (fun ls hl => ?_)
          refine lv_goto (tgt := 156) C.1 C.2.1 dX11_first_225 (by decide) ?_
          exact ih _ _ _ _ _ _ _ hM tx0 _ _ h ls (lv_sub hl [3, 4, 5, 6, 1, 0] rfl)
        · have hM := ite_f q hM
          refine lv_aload_n C.1 C.2.1 dX11_first_192 rfl (lv_at hl 1 rfl) ?_
          refine lv_iload C.1 C.2.1 dX11_first_193 (lv_at hl 0 rfl) ?_
          refine lv_aload_n C.1 C.2.1 dX11_first_195 rfl (lv_at hl 1 rfl) ?_
          refine gt_11_15 C h tx0 fl_X11_43 dX11_first_196 ?_
          obtain ⟨b_5, hb_5, hM⟩ := nb_some hM
          have tb_5 : Ty E G b_5 12 := (fun b hb => tyf h tx0 hb) _ hb_5
          refine st_ref hb_5 ?_
          refine lv_bipush (v := 12) C.1 C.2.1 dX11_first_199 (by decide) ?_
          refine lv_iload_n C.1 C.2.1 dX11_first_201 rfl (lv_at hl 2 rfl) ?_
          refine lv_imul C.1 C.2.1 dX11_first_202 ?_
          refine lv_iload C.1 C.2.1 dX11_first_203 (lv_at hl 6 rfl) ?_
          refine lv_iadd C.1 C.2.1 dX11_first_205 ?_
          obtain ⟨hi, hM⟩ := ib_some hM
          refine h_iald C h tb_5 hi dX11_first_206 ?_
          refine lv_iload_n C.1 C.2.1 dX11_first_207 rfl (lv_at hl 3 rfl) ?_
          refine lv_iload_n C.1 C.2.1 dX11_first_208 rfl (lv_at hl 4 rfl) ?_
          obtain ⟨r_6, m_7, hc_6, hM⟩ := bd_some hM
          refine h_callVi C h (As := [.int (gI m b_4 (((12 * x1) + x5).toNatClampNeg)), .int (gI m b_5 (((12 * x1) + x5).toNatClampNeg)), .int x2, .int x3]) (rest := []) (bz r_6) m_7 (c_X11_isSame hc_6 tx0) 11 rfl (by decide) tx0 im_yX11_isSame se_yX11_isSame cy_X11_isSame rfl ml_X11_300 ⟨by decide, by decide⟩ ⟨Nat.zero_le _, Nat.zero_le _⟩ hl.1 rfl (Nat.le_of_ble_eq_true rfl) dX11_first_209 (fun H locs h => ?_)
          refine h_ifz (tgt := 219) C.1 C.2.1 dX11_first_212 (by decide) (fun q => ?_) (fun q => ?_)
          · have hM := ite_f q hM
            refine lv_iconst (v := 0) C.1 C.2.1 dX11_first_219 (by decide) ?_
            refine lv_istore (lv' := [(4, .int 0), (6, .int (gI m b_4 (((12 * x1) + x5).toNatClampNeg))), (0, .ref x0), (1, .int x1), (2, .int x2), (3, .int x3), (5, .int x5)]) C.1 C.2.1 dX11_first_220 hl (by decide) rfl (fun ls hl => ?_)
            refine lv_iinc (v := x5 + 1) (lv' := [(5, .int (x5 + 1)), (4, .int 0), (6, .int (gI m b_4 (((12 * x1) + x5).toNatClampNeg))), (0, .ref x0), (1, .int x1), (2, .int x2), (3, .int x3)]) C.1 C.2.1 dX11_first_222 hl (k := 6) rfl rfl (by decide) rfl (fun ls hl => ?_)
            refine lv_goto (tgt := 156) C.1 C.2.1 dX11_first_225 (by decide) ?_
            exact ih _ _ _ _ _ _ _ hM tx0 _ _ h ls (lv_sub hl [3, 4, 5, 6, 1, 0] rfl)
          · have hM := ite_t q hM
            refine lv_iconst (v := 1) C.1 C.2.1 dX11_first_215 (by decide) ?_
            refine lv_goto (tgt := 220) C.1 C.2.1 dX11_first_216 (by decide) ?_
            refine lv_istore (lv' := [(4, .int 1), (6, .int (gI m b_4 (((12 * x1) + x5).toNatClampNeg))), (0, .ref x0), (1, .int x1), (2, .int x2), (3, .int x3), (5, .int x5)]) C.1 C.2.1 dX11_first_220 hl (by decide) rfl (fun ls hl => ?_)
            refine lv_iinc (v := x5 + 1) (lv' := [(5, .int (x5 + 1)), (4, .int 1), (6, .int (gI m b_4 (((12 * x1) + x5).toNatClampNeg))), (0, .ref x0), (1, .int x1), (2, .int x2), (3, .int x3)]) C.1 C.2.1 dX11_first_222 hl (k := 6) rfl rfl (by decide) rfl (fun ls hl => ?_)
            refine lv_goto (tgt := 156) C.1 C.2.1 dX11_first_225 (by decide) ?_
            exact ih _ _ _ _ _ _ _ hM tx0 _ _ h ls (lv_sub hl [3, 4, 5, 6, 1, 0] rfl)
def B_X11_first_81 (G : GG) : Nat → Nat → Int32 → Int32 → Int32 → Int32 → Int32 → MM → Option (Unit × MM)
  | 0, _, _, _, _, _, _, _ => none
  | fu + 1, x0, x1, x2, x3, x4, x5, m =>
    nb (gR m x0 11) fun b_8 =>
      ib x1 (G.2.2 b_8) <|
        if (gI m b_8 x1.toNatClampNeg) ≤ x5 then
          B_X11_first_156 G FU x0 x1 x2 x3 x4 0 m
        else
          nb (gR m x0 22) fun b_9 =>
            ib ((6 * x1) + x5) (G.2.2 b_9) <|
              if x4 = 0 then
                if x2 ≤ (gI m b_9 (((6 * x1) + x5).toNatClampNeg)) then
                  B_X11_first_81 G fu x0 x1 x2 x3 0 (x5 + 1) m
                else
                  nb (gR m x0 23) fun b_10 =>
                    ib ((6 * x1) + x5) (G.2.2 b_10) <|
                      bd (M_X11_isSame G x0 (gI m b_9 (((6 * x1) + x5).toNatClampNeg)) (gI m b_10 (((6 * x1) + x5).toNatClampNeg)) x2 x3 m) fun r_11 m_12 =>
                        if r_11 = true then
                          B_X11_first_81 G fu x0 x1 x2 x3 1 (x5 + 1) m_12
                        else
                          B_X11_first_81 G fu x0 x1 x2 x3 0 (x5 + 1) m_12
              else
                B_X11_first_81 G fu x0 x1 x2 x3 1 (x5 + 1) m
set_option maxRecDepth 100000 in
set_option maxHeartbeats 4000000 in
theorem cB_X11_first_81 {p : Program} {l : Launch} {e : Env} {s : State} {mth : MethodId} {args : Array Value} {below : List Frame} {meth : Method} {c : Code} {E : EE} {G : GG} {r9 : Unit} {m9 : MM} (C : Cx E G p s mth args meth c cX11_first RX11 "first" 7 none) : ∀ (fu : Nat) (x0 : Nat) (x1 : Int32) (x2 : Int32) (x3 : Int32) (x4 : Int32) (x5 : Int32) (m : MM), B_X11_first_81 G fu x0 x1 x2 x3 x4 x5 m = some (r9, m9) → (Ty E G x0 11) → ∀ (H : Heap) (locs : List Loc), Hp E G m s H locs → ∀ ls : Array Slot, lv_has ls 7 [(0, .ref x0), (1, .int x1), (2, .int x2), (3, .int x3), (4, .int x4), (5, .int x5)] → W p l e rmX11_first s mth args below meth c H locs 0 0 (MQ below (cQv E G m9) args s 0 0 (fun q => E.2.2.1 ≤ q)) (F0 mth 81 ls []) := by
  intro fu
  induction fu with
  | zero =>
    intro x0 x1 x2 x3 x4 x5 m hM
    rw [B_X11_first_81] at hM
    cases hM
  | succ fu ih =>
    intro x0 x1 x2 x3 x4 x5 m hM tx0 H locs h ls hl
    rw [B_X11_first_81] at hM
    refine lv_iload C.1 C.2.1 dX11_first_81 (lv_at hl 5 rfl) ?_
    refine lv_aload_n C.1 C.2.1 dX11_first_83 rfl (lv_at hl 0 rfl) ?_
    refine gt_11_11 C h tx0 fl_X11_31 dX11_first_84 ?_
    obtain ⟨b_8, hb_8, hM⟩ := nb_some hM
    have tb_8 : Ty E G b_8 12 := (fun b hb => tyf h tx0 hb) _ hb_8
    refine st_ref hb_8 ?_
    refine lv_iload_n C.1 C.2.1 dX11_first_87 rfl (lv_at hl 1 rfl) ?_
    obtain ⟨hi, hM⟩ := ib_some hM
    refine h_iald C h tb_8 hi dX11_first_88 ?_
    refine lv_icmp_ge (tgt := 153) C.1 C.2.1 dX11_first_89 (by decide) (fun q => ?_) (fun q => ?_)
    · have hM := ite_t q hM
      refine lv_iconst (v := 0) C.1 C.2.1 dX11_first_153 (by decide) ?_
      refine lv_istore (lv' := [(5, .int 0), (0, .ref x0), (1, .int x1), (2, .int x2), (3, .int x3), (4, .int x4)]) C.1 C.2.1 dX11_first_154 hl (by decide) rfl (fun ls hl => ?_)
      exact cB_X11_first_156 C _ _ _ _ _ _ _ _ hM tx0 _ _ h ls (lv_sub hl [1, 2, 3, 4, 5, 0] rfl)
    · have hM := ite_f q hM
      refine lv_aload_n C.1 C.2.1 dX11_first_92 rfl (lv_at hl 0 rfl) ?_
      refine gt_11_22 C h tx0 fl_X11_64 dX11_first_93 ?_
      obtain ⟨b_9, hb_9, hM⟩ := nb_some hM
      have tb_9 : Ty E G b_9 12 := (fun b hb => tyf h tx0 hb) _ hb_9
      refine st_ref hb_9 ?_
      refine lv_bipush (v := 6) C.1 C.2.1 dX11_first_96 (by decide) ?_
      refine lv_iload_n C.1 C.2.1 dX11_first_98 rfl (lv_at hl 1 rfl) ?_
      refine lv_imul C.1 C.2.1 dX11_first_99 ?_
      refine lv_iload C.1 C.2.1 dX11_first_100 (lv_at hl 5 rfl) ?_
      refine lv_iadd C.1 C.2.1 dX11_first_102 ?_
      obtain ⟨hi, hM⟩ := ib_some hM
      refine h_iald C h tb_9 hi dX11_first_103 ?_
      refine lv_istore (lv' := [(6, .int (gI m b_9 (((6 * x1) + x5).toNatClampNeg))), (0, .ref x0), (1, .int x1), (2, .int x2), (3, .int x3), (4, .int x4), (5, .int x5)]) C.1 C.2.1 dX11_first_104 hl (by decide) rfl (fun ls hl => ?_)
      refine lv_iload C.1 C.2.1 dX11_first_106 (lv_at hl 5 rfl) ?_
      refine lv_if_ne (tgt := 140) C.1 C.2.1 dX11_first_108 (by decide) (fun q => ?_) (fun q => ?_)
      · have hM := ite_f q hM
        refine lv_iconst (v := 1) C.1 C.2.1 dX11_first_140 (by decide) ?_
        refine lv_goto (tgt := 145) C.1 C.2.1 dX11_first_141 (by decide) ?_
        refine lv_istore (lv' := [(4, .int 1), (6, .int (gI m b_9 (((6 * x1) + x5).toNatClampNeg))), (0, .ref x0), (1, .int x1), (2, .int x2), (3, .int x3), (5, .int x5)]) C.1 C.2.1 dX11_first_145 hl (by decide) rfl (fun ls hl => ?_)
        refine lv_iinc (v := x5 + 1) (lv' := [(5, .int (x5 + 1)), (4, .int 1), (6, .int (gI m b_9 (((6 * x1) + x5).toNatClampNeg))), (0, .ref x0), (1, .int x1), (2, .int x2), (3, .int x3)]) C.1 C.2.1 dX11_first_147 hl (k := 6) rfl rfl (by decide) rfl (fun ls hl => ?_)
        refine lv_goto (tgt := 81) C.1 C.2.1 dX11_first_150 (by decide) ?_
        exact ih _ _ _ _ _ _ _ hM tx0 _ _ h ls (lv_sub hl [3, 4, 5, 6, 1, 0] rfl)
      · have hM := ite_t q hM
        refine lv_iload C.1 C.2.1 dX11_first_111 (lv_at hl 0 rfl) ?_
        refine lv_iload_n C.1 C.2.1 dX11_first_113 rfl (lv_at hl 3 rfl) ?_
        refine lv_icmp_ge (tgt := 144) C.1 C.2.1 dX11_first_114 (by decide) (fun q => ?_) (fun q => ?_)
        · have hM := ite_t q hM
          refine lv_iconst (v := 0) C.1 C.2.1 dX11_first_144 (by decide) ?_
          refine lv_istore (lv' := [(4, .int 0), (6, .int (gI m b_9 (((6 * x1) + x5).toNatClampNeg))), (0, .ref x0), (1, .int x1), (2, .int x2), (3, .int x3), (5, .int x5)]) C.1 C.2.1 dX11_first_145 hl (by decide) rfl (fun ls hl => ?_)
          refine lv_iinc (v := x5 + 1) (lv' := [(5, .int (x5 + 1)), (4, .int 0), (6, .int (gI m b_9 (((6 * x1) + x5).toNatClampNeg))), (0, .ref x0), (1, .int x1), (2, .int x2), (3, .int x3)]) C.1 C.2.1 dX11_first_147 hl (k := 6) rfl rfl (by decide) rfl (fun ls hl => ?_)
          refine lv_goto (tgt := 81) C.1 C.2.1 dX11_first_150 (by decide) ?_
          exact ih _ _ _ _ _ _ _ hM tx0 _ _ h ls (lv_sub hl [3, 4, 5, 6, 1, 0] rfl)
        · have hM := ite_f q hM
          refine lv_aload_n C.1 C.2.1 dX11_first_117 rfl (lv_at hl 1 rfl) ?_
          refine lv_iload C.1 C.2.1 dX11_first_118 (lv_at hl 0 rfl) ?_
          refine lv_aload_n C.1 C.2.1 dX11_first_120 rfl (lv_at hl 1 rfl) ?_
          refine gt_11_23 C h tx0 fl_X11_67 dX11_first_121 ?_
          obtain ⟨b_10, hb_10, hM⟩ := nb_some hM
          have tb_10 : Ty E G b_10 12 := (fun b hb => tyf h tx0 hb) _ hb_10
          refine st_ref hb_10 ?_
          refine lv_bipush (v := 6) C.1 C.2.1 dX11_first_124 (by decide) ?_
          refine lv_iload_n C.1 C.2.1 dX11_first_126 rfl (lv_at hl 2 rfl) ?_
          refine lv_imul C.1 C.2.1 dX11_first_127 ?_
          refine lv_iload C.1 C.2.1 dX11_first_128 (lv_at hl 6 rfl) ?_
          refine lv_iadd C.1 C.2.1 dX11_first_130 ?_
          obtain ⟨hi, hM⟩ := ib_some hM
          refine h_iald C h tb_10 hi dX11_first_131 ?_
          refine lv_iload_n C.1 C.2.1 dX11_first_132 rfl (lv_at hl 3 rfl) ?_
          refine lv_iload_n C.1 C.2.1 dX11_first_133 rfl (lv_at hl 4 rfl) ?_
          obtain ⟨r_11, m_12, hc_11, hM⟩ := bd_some hM
          refine h_callVi C h (As := [.int (gI m b_9 (((6 * x1) + x5).toNatClampNeg)), .int (gI m b_10 (((6 * x1) + x5).toNatClampNeg)), .int x2, .int x3]) (rest := []) (bz r_11) m_12 (c_X11_isSame hc_11 tx0) 11 rfl (by decide) tx0 im_yX11_isSame se_yX11_isSame cy_X11_isSame rfl ml_X11_300 ⟨by decide, by decide⟩ ⟨Nat.zero_le _, Nat.zero_le _⟩ hl.1 rfl (Nat.le_of_ble_eq_true rfl) dX11_first_134 (fun H locs h => ?_)
          refine h_ifz (tgt := 144) C.1 C.2.1 dX11_first_137 (by decide) (fun q => ?_) (fun q => ?_)
          · have hM := ite_f q hM
            refine lv_iconst (v := 0) C.1 C.2.1 dX11_first_144 (by decide) ?_
            refine lv_istore (lv' := [(4, .int 0), (6, .int (gI m b_9 (((6 * x1) + x5).toNatClampNeg))), (0, .ref x0), (1, .int x1), (2, .int x2), (3, .int x3), (5, .int x5)]) C.1 C.2.1 dX11_first_145 hl (by decide) rfl (fun ls hl => ?_)
            refine lv_iinc (v := x5 + 1) (lv' := [(5, .int (x5 + 1)), (4, .int 0), (6, .int (gI m b_9 (((6 * x1) + x5).toNatClampNeg))), (0, .ref x0), (1, .int x1), (2, .int x2), (3, .int x3)]) C.1 C.2.1 dX11_first_147 hl (k := 6) rfl rfl (by decide) rfl (fun ls hl => ?_)
            refine lv_goto (tgt := 81) C.1 C.2.1 dX11_first_150 (by decide) ?_
            exact ih _ _ _ _ _ _ _ hM tx0 _ _ h ls (lv_sub hl [3, 4, 5, 6, 1, 0] rfl)
          · have hM := ite_t q hM
            refine lv_iconst (v := 1) C.1 C.2.1 dX11_first_140 (by decide) ?_
            refine lv_goto (tgt := 145) C.1 C.2.1 dX11_first_141 (by decide) ?_
            refine lv_istore (lv' := [(4, .int 1), (6, .int (gI m b_9 (((6 * x1) + x5).toNatClampNeg))), (0, .ref x0), (1, .int x1), (2, .int x2), (3, .int x3), (5, .int x5)]) C.1 C.2.1 dX11_first_145 hl (by decide) rfl (fun ls hl => ?_)
            refine lv_iinc (v := x5 + 1) (lv' := [(5, .int (x5 + 1)), (4, .int 1), (6, .int (gI m b_9 (((6 * x1) + x5).toNatClampNeg))), (0, .ref x0), (1, .int x1), (2, .int x2), (3, .int x3)]) C.1 C.2.1 dX11_first_147 hl (k := 6) rfl rfl (by decide) rfl (fun ls hl => ?_)
            refine lv_goto (tgt := 81) C.1 C.2.1 dX11_first_150 (by decide) ?_
            exact ih _ _ _ _ _ _ _ hM tx0 _ _ h ls (lv_sub hl [3, 4, 5, 6, 1, 0] rfl)
def B_X11_first_6 (G : GG) : Nat → Nat → Int32 → Int32 → Int32 → Int32 → Int32 → MM → Option (Unit × MM)
  | 0, _, _, _, _, _, _, _ => none
  | fu + 1, x0, x1, x2, x3, x4, x5, m =>
    nb (gR m x0 10) fun b_13 =>
      ib x1 (G.2.2 b_13) <|
        if (gI m b_13 x1.toNatClampNeg) ≤ x5 then
          B_X11_first_81 G FU x0 x1 x2 x3 x4 0 m
        else
          nb (gR m x0 18) fun b_14 =>
            ib ((8 * x1) + x5) (G.2.2 b_14) <|
              if x4 = 0 then
                if x2 ≤ (gI m b_14 (((8 * x1) + x5).toNatClampNeg)) then
                  B_X11_first_6 G fu x0 x1 x2 x3 0 (x5 + 1) m
                else
                  nb (gR m x0 19) fun b_15 =>
                    ib ((8 * x1) + x5) (G.2.2 b_15) <|
                      bd (M_X11_isSame G x0 (gI m b_14 (((8 * x1) + x5).toNatClampNeg)) (gI m b_15 (((8 * x1) + x5).toNatClampNeg)) x2 x3 m) fun r_16 m_17 =>
                        if r_16 = true then
                          B_X11_first_6 G fu x0 x1 x2 x3 1 (x5 + 1) m_17
                        else
                          B_X11_first_6 G fu x0 x1 x2 x3 0 (x5 + 1) m_17
              else
                B_X11_first_6 G fu x0 x1 x2 x3 1 (x5 + 1) m
set_option maxRecDepth 100000 in
set_option maxHeartbeats 4000000 in
theorem cB_X11_first_6 {p : Program} {l : Launch} {e : Env} {s : State} {mth : MethodId} {args : Array Value} {below : List Frame} {meth : Method} {c : Code} {E : EE} {G : GG} {r9 : Unit} {m9 : MM} (C : Cx E G p s mth args meth c cX11_first RX11 "first" 7 none) : ∀ (fu : Nat) (x0 : Nat) (x1 : Int32) (x2 : Int32) (x3 : Int32) (x4 : Int32) (x5 : Int32) (m : MM), B_X11_first_6 G fu x0 x1 x2 x3 x4 x5 m = some (r9, m9) → (Ty E G x0 11) → ∀ (H : Heap) (locs : List Loc), Hp E G m s H locs → ∀ ls : Array Slot, lv_has ls 7 [(0, .ref x0), (1, .int x1), (2, .int x2), (3, .int x3), (4, .int x4), (5, .int x5)] → W p l e rmX11_first s mth args below meth c H locs 0 0 (MQ below (cQv E G m9) args s 0 0 (fun q => E.2.2.1 ≤ q)) (F0 mth 6 ls []) := by
  intro fu
  induction fu with
  | zero =>
    intro x0 x1 x2 x3 x4 x5 m hM
    rw [B_X11_first_6] at hM
    cases hM
  | succ fu ih =>
    intro x0 x1 x2 x3 x4 x5 m hM tx0 H locs h ls hl
    rw [B_X11_first_6] at hM
    refine lv_iload C.1 C.2.1 dX11_first_6 (lv_at hl 5 rfl) ?_
    refine lv_aload_n C.1 C.2.1 dX11_first_8 rfl (lv_at hl 0 rfl) ?_
    refine gt_11_10 C h tx0 fl_X11_28 dX11_first_9 ?_
    obtain ⟨b_13, hb_13, hM⟩ := nb_some hM
    have tb_13 : Ty E G b_13 12 := (fun b hb => tyf h tx0 hb) _ hb_13
    refine st_ref hb_13 ?_
    refine lv_iload_n C.1 C.2.1 dX11_first_12 rfl (lv_at hl 1 rfl) ?_
    obtain ⟨hi, hM⟩ := ib_some hM
    refine h_iald C h tb_13 hi dX11_first_13 ?_
    refine lv_icmp_ge (tgt := 78) C.1 C.2.1 dX11_first_14 (by decide) (fun q => ?_) (fun q => ?_)
    · have hM := ite_t q hM
      refine lv_iconst (v := 0) C.1 C.2.1 dX11_first_78 (by decide) ?_
      refine lv_istore (lv' := [(5, .int 0), (0, .ref x0), (1, .int x1), (2, .int x2), (3, .int x3), (4, .int x4)]) C.1 C.2.1 dX11_first_79 hl (by decide) rfl (fun ls hl => ?_)
      exact cB_X11_first_81 C _ _ _ _ _ _ _ _ hM tx0 _ _ h ls (lv_sub hl [1, 2, 3, 4, 5, 0] rfl)
    · have hM := ite_f q hM
      refine lv_aload_n C.1 C.2.1 dX11_first_17 rfl (lv_at hl 0 rfl) ?_
      refine gt_11_18 C h tx0 fl_X11_52 dX11_first_18 ?_
      obtain ⟨b_14, hb_14, hM⟩ := nb_some hM
      have tb_14 : Ty E G b_14 12 := (fun b hb => tyf h tx0 hb) _ hb_14
      refine st_ref hb_14 ?_
      refine lv_bipush (v := 8) C.1 C.2.1 dX11_first_21 (by decide) ?_
      refine lv_iload_n C.1 C.2.1 dX11_first_23 rfl (lv_at hl 1 rfl) ?_
      refine lv_imul C.1 C.2.1 dX11_first_24 ?_
      refine lv_iload C.1 C.2.1 dX11_first_25 (lv_at hl 5 rfl) ?_
      refine lv_iadd C.1 C.2.1 dX11_first_27 ?_
      obtain ⟨hi, hM⟩ := ib_some hM
      refine h_iald C h tb_14 hi dX11_first_28 ?_
      refine lv_istore (lv' := [(6, .int (gI m b_14 (((8 * x1) + x5).toNatClampNeg))), (0, .ref x0), (1, .int x1), (2, .int x2), (3, .int x3), (4, .int x4), (5, .int x5)]) C.1 C.2.1 dX11_first_29 hl (by decide) rfl (fun ls hl => ?_)
      refine lv_iload C.1 C.2.1 dX11_first_31 (lv_at hl 5 rfl) ?_
      refine lv_if_ne (tgt := 65) C.1 C.2.1 dX11_first_33 (by decide) (fun q => ?_) (fun q => ?_)
      · have hM := ite_f q hM
        refine lv_iconst (v := 1) C.1 C.2.1 dX11_first_65 (by decide) ?_
        refine lv_goto (tgt := 70) C.1 C.2.1 dX11_first_66 (by decide) ?_
        refine lv_istore (lv' := [(4, .int 1), (6, .int (gI m b_14 (((8 * x1) + x5).toNatClampNeg))), (0, .ref x0), (1, .int x1), (2, .int x2), (3, .int x3), (5, .int x5)]) C.1 C.2.1 dX11_first_70 hl (by decide) rfl (fun ls hl => ?_)
        refine lv_iinc (v := x5 + 1) (lv' := [(5, .int (x5 + 1)), (4, .int 1), (6, .int (gI m b_14 (((8 * x1) + x5).toNatClampNeg))), (0, .ref x0), (1, .int x1), (2, .int x2), (3, .int x3)]) C.1 C.2.1 dX11_first_72 hl (k := 6) rfl rfl (by decide) rfl (fun ls hl => ?_)
        refine lv_goto (tgt := 6) C.1 C.2.1 dX11_first_75 (by decide) ?_
        exact ih _ _ _ _ _ _ _ hM tx0 _ _ h ls (lv_sub hl [3, 4, 5, 6, 1, 0] rfl)
      · have hM := ite_t q hM
        refine lv_iload C.1 C.2.1 dX11_first_36 (lv_at hl 0 rfl) ?_
        refine lv_iload_n C.1 C.2.1 dX11_first_38 rfl (lv_at hl 3 rfl) ?_
        refine lv_icmp_ge (tgt := 69) C.1 C.2.1 dX11_first_39 (by decide) (fun q => ?_) (fun q => ?_)
        · have hM := ite_t q hM
          refine lv_iconst (v := 0) C.1 C.2.1 dX11_first_69 (by decide) ?_
          refine lv_istore (lv' := [(4, .int 0), (6, .int (gI m b_14 (((8 * x1) + x5).toNatClampNeg))), (0, .ref x0), (1, .int x1), (2, .int x2), (3, .int x3), (5, .int x5)]) C.1 C.2.1 dX11_first_70 hl (by decide) rfl (fun ls hl => ?_)
          refine lv_iinc (v := x5 + 1) (lv' := [(5, .int (x5 + 1)), (4, .int 0), (6, .int (gI m b_14 (((8 * x1) + x5).toNatClampNeg))), (0, .ref x0), (1, .int x1), (2, .int x2), (3, .int x3)]) C.1 C.2.1 dX11_first_72 hl (k := 6) rfl rfl (by decide) rfl (fun ls hl => ?_)
          refine lv_goto (tgt := 6) C.1 C.2.1 dX11_first_75 (by decide) ?_
          exact ih _ _ _ _ _ _ _ hM tx0 _ _ h ls (lv_sub hl [3, 4, 5, 6, 1, 0] rfl)
        · have hM := ite_f q hM
          refine lv_aload_n C.1 C.2.1 dX11_first_42 rfl (lv_at hl 1 rfl) ?_
          refine lv_iload C.1 C.2.1 dX11_first_43 (lv_at hl 0 rfl) ?_
          refine lv_aload_n C.1 C.2.1 dX11_first_45 rfl (lv_at hl 1 rfl) ?_
          refine gt_11_19 C h tx0 fl_X11_55 dX11_first_46 ?_
          obtain ⟨b_15, hb_15, hM⟩ := nb_some hM
          have tb_15 : Ty E G b_15 12 := (fun b hb => tyf h tx0 hb) _ hb_15
          refine st_ref hb_15 ?_
          refine lv_bipush (v := 8) C.1 C.2.1 dX11_first_49 (by decide) ?_
          refine lv_iload_n C.1 C.2.1 dX11_first_51 rfl (lv_at hl 2 rfl) ?_
          refine lv_imul C.1 C.2.1 dX11_first_52 ?_
          refine lv_iload C.1 C.2.1 dX11_first_53 (lv_at hl 6 rfl) ?_
          refine lv_iadd C.1 C.2.1 dX11_first_55 ?_
          obtain ⟨hi, hM⟩ := ib_some hM
          refine h_iald C h tb_15 hi dX11_first_56 ?_
          refine lv_iload_n C.1 C.2.1 dX11_first_57 rfl (lv_at hl 3 rfl) ?_
          refine lv_iload_n C.1 C.2.1 dX11_first_58 rfl (lv_at hl 4 rfl) ?_
          obtain ⟨r_16, m_17, hc_16, hM⟩ := bd_some hM
          refine h_callVi C h (As := [.int (gI m b_14 (((8 * x1) + x5).toNatClampNeg)), .int (gI m b_15 (((8 * x1) + x5).toNatClampNeg)), .int x2, .int x3]) (rest := []) (bz r_16) m_17 (c_X11_isSame hc_16 tx0) 11 rfl (by decide) tx0 im_yX11_isSame se_yX11_isSame cy_X11_isSame rfl ml_X11_300 ⟨by decide, by decide⟩ ⟨Nat.zero_le _, Nat.zero_le _⟩ hl.1 rfl (Nat.le_of_ble_eq_true rfl) dX11_first_59 (fun H locs h => ?_)
          refine h_ifz (tgt := 69) C.1 C.2.1 dX11_first_62 (by decide) (fun q => ?_) (fun q => ?_)
          · have hM := ite_f q hM
            refine lv_iconst (v := 0) C.1 C.2.1 dX11_first_69 (by decide) ?_
            refine lv_istore (lv' := [(4, .int 0), (6, .int (gI m b_14 (((8 * x1) + x5).toNatClampNeg))), (0, .ref x0), (1, .int x1), (2, .int x2), (3, .int x3), (5, .int x5)]) C.1 C.2.1 dX11_first_70 hl (by decide) rfl (fun ls hl => ?_)
            refine lv_iinc (v := x5 + 1) (lv' := [(5, .int (x5 + 1)), (4, .int 0), (6, .int (gI m b_14 (((8 * x1) + x5).toNatClampNeg))), (0, .ref x0), (1, .int x1), (2, .int x2), (3, .int x3)]) C.1 C.2.1 dX11_first_72 hl (k := 6) rfl rfl (by decide) rfl (fun ls hl => ?_)
            refine lv_goto (tgt := 6) C.1 C.2.1 dX11_first_75 (by decide) ?_
            exact ih _ _ _ _ _ _ _ hM tx0 _ _ h ls (lv_sub hl [3, 4, 5, 6, 1, 0] rfl)
          · have hM := ite_t q hM
            refine lv_iconst (v := 1) C.1 C.2.1 dX11_first_65 (by decide) ?_
            refine lv_goto (tgt := 70) C.1 C.2.1 dX11_first_66 (by decide) ?_
            refine lv_istore (lv' := [(4, .int 1), (6, .int (gI m b_14 (((8 * x1) + x5).toNatClampNeg))), (0, .ref x0), (1, .int x1), (2, .int x2), (3, .int x3), (5, .int x5)]) C.1 C.2.1 dX11_first_70 hl (by decide) rfl (fun ls hl => ?_)
            refine lv_iinc (v := x5 + 1) (lv' := [(5, .int (x5 + 1)), (4, .int 1), (6, .int (gI m b_14 (((8 * x1) + x5).toNatClampNeg))), (0, .ref x0), (1, .int x1), (2, .int x2), (3, .int x3)]) C.1 C.2.1 dX11_first_72 hl (k := 6) rfl rfl (by decide) rfl (fun ls hl => ?_)
            refine lv_goto (tgt := 6) C.1 C.2.1 dX11_first_75 (by decide) ?_
            exact ih _ _ _ _ _ _ _ hM tx0 _ _ h ls (lv_sub hl [3, 4, 5, 6, 1, 0] rfl)
def M_X11_first (G : GG) (x0 : Nat) (x1 : Int32) (x2 : Int32) (x3 : Int32) (m : MM) : Option (Unit × MM) :=
  B_X11_first_6 G FU x0 x1 x2 x3 0 0 m
set_option maxRecDepth 100000 in
set_option maxHeartbeats 4000000 in
theorem cM_X11_first {p : Program} {l : Launch} {e : Env} {s : State} {mth : MethodId} {args : Array Value} {below : List Frame} {meth : Method} {c : Code} {E : EE} {G : GG} {r9 : Unit} {m9 : MM} (C : Cx E G p s mth args meth c cX11_first RX11 "first" 7 none) {x0 : Nat} {x1 : Int32} {x2 : Int32} {x3 : Int32} {m : MM} (hM : M_X11_first G x0 x1 x2 x3 m = some (r9, m9)) (tx0 : Ty E G x0 11) : ∀ (H : Heap) (locs : List Loc), Hp E G m s H locs → ∀ ls : Array Slot, lv_has ls 7 [(0, .ref x0), (1, .int x1), (2, .int x2), (3, .int x3)] → W p l e rmX11_first s mth args below meth c H locs 0 0 (MQ below (cQv E G m9) args s 0 0 (fun q => E.2.2.1 ≤ q)) (F0 mth 0 ls []) := by
  intro H locs h ls hl
  unfold M_X11_first at hM
  refine lv_iconst (v := 0) C.1 C.2.1 dX11_first_0 (by decide) ?_
  refine lv_istore (lv' := [(4, .int 0), (0, .ref x0), (1, .int x1), (2, .int x2), (3, .int x3)]) C.1 C.2.1 dX11_first_1 hl (by decide) rfl (fun ls hl => ?_)
  refine lv_iconst (v := 0) C.1 C.2.1 dX11_first_3 (by decide) ?_
  refine lv_istore (lv' := [(5, .int 0), (4, .int 0), (0, .ref x0), (1, .int x1), (2, .int x2), (3, .int x3)]) C.1 C.2.1 dX11_first_4 hl (by decide) rfl (fun ls hl => ?_)
  exact cB_X11_first_6 C _ _ _ _ _ _ _ _ hM tx0 _ _ h ls (lv_sub hl [2, 3, 4, 5, 1, 0] rfl)
theorem cy_X11_first : Cy yX11_first cX11_first 7 none 3 := ⟨cd_yX11_first, ii_X11, by decide, by decide, by decide +kernel⟩
set_option maxRecDepth 100000 in
theorem c_X11_first {l : Launch} {E : EE} {G : GG} {x0 : Nat} {x1 : Int32} {x2 : Int32} {x3 : Int32} {m m9 : MM} {r9 : Unit} (hM : M_X11_first G x0 x1 x2 x3 m = some (r9, m9)) (tx0 : Ty E G x0 11) : Mc l E yX11_first cX11_first 7 none rmX11_first [.ref x0, .int x1, .int x2, .int x3] G m (cQv E G m9) := M_of (by decide) (Nat.le_of_ble_eq_true rfl) (fun p e s mth below meth c C h ls hl => cM_X11_first C hM tx0 _ _ h ls hl)
