abbrev rmX11_lookAtEnum : Room := { frames := 2, cells := 0, slots := 0, locals := 52 }
def B_X11_lookAtEnum_180 (G : GG) (k143 : Nat → Int32 → Int32 → MM → Option (Unit × MM)) : Nat → Nat → Int32 → Int32 → Int32 → Int32 → MM → Option (Unit × MM)
  | 0, _, _, _, _, _, _ => none
  | fu + 1, x0, x1, x2, x3, x4, m =>
    nb (gR m x0 10) fun b_1 =>
      ib x1 (G.2.2 b_1) <|
        if (gI m b_1 x1.toNatClampNeg) ≤ x4 then
          k143 x0 x1 (x2 + 1) m
        else
          nb (gR m x0 20) fun b_2 =>
            ib ((8 * x1) + x4) (G.2.2 b_2) <|
              if 0 ≤ (gI m b_2 (((8 * x1) + x4).toNatClampNeg)) then
                B_X11_lookAtEnum_180 G k143 fu x0 x1 x2 x3 (x4 + 1) m
              else
                nb (gR m x0 18) fun b_3 =>
                  ib ((8 * x1) + x4) (G.2.2 b_3) <|
                    nb (gR m x0 19) fun b_4 =>
                      ib ((8 * x1) + x4) (G.2.2 b_4) <|
                        bd (M_X11_giveBy G x0 x3 (gI m b_3 (((8 * x1) + x4).toNatClampNeg)) (gI m b_4 (((8 * x1) + x4).toNatClampNeg)) m) fun r_5 m_6 =>
                          if 0 ≤ r_5 then
                            B_X11_lookAtEnum_180 G k143 fu x0 x1 x2 x3 (x4 + 1) m_6
                          else
                            nb (gR m_6 x0 14) fun b_7 =>
                              ib x3 (G.2.2 b_7) <|
                                bd (M_X11_wrong G x0 4 (gI m_6 b_7 x3.toNatClampNeg) m_6) fun _ m_9 =>
                                  B_X11_lookAtEnum_180 G k143 fu x0 x1 x2 x3 (x4 + 1) m_9
set_option maxRecDepth 100000 in
set_option maxHeartbeats 4000000 in
theorem cB_X11_lookAtEnum_180 {p : Program} {l : Launch} {e : Env} {s : State} {mth : MethodId} {args : Array Value} {below : List Frame} {meth : Method} {c : Code} {E : EE} {G : GG} {r9 : Unit} {m9 : MM} {k143 : Nat → Int32 → Int32 → MM → Option (Unit × MM)} (C : Cx E G p s mth args meth c cX11_lookAtEnum RX11 "lookAtEnum" 5 none) (hk143 : ∀ (x0 : Nat) (x1 : Int32) (x2 : Int32) (m : MM), k143 x0 x1 x2 m = some (r9, m9) → (Ty E G x0 11) → ∀ (H : Heap) (locs : List Loc), Hp E G m s H locs → ∀ ls : Array Slot, lv_has ls 5 [(0, .ref x0), (1, .int x1), (2, .int x2)] → W p l e rmX11_lookAtEnum s mth args below meth c H locs 0 0 (MQ below (cQv E G m9) args s 0 0 (fun q => E.2.2.1 ≤ q)) (F0 mth 143 ls [])) : ∀ (fu : Nat) (x0 : Nat) (x1 : Int32) (x2 : Int32) (x3 : Int32) (x4 : Int32) (m : MM), B_X11_lookAtEnum_180 G k143 fu x0 x1 x2 x3 x4 m = some (r9, m9) → (Ty E G x0 11) → ∀ (H : Heap) (locs : List Loc), Hp E G m s H locs → ∀ ls : Array Slot, lv_has ls 5 [(0, .ref x0), (1, .int x1), (2, .int x2), (3, .int x3), (4, .int x4)] → W p l e rmX11_lookAtEnum s mth args below meth c H locs 0 0 (MQ below (cQv E G m9) args s 0 0 (fun q => E.2.2.1 ≤ q)) (F0 mth 180 ls []) := by
  intro fu
  induction fu with
  | zero =>
    intro x0 x1 x2 x3 x4 m hM
    rw [B_X11_lookAtEnum_180] at hM
    cases hM
  | succ fu ih =>
    intro x0 x1 x2 x3 x4 m hM tx0 H locs h ls hl
    rw [B_X11_lookAtEnum_180] at hM
    refine lv_iload C.1 C.2.1 dX11_lookAtEnum_180 (lv_at hl 4 rfl) ?_
    refine lv_aload_n C.1 C.2.1 dX11_lookAtEnum_182 rfl (lv_at hl 0 rfl) ?_
    refine gt_11_10 C h tx0 fl_X11_28 dX11_lookAtEnum_183 ?_
    obtain ⟨b_1, hb_1, hM⟩ := nb_some hM
    have tb_1 : Ty E G b_1 12 := (fun b hb => tyf h tx0 hb) _ hb_1
    refine st_ref hb_1 ?_
    refine lv_iload_n C.1 C.2.1 dX11_lookAtEnum_186 rfl (lv_at hl 1 rfl) ?_
    obtain ⟨hi, hM⟩ := ib_some hM
    refine h_iald C h tb_1 hi dX11_lookAtEnum_187 ?_
    refine lv_icmp_ge (tgt := 255) C.1 C.2.1 dX11_lookAtEnum_188 (by decide) (fun q => ?_) (fun q => ?_)
    · have hM := ite_t q hM
      refine lv_iinc (v := x2 + 1) (lv' := [(2, .int (x2 + 1)), (0, .ref x0), (1, .int x1), (3, .int x3), (4, .int x4)]) C.1 C.2.1 dX11_lookAtEnum_255 hl (k := 2) rfl rfl (by decide) rfl (fun ls hl => ?_)
      refine lv_goto (tgt := 143) C.1 C.2.1 dX11_lookAtEnum_258 (by decide) ?_
      exact hk143 _ _ _ _ hM tx0 _ _ h ls (lv_sub hl [1, 2, 0] rfl)
    · have hM := ite_f q hM
      refine lv_aload_n C.1 C.2.1 dX11_lookAtEnum_191 rfl (lv_at hl 0 rfl) ?_
      refine gt_11_20 C h tx0 fl_X11_58 dX11_lookAtEnum_192 ?_
      obtain ⟨b_2, hb_2, hM⟩ := nb_some hM
      have tb_2 : Ty E G b_2 12 := (fun b hb => tyf h tx0 hb) _ hb_2
      refine st_ref hb_2 ?_
      refine lv_bipush (v := 8) C.1 C.2.1 dX11_lookAtEnum_195 (by decide) ?_
      refine lv_iload_n C.1 C.2.1 dX11_lookAtEnum_197 rfl (lv_at hl 1 rfl) ?_
      refine lv_imul C.1 C.2.1 dX11_lookAtEnum_198 ?_
      refine lv_iload C.1 C.2.1 dX11_lookAtEnum_199 (lv_at hl 4 rfl) ?_
      refine lv_iadd C.1 C.2.1 dX11_lookAtEnum_201 ?_
      obtain ⟨hi, hM⟩ := ib_some hM
      refine h_iald C h tb_2 hi dX11_lookAtEnum_202 ?_
      refine lv_if_ge (tgt := 249) C.1 C.2.1 dX11_lookAtEnum_203 (by decide) (fun q => ?_) (fun q => ?_)
      · have hM := ite_t q hM
        refine lv_iinc (v := x4 + 1) (lv' := [(4, .int (x4 + 1)), (0, .ref x0), (1, .int x1), (2, .int x2), (3, .int x3)]) C.1 C.2.1 dX11_lookAtEnum_249 hl (k := 4) rfl rfl (by decide) rfl (fun ls hl => ?_)
        refine lv_goto (tgt := 180) C.1 C.2.1 dX11_lookAtEnum_252 (by decide) ?_
        exact ih _ _ _ _ _ _ hM tx0 _ _ h ls (lv_sub hl [1, 2, 3, 4, 0] rfl)
      · have hM := ite_f q hM
        refine lv_aload_n C.1 C.2.1 dX11_lookAtEnum_206 rfl (lv_at hl 0 rfl) ?_
        refine lv_iload_n C.1 C.2.1 dX11_lookAtEnum_207 rfl (lv_at hl 3 rfl) ?_
        refine lv_aload_n C.1 C.2.1 dX11_lookAtEnum_208 rfl (lv_at hl 0 rfl) ?_
        refine gt_11_18 C h tx0 fl_X11_52 dX11_lookAtEnum_209 ?_
        obtain ⟨b_3, hb_3, hM⟩ := nb_some hM
        have tb_3 : Ty E G b_3 12 := (fun b hb => tyf h tx0 hb) _ hb_3
        refine st_ref hb_3 ?_
        refine lv_bipush (v := 8) C.1 C.2.1 dX11_lookAtEnum_212 (by decide) ?_
        refine lv_iload_n C.1 C.2.1 dX11_lookAtEnum_214 rfl (lv_at hl 1 rfl) ?_
        refine lv_imul C.1 C.2.1 dX11_lookAtEnum_215 ?_
        refine lv_iload C.1 C.2.1 dX11_lookAtEnum_216 (lv_at hl 4 rfl) ?_
        refine lv_iadd C.1 C.2.1 dX11_lookAtEnum_218 ?_
        obtain ⟨hi, hM⟩ := ib_some hM
        refine h_iald C h tb_3 hi dX11_lookAtEnum_219 ?_
        refine lv_aload_n C.1 C.2.1 dX11_lookAtEnum_220 rfl (lv_at hl 0 rfl) ?_
        refine gt_11_19 C h tx0 fl_X11_55 dX11_lookAtEnum_221 ?_
        obtain ⟨b_4, hb_4, hM⟩ := nb_some hM
        have tb_4 : Ty E G b_4 12 := (fun b hb => tyf h tx0 hb) _ hb_4
        refine st_ref hb_4 ?_
        refine lv_bipush (v := 8) C.1 C.2.1 dX11_lookAtEnum_224 (by decide) ?_
        refine lv_iload_n C.1 C.2.1 dX11_lookAtEnum_226 rfl (lv_at hl 1 rfl) ?_
        refine lv_imul C.1 C.2.1 dX11_lookAtEnum_227 ?_
        refine lv_iload C.1 C.2.1 dX11_lookAtEnum_228 (lv_at hl 4 rfl) ?_
        refine lv_iadd C.1 C.2.1 dX11_lookAtEnum_230 ?_
        obtain ⟨hi, hM⟩ := ib_some hM
        refine h_iald C h tb_4 hi dX11_lookAtEnum_231 ?_
        obtain ⟨r_5, m_6, hc_5, hM⟩ := bd_some hM
        refine h_callVi C h (As := [.int x3, .int (gI m b_3 (((8 * x1) + x4).toNatClampNeg)), .int (gI m b_4 (((8 * x1) + x4).toNatClampNeg))]) (rest := []) r_5 m_6 (c_X11_giveBy hc_5 tx0) 11 rfl (by decide) tx0 im_yX11_giveBy se_yX11_giveBy cy_X11_giveBy rfl ml_X11_315 ⟨by decide, by decide⟩ ⟨Nat.zero_le _, Nat.zero_le _⟩ hl.1 rfl (Nat.le_of_ble_eq_true rfl) dX11_lookAtEnum_232 (fun H locs h => ?_)
        refine lv_if_ge (tgt := 249) C.1 C.2.1 dX11_lookAtEnum_235 (by decide) (fun q => ?_) (fun q => ?_)
        · have hM := ite_t q hM
          refine lv_iinc (v := x4 + 1) (lv' := [(4, .int (x4 + 1)), (0, .ref x0), (1, .int x1), (2, .int x2), (3, .int x3)]) C.1 C.2.1 dX11_lookAtEnum_249 hl (k := 4) rfl rfl (by decide) rfl (fun ls hl => ?_)
          refine lv_goto (tgt := 180) C.1 C.2.1 dX11_lookAtEnum_252 (by decide) ?_
          exact ih _ _ _ _ _ _ hM tx0 _ _ h ls (lv_sub hl [1, 2, 3, 4, 0] rfl)
        · have hM := ite_f q hM
          refine lv_aload_n C.1 C.2.1 dX11_lookAtEnum_238 rfl (lv_at hl 0 rfl) ?_
          refine lv_iconst (v := 4) C.1 C.2.1 dX11_lookAtEnum_239 (by decide) ?_
          refine lv_aload_n C.1 C.2.1 dX11_lookAtEnum_240 rfl (lv_at hl 0 rfl) ?_
          refine gt_11_14 C h tx0 fl_X11_40 dX11_lookAtEnum_241 ?_
          obtain ⟨b_7, hb_7, hM⟩ := nb_some hM
          have tb_7 : Ty E G b_7 12 := (fun b hb => tyf h tx0 hb) _ hb_7
          refine st_ref hb_7 ?_
          refine lv_iload_n C.1 C.2.1 dX11_lookAtEnum_244 rfl (lv_at hl 3 rfl) ?_
          obtain ⟨hi, hM⟩ := ib_some hM
          refine h_iald C h tb_7 hi dX11_lookAtEnum_245 ?_
          obtain ⟨r_8, m_9, hc_8, hM⟩ := bd_some hM
          refine h_callVv C h (As := [.int 4, .int (gI m_6 b_7 x3.toNatClampNeg)]) (rest := []) m_9 (c_X11_wrong hc_8 tx0) 11 rfl (by decide) tx0 im_yX11_wrong se_yX11_wrong cy_X11_wrong rfl ml_X11_304 ⟨by decide, by decide⟩ ⟨Nat.zero_le _, Nat.zero_le _⟩ hl.1 rfl (Nat.le_of_ble_eq_true rfl) dX11_lookAtEnum_246 (fun H locs h => ?_)
          refine lv_iinc (v := x4 + 1) (lv' := [(4, .int (x4 + 1)), (0, .ref x0), (1, .int x1), (2, .int x2), (3, .int x3)]) C.1 C.2.1 dX11_lookAtEnum_249 hl (k := 4) rfl rfl (by decide) rfl (fun ls hl => ?_)
          refine lv_goto (tgt := 180) C.1 C.2.1 dX11_lookAtEnum_252 (by decide) ?_
          exact ih _ _ _ _ _ _ hM tx0 _ _ h ls (lv_sub hl [1, 2, 3, 4, 0] rfl)
def B_X11_lookAtEnum_143 (G : GG) : Nat → Nat → Int32 → Int32 → MM → Option (Unit × MM)
  | 0, _, _, _, _ => none
  | fu + 1, x0, x1, x2, m =>
    nb (gR m x0 9) fun b_10 =>
      ib x1 (G.2.2 b_10) <|
        if (gI m b_10 x1.toNatClampNeg) ≤ x2 then
          some ((), m)
        else
          nb (gR m x0 14) fun b_11 =>
            ib ((12 * x1) + x2) (G.2.2 b_11) <|
              nb (gR m x0 15) fun b_12 =>
                ib ((12 * x1) + x2) (G.2.2 b_12) <|
                  bd (M_X11_first G x0 x1 (gI m b_11 (((12 * x1) + x2).toNatClampNeg)) (gI m b_12 (((12 * x1) + x2).toNatClampNeg)) m) fun _ m_14 =>
                    B_X11_lookAtEnum_180 G (B_X11_lookAtEnum_143 G fu) FU x0 x1 x2 ((12 * x1) + x2) 0 m_14
set_option maxRecDepth 100000 in
set_option maxHeartbeats 4000000 in
theorem cB_X11_lookAtEnum_143 {p : Program} {l : Launch} {e : Env} {s : State} {mth : MethodId} {args : Array Value} {below : List Frame} {meth : Method} {c : Code} {E : EE} {G : GG} {r9 : Unit} {m9 : MM} (C : Cx E G p s mth args meth c cX11_lookAtEnum RX11 "lookAtEnum" 5 none) : ∀ (fu : Nat) (x0 : Nat) (x1 : Int32) (x2 : Int32) (m : MM), B_X11_lookAtEnum_143 G fu x0 x1 x2 m = some (r9, m9) → (Ty E G x0 11) → ∀ (H : Heap) (locs : List Loc), Hp E G m s H locs → ∀ ls : Array Slot, lv_has ls 5 [(0, .ref x0), (1, .int x1), (2, .int x2)] → W p l e rmX11_lookAtEnum s mth args below meth c H locs 0 0 (MQ below (cQv E G m9) args s 0 0 (fun q => E.2.2.1 ≤ q)) (F0 mth 143 ls []) := by
  intro fu
  induction fu with
  | zero =>
    intro x0 x1 x2 m hM
    rw [B_X11_lookAtEnum_143] at hM
    cases hM
  | succ fu ih =>
    intro x0 x1 x2 m hM tx0 H locs h ls hl
    rw [B_X11_lookAtEnum_143] at hM
    refine lv_iload_n C.1 C.2.1 dX11_lookAtEnum_143 rfl (lv_at hl 2 rfl) ?_
    refine lv_aload_n C.1 C.2.1 dX11_lookAtEnum_144 rfl (lv_at hl 0 rfl) ?_
    refine gt_11_9 C h tx0 fl_X11_25 dX11_lookAtEnum_145 ?_
    obtain ⟨b_10, hb_10, hM⟩ := nb_some hM
    have tb_10 : Ty E G b_10 12 := (fun b hb => tyf h tx0 hb) _ hb_10
    refine st_ref hb_10 ?_
    refine lv_iload_n C.1 C.2.1 dX11_lookAtEnum_148 rfl (lv_at hl 1 rfl) ?_
    obtain ⟨hi, hM⟩ := ib_some hM
    refine h_iald C h tb_10 hi dX11_lookAtEnum_149 ?_
    refine lv_icmp_ge (tgt := 261) C.1 C.2.1 dX11_lookAtEnum_150 (by decide) (fun q => ?_) (fun q => ?_)
    · have hM := ite_t q hM
      obtain ⟨rfl, rfl⟩ := so_inj hM
      exact h_vret C h dX11_lookAtEnum_261
    · have hM := ite_f q hM
      refine lv_bipush (v := 12) C.1 C.2.1 dX11_lookAtEnum_153 (by decide) ?_
      refine lv_iload_n C.1 C.2.1 dX11_lookAtEnum_155 rfl (lv_at hl 1 rfl) ?_
      refine lv_imul C.1 C.2.1 dX11_lookAtEnum_156 ?_
      refine lv_iload_n C.1 C.2.1 dX11_lookAtEnum_157 rfl (lv_at hl 2 rfl) ?_
      refine lv_iadd C.1 C.2.1 dX11_lookAtEnum_158 ?_
      refine lv_istore_n (lv' := [(3, .int ((12 * x1) + x2)), (0, .ref x0), (1, .int x1), (2, .int x2)]) C.1 C.2.1 dX11_lookAtEnum_159 rfl hl (by decide) rfl (fun ls hl => ?_)
      refine lv_aload_n C.1 C.2.1 dX11_lookAtEnum_160 rfl (lv_at hl 1 rfl) ?_
      refine lv_iload_n C.1 C.2.1 dX11_lookAtEnum_161 rfl (lv_at hl 2 rfl) ?_
      refine lv_aload_n C.1 C.2.1 dX11_lookAtEnum_162 rfl (lv_at hl 1 rfl) ?_
      refine gt_11_14 C h tx0 fl_X11_40 dX11_lookAtEnum_163 ?_
      obtain ⟨b_11, hb_11, hM⟩ := nb_some hM
      have tb_11 : Ty E G b_11 12 := (fun b hb => tyf h tx0 hb) _ hb_11
      refine st_ref hb_11 ?_
      refine lv_iload_n C.1 C.2.1 dX11_lookAtEnum_166 rfl (lv_at hl 0 rfl) ?_
      obtain ⟨hi, hM⟩ := ib_some hM
      refine h_iald C h tb_11 hi dX11_lookAtEnum_167 ?_
      refine lv_aload_n C.1 C.2.1 dX11_lookAtEnum_168 rfl (lv_at hl 1 rfl) ?_
      refine gt_11_15 C h tx0 fl_X11_43 dX11_lookAtEnum_169 ?_
      obtain ⟨b_12, hb_12, hM⟩ := nb_some hM
      have tb_12 : Ty E G b_12 12 := (fun b hb => tyf h tx0 hb) _ hb_12
      refine st_ref hb_12 ?_
      refine lv_iload_n C.1 C.2.1 dX11_lookAtEnum_172 rfl (lv_at hl 0 rfl) ?_
      obtain ⟨hi, hM⟩ := ib_some hM
      refine h_iald C h tb_12 hi dX11_lookAtEnum_173 ?_
      obtain ⟨r_13, m_14, hc_13, hM⟩ := bd_some hM
      refine h_callVv C h (As := [.int x1, .int (gI m b_11 (((12 * x1) + x2).toNatClampNeg)), .int (gI m b_12 (((12 * x1) + x2).toNatClampNeg))]) (rest := []) m_14 (c_X11_first hc_13 tx0) 11 rfl (by decide) tx0 im_yX11_first se_yX11_first cy_X11_first rfl ml_X11_311 ⟨by decide, by decide⟩ ⟨Nat.zero_le _, Nat.zero_le _⟩ hl.1 rfl (Nat.le_of_ble_eq_true rfl) dX11_lookAtEnum_174 (fun H locs h => ?_)
      refine lv_iconst (v := 0) C.1 C.2.1 dX11_lookAtEnum_177 (by decide) ?_
      refine lv_istore (lv' := [(4, .int 0), (3, .int ((12 * x1) + x2)), (0, .ref x0), (1, .int x1), (2, .int x2)]) C.1 C.2.1 dX11_lookAtEnum_178 hl (by decide) rfl (fun ls hl => ?_)
      exact cB_X11_lookAtEnum_180 C ih _ _ _ _ _ _ _ hM tx0 _ _ h ls (lv_sub hl [2, 3, 4, 1, 0] rfl)
def B_X11_lookAtEnum_98 (G : GG) : Nat → Nat → Int32 → Int32 → MM → Option (Unit × MM)
  | 0, _, _, _, _ => none
  | fu + 1, x0, x1, x2, m =>
    nb (gR m x0 11) fun b_15 =>
      ib x1 (G.2.2 b_15) <|
        if (gI m b_15 x1.toNatClampNeg) ≤ x2 then
          B_X11_lookAtEnum_143 G FU x0 x1 0 m
        else
          nb (gR m x0 22) fun b_16 =>
            ib ((6 * x1) + x2) (G.2.2 b_16) <|
              nb (gR m x0 23) fun b_17 =>
                ib ((6 * x1) + x2) (G.2.2 b_17) <|
                  bd (M_X11_first G x0 x1 (gI m b_16 (((6 * x1) + x2).toNatClampNeg)) (gI m b_17 (((6 * x1) + x2).toNatClampNeg)) m) fun _ m_19 =>
                    B_X11_lookAtEnum_98 G fu x0 x1 (x2 + 1) m_19
set_option maxRecDepth 100000 in
set_option maxHeartbeats 4000000 in
theorem cB_X11_lookAtEnum_98 {p : Program} {l : Launch} {e : Env} {s : State} {mth : MethodId} {args : Array Value} {below : List Frame} {meth : Method} {c : Code} {E : EE} {G : GG} {r9 : Unit} {m9 : MM} (C : Cx E G p s mth args meth c cX11_lookAtEnum RX11 "lookAtEnum" 5 none) : ∀ (fu : Nat) (x0 : Nat) (x1 : Int32) (x2 : Int32) (m : MM), B_X11_lookAtEnum_98 G fu x0 x1 x2 m = some (r9, m9) → (Ty E G x0 11) → ∀ (H : Heap) (locs : List Loc), Hp E G m s H locs → ∀ ls : Array Slot, lv_has ls 5 [(0, .ref x0), (1, .int x1), (2, .int x2)] → W p l e rmX11_lookAtEnum s mth args below meth c H locs 0 0 (MQ below (cQv E G m9) args s 0 0 (fun q => E.2.2.1 ≤ q)) (F0 mth 98 ls []) := by
  intro fu
  induction fu with
  | zero =>
    intro x0 x1 x2 m hM
    rw [B_X11_lookAtEnum_98] at hM
    cases hM
  | succ fu ih =>
    intro x0 x1 x2 m hM tx0 H locs h ls hl
    rw [B_X11_lookAtEnum_98] at hM
    refine lv_iload_n C.1 C.2.1 dX11_lookAtEnum_98 rfl (lv_at hl 2 rfl) ?_
    refine lv_aload_n C.1 C.2.1 dX11_lookAtEnum_99 rfl (lv_at hl 0 rfl) ?_
    refine gt_11_11 C h tx0 fl_X11_31 dX11_lookAtEnum_100 ?_
    obtain ⟨b_15, hb_15, hM⟩ := nb_some hM
    have tb_15 : Ty E G b_15 12 := (fun b hb => tyf h tx0 hb) _ hb_15
    refine st_ref hb_15 ?_
    refine lv_iload_n C.1 C.2.1 dX11_lookAtEnum_103 rfl (lv_at hl 1 rfl) ?_
    obtain ⟨hi, hM⟩ := ib_some hM
    refine h_iald C h tb_15 hi dX11_lookAtEnum_104 ?_
    refine lv_icmp_ge (tgt := 141) C.1 C.2.1 dX11_lookAtEnum_105 (by decide) (fun q => ?_) (fun q => ?_)
    · have hM := ite_t q hM
      refine lv_iconst (v := 0) C.1 C.2.1 dX11_lookAtEnum_141 (by decide) ?_
      refine lv_istore_n (lv' := [(2, .int 0), (0, .ref x0), (1, .int x1)]) C.1 C.2.1 dX11_lookAtEnum_142 rfl hl (by decide) rfl (fun ls hl => ?_)
      exact cB_X11_lookAtEnum_143 C _ _ _ _ _ hM tx0 _ _ h ls (lv_sub hl [1, 2, 0] rfl)
    · have hM := ite_f q hM
      refine lv_aload_n C.1 C.2.1 dX11_lookAtEnum_108 rfl (lv_at hl 0 rfl) ?_
      refine lv_iload_n C.1 C.2.1 dX11_lookAtEnum_109 rfl (lv_at hl 1 rfl) ?_
      refine lv_aload_n C.1 C.2.1 dX11_lookAtEnum_110 rfl (lv_at hl 0 rfl) ?_
      refine gt_11_22 C h tx0 fl_X11_64 dX11_lookAtEnum_111 ?_
      obtain ⟨b_16, hb_16, hM⟩ := nb_some hM
      have tb_16 : Ty E G b_16 12 := (fun b hb => tyf h tx0 hb) _ hb_16
      refine st_ref hb_16 ?_
      refine lv_bipush (v := 6) C.1 C.2.1 dX11_lookAtEnum_114 (by decide) ?_
      refine lv_iload_n C.1 C.2.1 dX11_lookAtEnum_116 rfl (lv_at hl 1 rfl) ?_
      refine lv_imul C.1 C.2.1 dX11_lookAtEnum_117 ?_
      refine lv_iload_n C.1 C.2.1 dX11_lookAtEnum_118 rfl (lv_at hl 2 rfl) ?_
      refine lv_iadd C.1 C.2.1 dX11_lookAtEnum_119 ?_
      obtain ⟨hi, hM⟩ := ib_some hM
      refine h_iald C h tb_16 hi dX11_lookAtEnum_120 ?_
      refine lv_aload_n C.1 C.2.1 dX11_lookAtEnum_121 rfl (lv_at hl 0 rfl) ?_
      refine gt_11_23 C h tx0 fl_X11_67 dX11_lookAtEnum_122 ?_
      obtain ⟨b_17, hb_17, hM⟩ := nb_some hM
      have tb_17 : Ty E G b_17 12 := (fun b hb => tyf h tx0 hb) _ hb_17
      refine st_ref hb_17 ?_
      refine lv_bipush (v := 6) C.1 C.2.1 dX11_lookAtEnum_125 (by decide) ?_
      refine lv_iload_n C.1 C.2.1 dX11_lookAtEnum_127 rfl (lv_at hl 1 rfl) ?_
      refine lv_imul C.1 C.2.1 dX11_lookAtEnum_128 ?_
      refine lv_iload_n C.1 C.2.1 dX11_lookAtEnum_129 rfl (lv_at hl 2 rfl) ?_
      refine lv_iadd C.1 C.2.1 dX11_lookAtEnum_130 ?_
      obtain ⟨hi, hM⟩ := ib_some hM
      refine h_iald C h tb_17 hi dX11_lookAtEnum_131 ?_
      obtain ⟨r_18, m_19, hc_18, hM⟩ := bd_some hM
      refine h_callVv C h (As := [.int x1, .int (gI m b_16 (((6 * x1) + x2).toNatClampNeg)), .int (gI m b_17 (((6 * x1) + x2).toNatClampNeg))]) (rest := []) m_19 (c_X11_first hc_18 tx0) 11 rfl (by decide) tx0 im_yX11_first se_yX11_first cy_X11_first rfl ml_X11_311 ⟨by decide, by decide⟩ ⟨Nat.zero_le _, Nat.zero_le _⟩ hl.1 rfl (Nat.le_of_ble_eq_true rfl) dX11_lookAtEnum_132 (fun H locs h => ?_)
      refine lv_iinc (v := x2 + 1) (lv' := [(2, .int (x2 + 1)), (0, .ref x0), (1, .int x1)]) C.1 C.2.1 dX11_lookAtEnum_135 hl (k := 2) rfl rfl (by decide) rfl (fun ls hl => ?_)
      refine lv_goto (tgt := 98) C.1 C.2.1 dX11_lookAtEnum_138 (by decide) ?_
      exact ih _ _ _ _ hM tx0 _ _ h ls (lv_sub hl [1, 2, 0] rfl)
def B_X11_lookAtEnum_53 (G : GG) : Nat → Nat → Int32 → Int32 → MM → Option (Unit × MM)
  | 0, _, _, _, _ => none
  | fu + 1, x0, x1, x2, m =>
    nb (gR m x0 10) fun b_20 =>
      ib x1 (G.2.2 b_20) <|
        if (gI m b_20 x1.toNatClampNeg) ≤ x2 then
          B_X11_lookAtEnum_98 G FU x0 x1 0 m
        else
          nb (gR m x0 18) fun b_21 =>
            ib ((8 * x1) + x2) (G.2.2 b_21) <|
              nb (gR m x0 19) fun b_22 =>
                ib ((8 * x1) + x2) (G.2.2 b_22) <|
                  bd (M_X11_first G x0 x1 (gI m b_21 (((8 * x1) + x2).toNatClampNeg)) (gI m b_22 (((8 * x1) + x2).toNatClampNeg)) m) fun _ m_24 =>
                    B_X11_lookAtEnum_53 G fu x0 x1 (x2 + 1) m_24
set_option maxRecDepth 100000 in
set_option maxHeartbeats 4000000 in
theorem cB_X11_lookAtEnum_53 {p : Program} {l : Launch} {e : Env} {s : State} {mth : MethodId} {args : Array Value} {below : List Frame} {meth : Method} {c : Code} {E : EE} {G : GG} {r9 : Unit} {m9 : MM} (C : Cx E G p s mth args meth c cX11_lookAtEnum RX11 "lookAtEnum" 5 none) : ∀ (fu : Nat) (x0 : Nat) (x1 : Int32) (x2 : Int32) (m : MM), B_X11_lookAtEnum_53 G fu x0 x1 x2 m = some (r9, m9) → (Ty E G x0 11) → ∀ (H : Heap) (locs : List Loc), Hp E G m s H locs → ∀ ls : Array Slot, lv_has ls 5 [(0, .ref x0), (1, .int x1), (2, .int x2)] → W p l e rmX11_lookAtEnum s mth args below meth c H locs 0 0 (MQ below (cQv E G m9) args s 0 0 (fun q => E.2.2.1 ≤ q)) (F0 mth 53 ls []) := by
  intro fu
  induction fu with
  | zero =>
    intro x0 x1 x2 m hM
    rw [B_X11_lookAtEnum_53] at hM
    cases hM
  | succ fu ih =>
    intro x0 x1 x2 m hM tx0 H locs h ls hl
    rw [B_X11_lookAtEnum_53] at hM
    refine lv_iload_n C.1 C.2.1 dX11_lookAtEnum_53 rfl (lv_at hl 2 rfl) ?_
    refine lv_aload_n C.1 C.2.1 dX11_lookAtEnum_54 rfl (lv_at hl 0 rfl) ?_
    refine gt_11_10 C h tx0 fl_X11_28 dX11_lookAtEnum_55 ?_
    obtain ⟨b_20, hb_20, hM⟩ := nb_some hM
    have tb_20 : Ty E G b_20 12 := (fun b hb => tyf h tx0 hb) _ hb_20
    refine st_ref hb_20 ?_
    refine lv_iload_n C.1 C.2.1 dX11_lookAtEnum_58 rfl (lv_at hl 1 rfl) ?_
    obtain ⟨hi, hM⟩ := ib_some hM
    refine h_iald C h tb_20 hi dX11_lookAtEnum_59 ?_
    refine lv_icmp_ge (tgt := 96) C.1 C.2.1 dX11_lookAtEnum_60 (by decide) (fun q => ?_) (fun q => ?_)
    · have hM := ite_t q hM
      refine lv_iconst (v := 0) C.1 C.2.1 dX11_lookAtEnum_96 (by decide) ?_
      refine lv_istore_n (lv' := [(2, .int 0), (0, .ref x0), (1, .int x1)]) C.1 C.2.1 dX11_lookAtEnum_97 rfl hl (by decide) rfl (fun ls hl => ?_)
      exact cB_X11_lookAtEnum_98 C _ _ _ _ _ hM tx0 _ _ h ls (lv_sub hl [1, 2, 0] rfl)
    · have hM := ite_f q hM
      refine lv_aload_n C.1 C.2.1 dX11_lookAtEnum_63 rfl (lv_at hl 0 rfl) ?_
      refine lv_iload_n C.1 C.2.1 dX11_lookAtEnum_64 rfl (lv_at hl 1 rfl) ?_
      refine lv_aload_n C.1 C.2.1 dX11_lookAtEnum_65 rfl (lv_at hl 0 rfl) ?_
      refine gt_11_18 C h tx0 fl_X11_52 dX11_lookAtEnum_66 ?_
      obtain ⟨b_21, hb_21, hM⟩ := nb_some hM
      have tb_21 : Ty E G b_21 12 := (fun b hb => tyf h tx0 hb) _ hb_21
      refine st_ref hb_21 ?_
      refine lv_bipush (v := 8) C.1 C.2.1 dX11_lookAtEnum_69 (by decide) ?_
      refine lv_iload_n C.1 C.2.1 dX11_lookAtEnum_71 rfl (lv_at hl 1 rfl) ?_
      refine lv_imul C.1 C.2.1 dX11_lookAtEnum_72 ?_
      refine lv_iload_n C.1 C.2.1 dX11_lookAtEnum_73 rfl (lv_at hl 2 rfl) ?_
      refine lv_iadd C.1 C.2.1 dX11_lookAtEnum_74 ?_
      obtain ⟨hi, hM⟩ := ib_some hM
      refine h_iald C h tb_21 hi dX11_lookAtEnum_75 ?_
      refine lv_aload_n C.1 C.2.1 dX11_lookAtEnum_76 rfl (lv_at hl 0 rfl) ?_
      refine gt_11_19 C h tx0 fl_X11_55 dX11_lookAtEnum_77 ?_
      obtain ⟨b_22, hb_22, hM⟩ := nb_some hM
      have tb_22 : Ty E G b_22 12 := (fun b hb => tyf h tx0 hb) _ hb_22
      refine st_ref hb_22 ?_
      refine lv_bipush (v := 8) C.1 C.2.1 dX11_lookAtEnum_80 (by decide) ?_
      refine lv_iload_n C.1 C.2.1 dX11_lookAtEnum_82 rfl (lv_at hl 1 rfl) ?_
      refine lv_imul C.1 C.2.1 dX11_lookAtEnum_83 ?_
      refine lv_iload_n C.1 C.2.1 dX11_lookAtEnum_84 rfl (lv_at hl 2 rfl) ?_
      refine lv_iadd C.1 C.2.1 dX11_lookAtEnum_85 ?_
      obtain ⟨hi, hM⟩ := ib_some hM
      refine h_iald C h tb_22 hi dX11_lookAtEnum_86 ?_
      obtain ⟨r_23, m_24, hc_23, hM⟩ := bd_some hM
      refine h_callVv C h (As := [.int x1, .int (gI m b_21 (((8 * x1) + x2).toNatClampNeg)), .int (gI m b_22 (((8 * x1) + x2).toNatClampNeg))]) (rest := []) m_24 (c_X11_first hc_23 tx0) 11 rfl (by decide) tx0 im_yX11_first se_yX11_first cy_X11_first rfl ml_X11_311 ⟨by decide, by decide⟩ ⟨Nat.zero_le _, Nat.zero_le _⟩ hl.1 rfl (Nat.le_of_ble_eq_true rfl) dX11_lookAtEnum_87 (fun H locs h => ?_)
      refine lv_iinc (v := x2 + 1) (lv' := [(2, .int (x2 + 1)), (0, .ref x0), (1, .int x1)]) C.1 C.2.1 dX11_lookAtEnum_90 hl (k := 2) rfl rfl (by decide) rfl (fun ls hl => ?_)
      refine lv_goto (tgt := 53) C.1 C.2.1 dX11_lookAtEnum_93 (by decide) ?_
      exact ih _ _ _ _ hM tx0 _ _ h ls (lv_sub hl [1, 2, 0] rfl)
def B_X11_lookAtEnum_31 (G : GG) (x0 : Nat) (x1 : Int32) (m : MM) : Option (Unit × MM) :=
  nb (gR m x0 49) fun b_25 =>
    ib x1 (G.2.2 b_25) <|
      if (gI m b_25 x1.toNatClampNeg) < 0 then
        B_X11_lookAtEnum_53 G FU x0 x1 0 m
      else
        ib x1 (G.2.2 b_25) <|
          bd (M_X11_wrong G x0 2 (gI m b_25 x1.toNatClampNeg) m) fun _ m_27 =>
            B_X11_lookAtEnum_53 G FU x0 x1 0 m_27
set_option maxRecDepth 100000 in
set_option maxHeartbeats 4000000 in
theorem cB_X11_lookAtEnum_31 {p : Program} {l : Launch} {e : Env} {s : State} {mth : MethodId} {args : Array Value} {below : List Frame} {meth : Method} {c : Code} {E : EE} {G : GG} {r9 : Unit} {m9 : MM} (C : Cx E G p s mth args meth c cX11_lookAtEnum RX11 "lookAtEnum" 5 none) {x0 : Nat} {x1 : Int32} {m : MM} (hM : B_X11_lookAtEnum_31 G x0 x1 m = some (r9, m9)) (tx0 : Ty E G x0 11) : ∀ (H : Heap) (locs : List Loc), Hp E G m s H locs → ∀ ls : Array Slot, lv_has ls 5 [(0, .ref x0), (1, .int x1)] → W p l e rmX11_lookAtEnum s mth args below meth c H locs 0 0 (MQ below (cQv E G m9) args s 0 0 (fun q => E.2.2.1 ≤ q)) (F0 mth 31 ls []) := by
  intro H locs h ls hl
  unfold B_X11_lookAtEnum_31 at hM
  refine lv_aload_n C.1 C.2.1 dX11_lookAtEnum_31 rfl (lv_at hl 0 rfl) ?_
  refine gt_11_49 C h tx0 fl_X11_121 dX11_lookAtEnum_32 ?_
  obtain ⟨b_25, hb_25, hM⟩ := nb_some hM
  have tb_25 : Ty E G b_25 12 := (fun b hb => tyf h tx0 hb) _ hb_25
  refine st_ref hb_25 ?_
  refine lv_iload_n C.1 C.2.1 dX11_lookAtEnum_35 rfl (lv_at hl 1 rfl) ?_
  obtain ⟨hi, hM⟩ := ib_some hM
  refine h_iald C h tb_25 hi dX11_lookAtEnum_36 ?_
  refine lv_if_lt (tgt := 51) C.1 C.2.1 dX11_lookAtEnum_37 (by decide) (fun q => ?_) (fun q => ?_)
  · have hM := ite_t q hM
    refine lv_iconst (v := 0) C.1 C.2.1 dX11_lookAtEnum_51 (by decide) ?_
    refine lv_istore_n (lv' := [(2, .int 0), (0, .ref x0), (1, .int x1)]) C.1 C.2.1 dX11_lookAtEnum_52 rfl hl (by decide) rfl (fun ls hl => ?_)
    exact cB_X11_lookAtEnum_53 C _ _ _ _ _ hM tx0 _ _ h ls (lv_sub hl [1, 2, 0] rfl)
  · have hM := ite_f q hM
    refine lv_aload_n C.1 C.2.1 dX11_lookAtEnum_40 rfl (lv_at hl 0 rfl) ?_
    refine lv_iconst (v := 2) C.1 C.2.1 dX11_lookAtEnum_41 (by decide) ?_
    refine lv_aload_n C.1 C.2.1 dX11_lookAtEnum_42 rfl (lv_at hl 0 rfl) ?_
    refine gt_11_49 C h tx0 fl_X11_121 dX11_lookAtEnum_43 ?_
    refine st_ref hb_25 ?_
    refine lv_iload_n C.1 C.2.1 dX11_lookAtEnum_46 rfl (lv_at hl 1 rfl) ?_
    obtain ⟨hi, hM⟩ := ib_some hM
    refine h_iald C h tb_25 hi dX11_lookAtEnum_47 ?_
    obtain ⟨r_26, m_27, hc_26, hM⟩ := bd_some hM
    refine h_callVv C h (As := [.int 2, .int (gI m b_25 x1.toNatClampNeg)]) (rest := []) m_27 (c_X11_wrong hc_26 tx0) 11 rfl (by decide) tx0 im_yX11_wrong se_yX11_wrong cy_X11_wrong rfl ml_X11_304 ⟨by decide, by decide⟩ ⟨Nat.zero_le _, Nat.zero_le _⟩ hl.1 rfl (Nat.le_of_ble_eq_true rfl) dX11_lookAtEnum_48 (fun H locs h => ?_)
    refine lv_iconst (v := 0) C.1 C.2.1 dX11_lookAtEnum_51 (by decide) ?_
    refine lv_istore_n (lv' := [(2, .int 0), (0, .ref x0), (1, .int x1)]) C.1 C.2.1 dX11_lookAtEnum_52 rfl hl (by decide) rfl (fun ls hl => ?_)
    exact cB_X11_lookAtEnum_53 C _ _ _ _ _ hM tx0 _ _ h ls (lv_sub hl [1, 2, 0] rfl)
def M_X11_lookAtEnum (G : GG) (x0 : Nat) (x1 : Int32) (m : MM) : Option (Unit × MM) :=
  nb (gR m x0 7) fun b_28 =>
    ib x1 (G.2.2 b_28) <|
      nb (gR m x0 8) fun b_29 =>
        ib x1 (G.2.2 b_29) <|
          bd (M_X11_enumOf G x0 (gI m b_28 x1.toNatClampNeg) (gI m b_29 x1.toNatClampNeg) m) fun r_30 m_31 =>
            if x1 ≤ r_30 then
              B_X11_lookAtEnum_31 G x0 x1 m_31
            else
              nb (gR m_31 x0 7) fun b_32 =>
                ib x1 (G.2.2 b_32) <|
                  bd (M_X11_wrong G x0 2 (gI m_31 b_32 x1.toNatClampNeg) m_31) fun _ m_34 =>
                    B_X11_lookAtEnum_31 G x0 x1 m_34
set_option maxRecDepth 100000 in
set_option maxHeartbeats 4000000 in
theorem cM_X11_lookAtEnum {p : Program} {l : Launch} {e : Env} {s : State} {mth : MethodId} {args : Array Value} {below : List Frame} {meth : Method} {c : Code} {E : EE} {G : GG} {r9 : Unit} {m9 : MM} (C : Cx E G p s mth args meth c cX11_lookAtEnum RX11 "lookAtEnum" 5 none) {x0 : Nat} {x1 : Int32} {m : MM} (hM : M_X11_lookAtEnum G x0 x1 m = some (r9, m9)) (tx0 : Ty E G x0 11) : ∀ (H : Heap) (locs : List Loc), Hp E G m s H locs → ∀ ls : Array Slot, lv_has ls 5 [(0, .ref x0), (1, .int x1)] → W p l e rmX11_lookAtEnum s mth args below meth c H locs 0 0 (MQ below (cQv E G m9) args s 0 0 (fun q => E.2.2.1 ≤ q)) (F0 mth 0 ls []) := by
  intro H locs h ls hl
  unfold M_X11_lookAtEnum at hM
  refine lv_aload_n C.1 C.2.1 dX11_lookAtEnum_0 rfl (lv_at hl 0 rfl) ?_
  refine lv_aload_n C.1 C.2.1 dX11_lookAtEnum_1 rfl (lv_at hl 0 rfl) ?_
  refine gt_11_7 C h tx0 fl_X11_19 dX11_lookAtEnum_2 ?_
  obtain ⟨b_28, hb_28, hM⟩ := nb_some hM
  have tb_28 : Ty E G b_28 12 := (fun b hb => tyf h tx0 hb) _ hb_28
  refine st_ref hb_28 ?_
  refine lv_iload_n C.1 C.2.1 dX11_lookAtEnum_5 rfl (lv_at hl 1 rfl) ?_
  obtain ⟨hi, hM⟩ := ib_some hM
  refine h_iald C h tb_28 hi dX11_lookAtEnum_6 ?_
  refine lv_aload_n C.1 C.2.1 dX11_lookAtEnum_7 rfl (lv_at hl 0 rfl) ?_
  refine gt_11_8 C h tx0 fl_X11_22 dX11_lookAtEnum_8 ?_
  obtain ⟨b_29, hb_29, hM⟩ := nb_some hM
  have tb_29 : Ty E G b_29 12 := (fun b hb => tyf h tx0 hb) _ hb_29
  refine st_ref hb_29 ?_
  refine lv_iload_n C.1 C.2.1 dX11_lookAtEnum_11 rfl (lv_at hl 1 rfl) ?_
  obtain ⟨hi, hM⟩ := ib_some hM
  refine h_iald C h tb_29 hi dX11_lookAtEnum_12 ?_
  obtain ⟨r_30, m_31, hc_30, hM⟩ := bd_some hM
  refine h_callVi C h (As := [.int (gI m b_28 x1.toNatClampNeg), .int (gI m b_29 x1.toNatClampNeg)]) (rest := []) r_30 m_31 (c_X11_enumOf hc_30 tx0) 11 rfl (by decide) tx0 im_yX11_enumOf se_yX11_enumOf cy_X11_enumOf rfl ml_X11_307 ⟨by decide, by decide⟩ ⟨Nat.zero_le _, Nat.zero_le _⟩ hl.1 rfl (Nat.le_of_ble_eq_true rfl) dX11_lookAtEnum_13 (fun H locs h => ?_)
  refine lv_iload_n C.1 C.2.1 dX11_lookAtEnum_16 rfl (lv_at hl 1 rfl) ?_
  refine lv_icmp_ge (tgt := 31) C.1 C.2.1 dX11_lookAtEnum_17 (by decide) (fun q => ?_) (fun q => ?_)
  · have hM := ite_t q hM
    exact cB_X11_lookAtEnum_31 C hM tx0 _ _ h ls (lv_sub hl [0, 1] rfl)
  · have hM := ite_f q hM
    refine lv_aload_n C.1 C.2.1 dX11_lookAtEnum_20 rfl (lv_at hl 0 rfl) ?_
    refine lv_iconst (v := 2) C.1 C.2.1 dX11_lookAtEnum_21 (by decide) ?_
    refine lv_aload_n C.1 C.2.1 dX11_lookAtEnum_22 rfl (lv_at hl 0 rfl) ?_
    refine gt_11_7 C h tx0 fl_X11_19 dX11_lookAtEnum_23 ?_
    obtain ⟨b_32, hb_32, hM⟩ := nb_some hM
    have tb_32 : Ty E G b_32 12 := (fun b hb => tyf h tx0 hb) _ hb_32
    refine st_ref hb_32 ?_
    refine lv_iload_n C.1 C.2.1 dX11_lookAtEnum_26 rfl (lv_at hl 1 rfl) ?_
    obtain ⟨hi, hM⟩ := ib_some hM
    refine h_iald C h tb_32 hi dX11_lookAtEnum_27 ?_
    obtain ⟨r_33, m_34, hc_33, hM⟩ := bd_some hM
    refine h_callVv C h (As := [.int 2, .int (gI m_31 b_32 x1.toNatClampNeg)]) (rest := []) m_34 (c_X11_wrong hc_33 tx0) 11 rfl (by decide) tx0 im_yX11_wrong se_yX11_wrong cy_X11_wrong rfl ml_X11_304 ⟨by decide, by decide⟩ ⟨Nat.zero_le _, Nat.zero_le _⟩ hl.1 rfl (Nat.le_of_ble_eq_true rfl) dX11_lookAtEnum_28 (fun H locs h => ?_)
    exact cB_X11_lookAtEnum_31 C hM tx0 _ _ h ls (lv_sub hl [0, 1] rfl)
theorem cy_X11_lookAtEnum : Cy yX11_lookAtEnum cX11_lookAtEnum 5 none 1 := ⟨cd_yX11_lookAtEnum, ii_X11, by decide, by decide, by decide +kernel⟩
set_option maxRecDepth 100000 in
theorem c_X11_lookAtEnum {l : Launch} {E : EE} {G : GG} {x0 : Nat} {x1 : Int32} {m m9 : MM} {r9 : Unit} (hM : M_X11_lookAtEnum G x0 x1 m = some (r9, m9)) (tx0 : Ty E G x0 11) : Mc l E yX11_lookAtEnum cX11_lookAtEnum 5 none rmX11_lookAtEnum [.ref x0, .int x1] G m (cQv E G m9) := M_of (by decide) (Nat.le_of_ble_eq_true rfl) (fun p e s mth below meth c C h ls hl => cM_X11_lookAtEnum C hM tx0 _ _ h ls hl)
abbrev rmX11_lookAtAct : Room := { frames := 2, cells := 0, slots := 0, locals := 50 }
def B_X11_lookAtAct_227 (G : GG) (x0 : Nat) (x1 : Int32) (x3 : Int32) (m : MM) : Option (Unit × MM) :=
  nb (gR m x0 34) fun b_1 =>
    ib x1 (G.2.2 b_1) <|
      if (gI m b_1 x1.toNatClampNeg) = 6 then
        if x3 = 2 then
          nb (gR m x0 37) fun b_2 =>
            ib x1 (G.2.2 b_2) <|
              bd (M_X11_wrong G x0 6 (gI m b_2 x1.toNatClampNeg) m) fun _ m_4 =>
                some ((), m_4)
        else
          some ((), m)
      else
        some ((), m)
set_option maxRecDepth 100000 in
set_option maxHeartbeats 4000000 in
theorem cB_X11_lookAtAct_227 {p : Program} {l : Launch} {e : Env} {s : State} {mth : MethodId} {args : Array Value} {below : List Frame} {meth : Method} {c : Code} {E : EE} {G : GG} {r9 : Unit} {m9 : MM} (C : Cx E G p s mth args meth c cX11_lookAtAct RX11 "lookAtAct" 6 none) {x0 : Nat} {x1 : Int32} {x3 : Int32} {m : MM} (hM : B_X11_lookAtAct_227 G x0 x1 x3 m = some (r9, m9)) (tx0 : Ty E G x0 11) : ∀ (H : Heap) (locs : List Loc), Hp E G m s H locs → ∀ ls : Array Slot, lv_has ls 6 [(0, .ref x0), (1, .int x1), (3, .int x3)] → W p l e rmX11_lookAtAct s mth args below meth c H locs 0 0 (MQ below (cQv E G m9) args s 0 0 (fun q => E.2.2.1 ≤ q)) (F0 mth 227 ls []) := by
  intro H locs h ls hl
  unfold B_X11_lookAtAct_227 at hM
  refine lv_aload_n C.1 C.2.1 dX11_lookAtAct_227 rfl (lv_at hl 0 rfl) ?_
  refine gt_11_34 C h tx0 fl_X11_100 dX11_lookAtAct_228 ?_
  obtain ⟨b_1, hb_1, hM⟩ := nb_some hM
  have tb_1 : Ty E G b_1 12 := (fun b hb => tyf h tx0 hb) _ hb_1
  refine st_ref hb_1 ?_
  refine lv_iload_n C.1 C.2.1 dX11_lookAtAct_231 rfl (lv_at hl 1 rfl) ?_
  obtain ⟨hi, hM⟩ := ib_some hM
  refine h_iald C h tb_1 hi dX11_lookAtAct_232 ?_
  refine lv_bipush (v := 6) C.1 C.2.1 dX11_lookAtAct_233 (by decide) ?_
  refine lv_icmp_ne (tgt := 255) C.1 C.2.1 dX11_lookAtAct_235 (by decide) (fun q => ?_) (fun q => ?_)
  · have hM := ite_f q hM
    obtain ⟨rfl, rfl⟩ := so_inj hM
    exact h_vret C h dX11_lookAtAct_255
  · have hM := ite_t q hM
    refine lv_iload_n C.1 C.2.1 dX11_lookAtAct_238 rfl (lv_at hl 2 rfl) ?_
    refine lv_iconst (v := 2) C.1 C.2.1 dX11_lookAtAct_239 (by decide) ?_
    refine lv_icmp_ne (tgt := 255) C.1 C.2.1 dX11_lookAtAct_240 (by decide) (fun q => ?_) (fun q => ?_)
    · have hM := ite_f q hM
      obtain ⟨rfl, rfl⟩ := so_inj hM
      exact h_vret C h dX11_lookAtAct_255
    · have hM := ite_t q hM
      refine lv_aload_n C.1 C.2.1 dX11_lookAtAct_243 rfl (lv_at hl 0 rfl) ?_
      refine lv_bipush (v := 6) C.1 C.2.1 dX11_lookAtAct_244 (by decide) ?_
      refine lv_aload_n C.1 C.2.1 dX11_lookAtAct_246 rfl (lv_at hl 0 rfl) ?_
      refine gt_11_37 C h tx0 fl_X11_109 dX11_lookAtAct_247 ?_
      obtain ⟨b_2, hb_2, hM⟩ := nb_some hM
      have tb_2 : Ty E G b_2 12 := (fun b hb => tyf h tx0 hb) _ hb_2
      refine st_ref hb_2 ?_
      refine lv_iload_n C.1 C.2.1 dX11_lookAtAct_250 rfl (lv_at hl 1 rfl) ?_
      obtain ⟨hi, hM⟩ := ib_some hM
      refine h_iald C h tb_2 hi dX11_lookAtAct_251 ?_
      obtain ⟨r_3, m_4, hc_3, hM⟩ := bd_some hM
      refine h_callVv C h (As := [.int 6, .int (gI m b_2 x1.toNatClampNeg)]) (rest := []) m_4 (c_X11_wrong hc_3 tx0) 11 rfl (by decide) tx0 im_yX11_wrong se_yX11_wrong cy_X11_wrong rfl ml_X11_304 ⟨by decide, by decide⟩ ⟨Nat.zero_le _, Nat.zero_le _⟩ hl.1 rfl (Nat.le_of_ble_eq_true rfl) dX11_lookAtAct_252 (fun H locs h => ?_)
      obtain ⟨rfl, rfl⟩ := so_inj hM
      exact h_vret C h dX11_lookAtAct_255
def B_X11_lookAtAct_213 (G : GG) (x0 : Nat) (x1 : Int32) (x3 : Int32) (m : MM) : Option (Unit × MM) :=
  nb (gR m x0 34) fun b_5 =>
    ib x1 (G.2.2 b_5) <|
      if (gI m b_5 x1.toNatClampNeg) = 5 then
        if 0 < x3 then
          nb (gR m x0 37) fun b_6 =>
            ib x1 (G.2.2 b_6) <|
              bd (M_X11_wrong G x0 6 (gI m b_6 x1.toNatClampNeg) m) fun _ m_8 =>
                some ((), m_8)
        else
          B_X11_lookAtAct_227 G x0 x1 x3 m
      else
        B_X11_lookAtAct_227 G x0 x1 x3 m
set_option maxRecDepth 100000 in
set_option maxHeartbeats 4000000 in
theorem cB_X11_lookAtAct_213 {p : Program} {l : Launch} {e : Env} {s : State} {mth : MethodId} {args : Array Value} {below : List Frame} {meth : Method} {c : Code} {E : EE} {G : GG} {r9 : Unit} {m9 : MM} (C : Cx E G p s mth args meth c cX11_lookAtAct RX11 "lookAtAct" 6 none) {x0 : Nat} {x1 : Int32} {x3 : Int32} {m : MM} (hM : B_X11_lookAtAct_213 G x0 x1 x3 m = some (r9, m9)) (tx0 : Ty E G x0 11) : ∀ (H : Heap) (locs : List Loc), Hp E G m s H locs → ∀ ls : Array Slot, lv_has ls 6 [(0, .ref x0), (1, .int x1), (3, .int x3)] → W p l e rmX11_lookAtAct s mth args below meth c H locs 0 0 (MQ below (cQv E G m9) args s 0 0 (fun q => E.2.2.1 ≤ q)) (F0 mth 213 ls []) := by
  intro H locs h ls hl
  unfold B_X11_lookAtAct_213 at hM
  refine lv_aload_n C.1 C.2.1 dX11_lookAtAct_213 rfl (lv_at hl 0 rfl) ?_
  refine gt_11_34 C h tx0 fl_X11_100 dX11_lookAtAct_214 ?_
  obtain ⟨b_5, hb_5, hM⟩ := nb_some hM
  have tb_5 : Ty E G b_5 12 := (fun b hb => tyf h tx0 hb) _ hb_5
  refine st_ref hb_5 ?_
  refine lv_iload_n C.1 C.2.1 dX11_lookAtAct_217 rfl (lv_at hl 1 rfl) ?_
  obtain ⟨hi, hM⟩ := ib_some hM
  refine h_iald C h tb_5 hi dX11_lookAtAct_218 ?_
  refine lv_iconst (v := 5) C.1 C.2.1 dX11_lookAtAct_219 (by decide) ?_
  refine lv_icmp_ne (tgt := 227) C.1 C.2.1 dX11_lookAtAct_220 (by decide) (fun q => ?_) (fun q => ?_)
  · have hM := ite_f q hM
    exact cB_X11_lookAtAct_227 C hM tx0 _ _ h ls (lv_sub hl [0, 1, 2] rfl)
  · have hM := ite_t q hM
    refine lv_iload_n C.1 C.2.1 dX11_lookAtAct_223 rfl (lv_at hl 2 rfl) ?_
    refine lv_if_gt (tgt := 243) C.1 C.2.1 dX11_lookAtAct_224 (by decide) (fun q => ?_) (fun q => ?_)
    · have hM := ite_t q hM
      refine lv_aload_n C.1 C.2.1 dX11_lookAtAct_243 rfl (lv_at hl 0 rfl) ?_
      refine lv_bipush (v := 6) C.1 C.2.1 dX11_lookAtAct_244 (by decide) ?_
      refine lv_aload_n C.1 C.2.1 dX11_lookAtAct_246 rfl (lv_at hl 0 rfl) ?_
      refine gt_11_37 C h tx0 fl_X11_109 dX11_lookAtAct_247 ?_
      obtain ⟨b_6, hb_6, hM⟩ := nb_some hM
      have tb_6 : Ty E G b_6 12 := (fun b hb => tyf h tx0 hb) _ hb_6
      refine st_ref hb_6 ?_
      refine lv_iload_n C.1 C.2.1 dX11_lookAtAct_250 rfl (lv_at hl 1 rfl) ?_
      obtain ⟨hi, hM⟩ := ib_some hM
      refine h_iald C h tb_6 hi dX11_lookAtAct_251 ?_
      obtain ⟨r_7, m_8, hc_7, hM⟩ := bd_some hM
      refine h_callVv C h (As := [.int 6, .int (gI m b_6 x1.toNatClampNeg)]) (rest := []) m_8 (c_X11_wrong hc_7 tx0) 11 rfl (by decide) tx0 im_yX11_wrong se_yX11_wrong cy_X11_wrong rfl ml_X11_304 ⟨by decide, by decide⟩ ⟨Nat.zero_le _, Nat.zero_le _⟩ hl.1 rfl (Nat.le_of_ble_eq_true rfl) dX11_lookAtAct_252 (fun H locs h => ?_)
      obtain ⟨rfl, rfl⟩ := so_inj hM
      exact h_vret C h dX11_lookAtAct_255
    · have hM := ite_f q hM
      exact cB_X11_lookAtAct_227 C hM tx0 _ _ h ls (lv_sub hl [0, 1, 2] rfl)
def B_X11_lookAtAct_179 (G : GG) (x0 : Nat) (x1 : Int32) (x4 : Int32) (x5 : Int32) (m : MM) : Option (Unit × MM) :=
  nb (gR m x0 35) fun b_9 =>
    ib x1 (G.2.2 b_9) <|
      nb (gR (sI m b_9 x1.toNatClampNeg x4) x0 36) fun b_10 =>
        ib x1 (G.2.2 b_10) <|
          some ((), sI (sI m b_9 x1.toNatClampNeg x4) b_10 x1.toNatClampNeg x5)
set_option maxRecDepth 100000 in
set_option maxHeartbeats 4000000 in
theorem cB_X11_lookAtAct_179 {p : Program} {l : Launch} {e : Env} {s : State} {mth : MethodId} {args : Array Value} {below : List Frame} {meth : Method} {c : Code} {E : EE} {G : GG} {r9 : Unit} {m9 : MM} (C : Cx E G p s mth args meth c cX11_lookAtAct RX11 "lookAtAct" 6 none) {x0 : Nat} {x1 : Int32} {x4 : Int32} {x5 : Int32} {m : MM} (hM : B_X11_lookAtAct_179 G x0 x1 x4 x5 m = some (r9, m9)) (tx0 : Ty E G x0 11) : ∀ (H : Heap) (locs : List Loc), Hp E G m s H locs → ∀ ls : Array Slot, lv_has ls 6 [(0, .ref x0), (1, .int x1), (4, .int x4), (5, .int x5)] → W p l e rmX11_lookAtAct s mth args below meth c H locs 0 0 (MQ below (cQv E G m9) args s 0 0 (fun q => E.2.2.1 ≤ q)) (F0 mth 179 ls []) := by
  intro H locs h ls hl
  unfold B_X11_lookAtAct_179 at hM
  refine lv_aload_n C.1 C.2.1 dX11_lookAtAct_179 rfl (lv_at hl 0 rfl) ?_
  refine gt_11_35 C h tx0 fl_X11_103 dX11_lookAtAct_180 ?_
  obtain ⟨b_9, hb_9, hM⟩ := nb_some hM
  have tb_9 : Ty E G b_9 12 := (fun b hb => tyf h tx0 hb) _ hb_9
  refine st_ref hb_9 ?_
  refine lv_iload_n C.1 C.2.1 dX11_lookAtAct_183 rfl (lv_at hl 1 rfl) ?_
  refine lv_iload C.1 C.2.1 dX11_lookAtAct_184 (lv_at hl 2 rfl) ?_
  obtain ⟨hi, hM⟩ := ib_some hM
  refine h_iast C h tb_9 hi dX11_lookAtAct_186 (fun H locs h => ?_)
  refine lv_aload_n C.1 C.2.1 dX11_lookAtAct_187 rfl (lv_at hl 0 rfl) ?_
  refine gt_11_36 C h tx0 fl_X11_106 dX11_lookAtAct_188 ?_
  obtain ⟨b_10, hb_10, hM⟩ := nb_some hM
  have tb_10 : Ty E G b_10 12 := (fun b hb => tyf h tx0 hb) _ hb_10
  refine st_ref hb_10 ?_
  refine lv_iload_n C.1 C.2.1 dX11_lookAtAct_191 rfl (lv_at hl 1 rfl) ?_
  refine lv_iload C.1 C.2.1 dX11_lookAtAct_192 (lv_at hl 3 rfl) ?_
  obtain ⟨hi, hM⟩ := ib_some hM
  refine h_iast C h tb_10 hi dX11_lookAtAct_194 (fun H locs h => ?_)
  refine lv_goto (tgt := 255) C.1 C.2.1 dX11_lookAtAct_195 (by decide) ?_
  obtain ⟨rfl, rfl⟩ := so_inj hM
  exact h_vret C h dX11_lookAtAct_255
def B_X11_lookAtAct_160 (G : GG) (x0 : Nat) (x1 : Int32) (x4 : Int32) (s0 : Int32) (m : MM) : Option (Unit × MM) :=
  if 0 ≤ s0 then
    B_X11_lookAtAct_179 G x0 x1 x4 s0 m
  else
    nb (gR m x0 37) fun b_11 =>
      ib x1 (G.2.2 b_11) <|
        bd (M_X11_wrong G x0 6 (gI m b_11 x1.toNatClampNeg) m) fun _ m_13 =>
          B_X11_lookAtAct_179 G x0 x1 x4 s0 m_13
set_option maxRecDepth 100000 in
set_option maxHeartbeats 4000000 in
theorem cB_X11_lookAtAct_160 {p : Program} {l : Launch} {e : Env} {s : State} {mth : MethodId} {args : Array Value} {below : List Frame} {meth : Method} {c : Code} {E : EE} {G : GG} {r9 : Unit} {m9 : MM} (C : Cx E G p s mth args meth c cX11_lookAtAct RX11 "lookAtAct" 6 none) {x0 : Nat} {x1 : Int32} {x4 : Int32} {s0 : Int32} {m : MM} (hM : B_X11_lookAtAct_160 G x0 x1 x4 s0 m = some (r9, m9)) (tx0 : Ty E G x0 11) : ∀ (H : Heap) (locs : List Loc), Hp E G m s H locs → ∀ ls : Array Slot, lv_has ls 6 [(0, .ref x0), (1, .int x1), (4, .int x4)] → W p l e rmX11_lookAtAct s mth args below meth c H locs 0 0 (MQ below (cQv E G m9) args s 0 0 (fun q => E.2.2.1 ≤ q)) (F0 mth 160 ls [.int s0]) := by
  intro H locs h ls hl
  unfold B_X11_lookAtAct_160 at hM
  refine lv_istore (lv' := [(5, .int s0), (0, .ref x0), (1, .int x1), (4, .int x4)]) C.1 C.2.1 dX11_lookAtAct_160 hl (by decide) rfl (fun ls hl => ?_)
  refine lv_iload C.1 C.2.1 dX11_lookAtAct_162 (lv_at hl 0 rfl) ?_
  refine lv_if_ge (tgt := 179) C.1 C.2.1 dX11_lookAtAct_164 (by decide) (fun q => ?_) (fun q => ?_)
  · have hM := ite_t q hM
    exact cB_X11_lookAtAct_179 C hM tx0 _ _ h ls (lv_sub hl [1, 2, 3, 0] rfl)
  · have hM := ite_f q hM
    refine lv_aload_n C.1 C.2.1 dX11_lookAtAct_167 rfl (lv_at hl 1 rfl) ?_
    refine lv_bipush (v := 6) C.1 C.2.1 dX11_lookAtAct_168 (by decide) ?_
    refine lv_aload_n C.1 C.2.1 dX11_lookAtAct_170 rfl (lv_at hl 1 rfl) ?_
    refine gt_11_37 C h tx0 fl_X11_109 dX11_lookAtAct_171 ?_
    obtain ⟨b_11, hb_11, hM⟩ := nb_some hM
    have tb_11 : Ty E G b_11 12 := (fun b hb => tyf h tx0 hb) _ hb_11
    refine st_ref hb_11 ?_
    refine lv_iload_n C.1 C.2.1 dX11_lookAtAct_174 rfl (lv_at hl 2 rfl) ?_
    obtain ⟨hi, hM⟩ := ib_some hM
    refine h_iald C h tb_11 hi dX11_lookAtAct_175 ?_
    obtain ⟨r_12, m_13, hc_12, hM⟩ := bd_some hM
    refine h_callVv C h (As := [.int 6, .int (gI m b_11 x1.toNatClampNeg)]) (rest := []) m_13 (c_X11_wrong hc_12 tx0) 11 rfl (by decide) tx0 im_yX11_wrong se_yX11_wrong cy_X11_wrong rfl ml_X11_304 ⟨by decide, by decide⟩ ⟨Nat.zero_le _, Nat.zero_le _⟩ hl.1 rfl (Nat.le_of_ble_eq_true rfl) dX11_lookAtAct_176 (fun H locs h => ?_)
    exact cB_X11_lookAtAct_179 C hM tx0 _ _ h ls (lv_sub hl [1, 2, 3, 0] rfl)
def M_X11_lookAtAct (G : GG) (x0 : Nat) (x1 : Int32) (m : MM) : Option (Unit × MM) :=
  nb (gR m x0 51) fun b_14 =>
    ib x1 (G.2.2 b_14) <|
      nb (gR m x0 50) fun b_15 =>
        ib x1 (G.2.2 b_15) <|
          nb (gR m x0 34) fun b_16 =>
            ib x1 (G.2.2 b_16) <|
              if (gI m b_16 x1.toNatClampNeg) = 2 then
                nb (gR m x0 37) fun b_28 =>
                  ib x1 (G.2.2 b_28) <|
                    nb (gR m x0 38) fun b_29 =>
                      ib x1 (G.2.2 b_29) <|
                        bd (M_X11_fieldOf G x0 (gI m b_14 x1.toNatClampNeg) (gI m b_28 x1.toNatClampNeg) (gI m b_29 x1.toNatClampNeg) m) fun r_30 m_31 =>
                          if 0 ≤ r_30 then
                            if (gI m b_15 x1.toNatClampNeg) = 1 then
                              nb (gR m_31 x0 25) fun b_33 =>
                                ib ((6 * (gI m b_14 x1.toNatClampNeg)) + r_30) (G.2.2 b_33) <|
                                  if (gI m_31 b_33 (((6 * (gI m b_14 x1.toNatClampNeg)) + r_30).toNatClampNeg)) < 0 then
                                    nb (gR m_31 x0 35) fun b_34 =>
                                      ib x1 (G.2.2 b_34) <|
                                        some ((), sI m_31 b_34 x1.toNatClampNeg r_30)
                                  else
                                    nb (gR m_31 x0 37) fun b_35 =>
                                      ib x1 (G.2.2 b_35) <|
                                        bd (M_X11_wrong G x0 5 (gI m_31 b_35 x1.toNatClampNeg) m_31) fun _ m_37 =>
                                          nb (gR m_37 x0 35) fun b_38 =>
                                            ib x1 (G.2.2 b_38) <|
                                              some ((), sI m_37 b_38 x1.toNatClampNeg r_30)
                            else
                              nb (gR m_31 x0 35) fun b_32 =>
                                ib x1 (G.2.2 b_32) <|
                                  some ((), sI m_31 b_32 x1.toNatClampNeg r_30)
                          else
                            nb (gR m_31 x0 37) fun b_39 =>
                              ib x1 (G.2.2 b_39) <|
                                bd (M_X11_wrong G x0 6 (gI m_31 b_39 x1.toNatClampNeg) m_31) fun _ m_41 =>
                                  nb (gR m_41 x0 35) fun b_42 =>
                                    ib x1 (G.2.2 b_42) <|
                                      some ((), sI m_41 b_42 x1.toNatClampNeg r_30)
              else
                ib x1 (G.2.2 b_16) <|
                  if (gI m b_16 x1.toNatClampNeg) = 3 then
                    nb (gR m x0 37) fun b_20 =>
                      ib x1 (G.2.2 b_20) <|
                        nb (gR m x0 38) fun b_21 =>
                          ib x1 (G.2.2 b_21) <|
                            bd (M_X11_enumOf G x0 (gI m b_20 x1.toNatClampNeg) (gI m b_21 x1.toNatClampNeg) m) fun r_22 m_23 =>
                              if 0 ≤ r_22 then
                                nb (gR m_23 x0 39) fun b_24 =>
                                  ib x1 (G.2.2 b_24) <|
                                    nb (gR m_23 x0 40) fun b_25 =>
                                      ib x1 (G.2.2 b_25) <|
                                        bd (M_X11_constOf G x0 r_22 (gI m_23 b_24 x1.toNatClampNeg) (gI m_23 b_25 x1.toNatClampNeg) m_23) fun r_26 m_27 =>
                                          B_X11_lookAtAct_160 G x0 x1 r_22 r_26 m_27
                              else
                                B_X11_lookAtAct_160 G x0 x1 r_22 (-1) m_23
                  else
                    ib x1 (G.2.2 b_16) <|
                      if (gI m b_16 x1.toNatClampNeg) = 4 then
                        if (gI m b_15 x1.toNatClampNeg) = 1 then
                          B_X11_lookAtAct_213 G x0 x1 (gI m b_15 x1.toNatClampNeg) m
                        else
                          nb (gR m x0 37) fun b_17 =>
                            ib x1 (G.2.2 b_17) <|
                              bd (M_X11_wrong G x0 6 (gI m b_17 x1.toNatClampNeg) m) fun _ m_19 =>
                                some ((), m_19)
                      else
                        B_X11_lookAtAct_213 G x0 x1 (gI m b_15 x1.toNatClampNeg) m
set_option maxRecDepth 100000 in
set_option maxHeartbeats 4000000 in
theorem cM_X11_lookAtAct {p : Program} {l : Launch} {e : Env} {s : State} {mth : MethodId} {args : Array Value} {below : List Frame} {meth : Method} {c : Code} {E : EE} {G : GG} {r9 : Unit} {m9 : MM} (C : Cx E G p s mth args meth c cX11_lookAtAct RX11 "lookAtAct" 6 none) {x0 : Nat} {x1 : Int32} {m : MM} (hM : M_X11_lookAtAct G x0 x1 m = some (r9, m9)) (tx0 : Ty E G x0 11) : ∀ (H : Heap) (locs : List Loc), Hp E G m s H locs → ∀ ls : Array Slot, lv_has ls 6 [(0, .ref x0), (1, .int x1)] → W p l e rmX11_lookAtAct s mth args below meth c H locs 0 0 (MQ below (cQv E G m9) args s 0 0 (fun q => E.2.2.1 ≤ q)) (F0 mth 0 ls []) := by
  intro H locs h ls hl
  unfold M_X11_lookAtAct at hM
  refine lv_aload_n C.1 C.2.1 dX11_lookAtAct_0 rfl (lv_at hl 0 rfl) ?_
  refine gt_11_51 C h tx0 fl_X11_127 dX11_lookAtAct_1 ?_
  obtain ⟨b_14, hb_14, hM⟩ := nb_some hM
  have tb_14 : Ty E G b_14 12 := (fun b hb => tyf h tx0 hb) _ hb_14
  refine st_ref hb_14 ?_
  refine lv_iload_n C.1 C.2.1 dX11_lookAtAct_4 rfl (lv_at hl 1 rfl) ?_
  obtain ⟨hi, hM⟩ := ib_some hM
  refine h_iald C h tb_14 hi dX11_lookAtAct_5 ?_
  refine lv_istore_n (lv' := [(2, .int (gI m b_14 x1.toNatClampNeg)), (0, .ref x0), (1, .int x1)]) C.1 C.2.1 dX11_lookAtAct_6 rfl hl (by decide) rfl (fun ls hl => ?_)
  refine lv_aload_n C.1 C.2.1 dX11_lookAtAct_7 rfl (lv_at hl 1 rfl) ?_
  refine gt_11_50 C h tx0 fl_X11_124 dX11_lookAtAct_8 ?_
  obtain ⟨b_15, hb_15, hM⟩ := nb_some hM
  have tb_15 : Ty E G b_15 12 := (fun b hb => tyf h tx0 hb) _ hb_15
  refine st_ref hb_15 ?_
  refine lv_iload_n C.1 C.2.1 dX11_lookAtAct_11 rfl (lv_at hl 2 rfl) ?_
  obtain ⟨hi, hM⟩ := ib_some hM
  refine h_iald C h tb_15 hi dX11_lookAtAct_12 ?_
  refine lv_istore_n (lv' := [(3, .int (gI m b_15 x1.toNatClampNeg)), (2, .int (gI m b_14 x1.toNatClampNeg)), (0, .ref x0), (1, .int x1)]) C.1 C.2.1 dX11_lookAtAct_13 rfl hl (by decide) rfl (fun ls hl => ?_)
  refine lv_aload_n C.1 C.2.1 dX11_lookAtAct_14 rfl (lv_at hl 2 rfl) ?_
  refine gt_11_34 C h tx0 fl_X11_100 dX11_lookAtAct_15 ?_
  obtain ⟨b_16, hb_16, hM⟩ := nb_some hM
  have tb_16 : Ty E G b_16 12 := (fun b hb => tyf h tx0 hb) _ hb_16
  refine st_ref hb_16 ?_
  refine lv_iload_n C.1 C.2.1 dX11_lookAtAct_18 rfl (lv_at hl 3 rfl) ?_
  obtain ⟨hi, hM⟩ := ib_some hM
  refine h_iald C h tb_16 hi dX11_lookAtAct_19 ?_
  refine lv_iconst (v := 2) C.1 C.2.1 dX11_lookAtAct_20 (by decide) ?_
  refine lv_icmp_ne (tgt := 105) C.1 C.2.1 dX11_lookAtAct_21 (by decide) (fun q => ?_) (fun q => ?_)
  · have hM := ite_f q hM
    refine lv_aload_n C.1 C.2.1 dX11_lookAtAct_105 rfl (lv_at hl 2 rfl) ?_
    refine gt_11_34 C h tx0 fl_X11_100 dX11_lookAtAct_106 ?_
    refine st_ref hb_16 ?_
    refine lv_iload_n C.1 C.2.1 dX11_lookAtAct_109 rfl (lv_at hl 3 rfl) ?_
    obtain ⟨hi, hM⟩ := ib_some hM
    refine h_iald C h tb_16 hi dX11_lookAtAct_110 ?_
    refine lv_iconst (v := 3) C.1 C.2.1 dX11_lookAtAct_111 (by decide) ?_
    refine lv_icmp_ne (tgt := 198) C.1 C.2.1 dX11_lookAtAct_112 (by decide) (fun q => ?_) (fun q => ?_)
    · have hM := ite_f q hM
      refine lv_aload_n C.1 C.2.1 dX11_lookAtAct_198 rfl (lv_at hl 2 rfl) ?_
      refine gt_11_34 C h tx0 fl_X11_100 dX11_lookAtAct_199 ?_
      refine st_ref hb_16 ?_
      refine lv_iload_n C.1 C.2.1 dX11_lookAtAct_202 rfl (lv_at hl 3 rfl) ?_
      obtain ⟨hi, hM⟩ := ib_some hM
      refine h_iald C h tb_16 hi dX11_lookAtAct_203 ?_
      refine lv_iconst (v := 4) C.1 C.2.1 dX11_lookAtAct_204 (by decide) ?_
      refine lv_icmp_ne (tgt := 213) C.1 C.2.1 dX11_lookAtAct_205 (by decide) (fun q => ?_) (fun q => ?_)
      · have hM := ite_f q hM
        exact cB_X11_lookAtAct_213 C hM tx0 _ _ h ls (lv_sub hl [2, 3, 0] rfl)
      · have hM := ite_t q hM
        refine lv_iload_n C.1 C.2.1 dX11_lookAtAct_208 rfl (lv_at hl 0 rfl) ?_
        refine lv_iconst (v := 1) C.1 C.2.1 dX11_lookAtAct_209 (by decide) ?_
        refine lv_icmp_ne (tgt := 243) C.1 C.2.1 dX11_lookAtAct_210 (by decide) (fun q => ?_) (fun q => ?_)
        · have hM := ite_f q hM
          refine lv_aload_n C.1 C.2.1 dX11_lookAtAct_243 rfl (lv_at hl 2 rfl) ?_
          refine lv_bipush (v := 6) C.1 C.2.1 dX11_lookAtAct_244 (by decide) ?_
          refine lv_aload_n C.1 C.2.1 dX11_lookAtAct_246 rfl (lv_at hl 2 rfl) ?_
          refine gt_11_37 C h tx0 fl_X11_109 dX11_lookAtAct_247 ?_
          obtain ⟨b_17, hb_17, hM⟩ := nb_some hM
          have tb_17 : Ty E G b_17 12 := (fun b hb => tyf h tx0 hb) _ hb_17
          refine st_ref hb_17 ?_
          refine lv_iload_n C.1 C.2.1 dX11_lookAtAct_250 rfl (lv_at hl 3 rfl) ?_
          obtain ⟨hi, hM⟩ := ib_some hM
          refine h_iald C h tb_17 hi dX11_lookAtAct_251 ?_
          obtain ⟨r_18, m_19, hc_18, hM⟩ := bd_some hM
          refine h_callVv C h (As := [.int 6, .int (gI m b_17 x1.toNatClampNeg)]) (rest := []) m_19 (c_X11_wrong hc_18 tx0) 11 rfl (by decide) tx0 im_yX11_wrong se_yX11_wrong cy_X11_wrong rfl ml_X11_304 ⟨by decide, by decide⟩ ⟨Nat.zero_le _, Nat.zero_le _⟩ hl.1 rfl (Nat.le_of_ble_eq_true rfl) dX11_lookAtAct_252 (fun H locs h => ?_)
          obtain ⟨rfl, rfl⟩ := so_inj hM
          exact h_vret C h dX11_lookAtAct_255
        · have hM := ite_t q hM
          exact cB_X11_lookAtAct_213 C hM tx0 _ _ h ls (lv_sub hl [2, 3, 0] rfl)
    · have hM := ite_t q hM
      refine lv_aload_n C.1 C.2.1 dX11_lookAtAct_115 rfl (lv_at hl 2 rfl) ?_
      refine lv_aload_n C.1 C.2.1 dX11_lookAtAct_116 rfl (lv_at hl 2 rfl) ?_
      refine gt_11_37 C h tx0 fl_X11_109 dX11_lookAtAct_117 ?_
      obtain ⟨b_20, hb_20, hM⟩ := nb_some hM
      have tb_20 : Ty E G b_20 12 := (fun b hb => tyf h tx0 hb) _ hb_20
      refine st_ref hb_20 ?_
      refine lv_iload_n C.1 C.2.1 dX11_lookAtAct_120 rfl (lv_at hl 3 rfl) ?_
      obtain ⟨hi, hM⟩ := ib_some hM
      refine h_iald C h tb_20 hi dX11_lookAtAct_121 ?_
      refine lv_aload_n C.1 C.2.1 dX11_lookAtAct_122 rfl (lv_at hl 2 rfl) ?_
      refine gt_11_38 C h tx0 fl_X11_112 dX11_lookAtAct_123 ?_
      obtain ⟨b_21, hb_21, hM⟩ := nb_some hM
      have tb_21 : Ty E G b_21 12 := (fun b hb => tyf h tx0 hb) _ hb_21
      refine st_ref hb_21 ?_
      refine lv_iload_n C.1 C.2.1 dX11_lookAtAct_126 rfl (lv_at hl 3 rfl) ?_
      obtain ⟨hi, hM⟩ := ib_some hM
      refine h_iald C h tb_21 hi dX11_lookAtAct_127 ?_
      obtain ⟨r_22, m_23, hc_22, hM⟩ := bd_some hM
      refine h_callVi C h (As := [.int (gI m b_20 x1.toNatClampNeg), .int (gI m b_21 x1.toNatClampNeg)]) (rest := []) r_22 m_23 (c_X11_enumOf hc_22 tx0) 11 rfl (by decide) tx0 im_yX11_enumOf se_yX11_enumOf cy_X11_enumOf rfl ml_X11_307 ⟨by decide, by decide⟩ ⟨Nat.zero_le _, Nat.zero_le _⟩ hl.1 rfl (Nat.le_of_ble_eq_true rfl) dX11_lookAtAct_128 (fun H locs h => ?_)
      refine lv_istore (lv' := [(4, .int r_22), (3, .int (gI m b_15 x1.toNatClampNeg)), (2, .int (gI m b_14 x1.toNatClampNeg)), (0, .ref x0), (1, .int x1)]) C.1 C.2.1 dX11_lookAtAct_131 hl (by decide) rfl (fun ls hl => ?_)
      refine lv_iload C.1 C.2.1 dX11_lookAtAct_133 (lv_at hl 0 rfl) ?_
      refine lv_if_ge (tgt := 142) C.1 C.2.1 dX11_lookAtAct_135 (by decide) (fun q => ?_) (fun q => ?_)
      · have hM := ite_t q hM
        refine lv_aload_n C.1 C.2.1 dX11_lookAtAct_142 rfl (lv_at hl 3 rfl) ?_
        refine lv_iload C.1 C.2.1 dX11_lookAtAct_143 (lv_at hl 0 rfl) ?_
        refine lv_aload_n C.1 C.2.1 dX11_lookAtAct_145 rfl (lv_at hl 3 rfl) ?_
        refine gt_11_39 C h tx0 fl_X11_115 dX11_lookAtAct_146 ?_
        obtain ⟨b_24, hb_24, hM⟩ := nb_some hM
        have tb_24 : Ty E G b_24 12 := (fun b hb => tyf h tx0 hb) _ hb_24
        refine st_ref hb_24 ?_
        refine lv_iload_n C.1 C.2.1 dX11_lookAtAct_149 rfl (lv_at hl 4 rfl) ?_
        obtain ⟨hi, hM⟩ := ib_some hM
        refine h_iald C h tb_24 hi dX11_lookAtAct_150 ?_
        refine lv_aload_n C.1 C.2.1 dX11_lookAtAct_151 rfl (lv_at hl 3 rfl) ?_
        refine gt_11_40 C h tx0 fl_X11_118 dX11_lookAtAct_152 ?_
        obtain ⟨b_25, hb_25, hM⟩ := nb_some hM
        have tb_25 : Ty E G b_25 12 := (fun b hb => tyf h tx0 hb) _ hb_25
        refine st_ref hb_25 ?_
        refine lv_iload_n C.1 C.2.1 dX11_lookAtAct_155 rfl (lv_at hl 4 rfl) ?_
        obtain ⟨hi, hM⟩ := ib_some hM
        refine h_iald C h tb_25 hi dX11_lookAtAct_156 ?_
        obtain ⟨r_26, m_27, hc_26, hM⟩ := bd_some hM
        refine h_callVi C h (As := [.int r_22, .int (gI m_23 b_24 x1.toNatClampNeg), .int (gI m_23 b_25 x1.toNatClampNeg)]) (rest := []) r_26 m_27 (c_X11_constOf hc_26 tx0) 11 rfl (by decide) tx0 im_yX11_constOf se_yX11_constOf cy_X11_constOf rfl ml_X11_322 ⟨by decide, by decide⟩ ⟨Nat.zero_le _, Nat.zero_le _⟩ hl.1 rfl (Nat.le_of_ble_eq_true rfl) dX11_lookAtAct_157 (fun H locs h => ?_)
        exact cB_X11_lookAtAct_160 C hM tx0 _ _ h ls (lv_sub hl [3, 4, 0] rfl)
      · have hM := ite_f q hM
        refine lv_iconst (v := (-1)) C.1 C.2.1 dX11_lookAtAct_138 (by decide) ?_
        refine lv_goto (tgt := 160) C.1 C.2.1 dX11_lookAtAct_139 (by decide) ?_
        exact cB_X11_lookAtAct_160 C hM tx0 _ _ h ls (lv_sub hl [3, 4, 0] rfl)
  · have hM := ite_t q hM
    refine lv_aload_n C.1 C.2.1 dX11_lookAtAct_24 rfl (lv_at hl 2 rfl) ?_
    refine lv_iload_n C.1 C.2.1 dX11_lookAtAct_25 rfl (lv_at hl 1 rfl) ?_
    refine lv_aload_n C.1 C.2.1 dX11_lookAtAct_26 rfl (lv_at hl 2 rfl) ?_
    refine gt_11_37 C h tx0 fl_X11_109 dX11_lookAtAct_27 ?_
    obtain ⟨b_28, hb_28, hM⟩ := nb_some hM
    have tb_28 : Ty E G b_28 12 := (fun b hb => tyf h tx0 hb) _ hb_28
    refine st_ref hb_28 ?_
    refine lv_iload_n C.1 C.2.1 dX11_lookAtAct_30 rfl (lv_at hl 3 rfl) ?_
    obtain ⟨hi, hM⟩ := ib_some hM
    refine h_iald C h tb_28 hi dX11_lookAtAct_31 ?_
    refine lv_aload_n C.1 C.2.1 dX11_lookAtAct_32 rfl (lv_at hl 2 rfl) ?_
    refine gt_11_38 C h tx0 fl_X11_112 dX11_lookAtAct_33 ?_
    obtain ⟨b_29, hb_29, hM⟩ := nb_some hM
    have tb_29 : Ty E G b_29 12 := (fun b hb => tyf h tx0 hb) _ hb_29
    refine st_ref hb_29 ?_
    refine lv_iload_n C.1 C.2.1 dX11_lookAtAct_36 rfl (lv_at hl 3 rfl) ?_
    obtain ⟨hi, hM⟩ := ib_some hM
    refine h_iald C h tb_29 hi dX11_lookAtAct_37 ?_
    obtain ⟨r_30, m_31, hc_30, hM⟩ := bd_some hM
    refine h_callVi C h (As := [.int (gI m b_14 x1.toNatClampNeg), .int (gI m b_28 x1.toNatClampNeg), .int (gI m b_29 x1.toNatClampNeg)]) (rest := []) r_30 m_31 (c_X11_fieldOf hc_30 tx0) 11 rfl (by decide) tx0 im_yX11_fieldOf se_yX11_fieldOf cy_X11_fieldOf rfl ml_X11_319 ⟨by decide, by decide⟩ ⟨Nat.zero_le _, Nat.zero_le _⟩ hl.1 rfl (Nat.le_of_ble_eq_true rfl) dX11_lookAtAct_38 (fun H locs h => ?_)
    refine lv_istore (lv' := [(4, .int r_30), (3, .int (gI m b_15 x1.toNatClampNeg)), (2, .int (gI m b_14 x1.toNatClampNeg)), (0, .ref x0), (1, .int x1)]) C.1 C.2.1 dX11_lookAtAct_41 hl (by decide) rfl (fun ls hl => ?_)
    refine lv_iload C.1 C.2.1 dX11_lookAtAct_43 (lv_at hl 0 rfl) ?_
    refine lv_if_ge (tgt := 63) C.1 C.2.1 dX11_lookAtAct_45 (by decide) (fun q => ?_) (fun q => ?_)
    · have hM := ite_t q hM
      refine lv_iload_n C.1 C.2.1 dX11_lookAtAct_63 rfl (lv_at hl 1 rfl) ?_
      refine lv_iconst (v := 1) C.1 C.2.1 dX11_lookAtAct_64 (by decide) ?_
      refine lv_icmp_ne (tgt := 94) C.1 C.2.1 dX11_lookAtAct_65 (by decide) (fun q => ?_) (fun q => ?_)
      · have hM := ite_f q hM
        refine lv_aload_n C.1 C.2.1 dX11_lookAtAct_94 rfl (lv_at hl 3 rfl) ?_
        refine gt_11_35 C h tx0 fl_X11_103 dX11_lookAtAct_95 ?_
        obtain ⟨b_32, hb_32, hM⟩ := nb_some hM
        have tb_32 : Ty E G b_32 12 := (fun b hb => tyf h tx0 hb) _ hb_32
        refine st_ref hb_32 ?_
        refine lv_iload_n C.1 C.2.1 dX11_lookAtAct_98 rfl (lv_at hl 4 rfl) ?_
        refine lv_iload C.1 C.2.1 dX11_lookAtAct_99 (lv_at hl 0 rfl) ?_
        obtain ⟨hi, hM⟩ := ib_some hM
        refine h_iast C h tb_32 hi dX11_lookAtAct_101 (fun H locs h => ?_)
        refine lv_goto (tgt := 255) C.1 C.2.1 dX11_lookAtAct_102 (by decide) ?_
        obtain ⟨rfl, rfl⟩ := so_inj hM
        exact h_vret C h dX11_lookAtAct_255
      · have hM := ite_t q hM
        refine lv_aload_n C.1 C.2.1 dX11_lookAtAct_68 rfl (lv_at hl 3 rfl) ?_
        refine gt_11_25 C h tx0 fl_X11_73 dX11_lookAtAct_69 ?_
        obtain ⟨b_33, hb_33, hM⟩ := nb_some hM
        have tb_33 : Ty E G b_33 12 := (fun b hb => tyf h tx0 hb) _ hb_33
        refine st_ref hb_33 ?_
        refine lv_bipush (v := 6) C.1 C.2.1 dX11_lookAtAct_72 (by decide) ?_
        refine lv_iload_n C.1 C.2.1 dX11_lookAtAct_74 rfl (lv_at hl 2 rfl) ?_
        refine lv_imul C.1 C.2.1 dX11_lookAtAct_75 ?_
        refine lv_iload C.1 C.2.1 dX11_lookAtAct_76 (lv_at hl 0 rfl) ?_
        refine lv_iadd C.1 C.2.1 dX11_lookAtAct_78 ?_
        obtain ⟨hi, hM⟩ := ib_some hM
        refine h_iald C h tb_33 hi dX11_lookAtAct_79 ?_
        refine lv_if_lt (tgt := 94) C.1 C.2.1 dX11_lookAtAct_80 (by decide) (fun q => ?_) (fun q => ?_)
        · have hM := ite_t q hM
          refine lv_aload_n C.1 C.2.1 dX11_lookAtAct_94 rfl (lv_at hl 3 rfl) ?_
          refine gt_11_35 C h tx0 fl_X11_103 dX11_lookAtAct_95 ?_
          obtain ⟨b_34, hb_34, hM⟩ := nb_some hM
          have tb_34 : Ty E G b_34 12 := (fun b hb => tyf h tx0 hb) _ hb_34
          refine st_ref hb_34 ?_
          refine lv_iload_n C.1 C.2.1 dX11_lookAtAct_98 rfl (lv_at hl 4 rfl) ?_
          refine lv_iload C.1 C.2.1 dX11_lookAtAct_99 (lv_at hl 0 rfl) ?_
          obtain ⟨hi, hM⟩ := ib_some hM
          refine h_iast C h tb_34 hi dX11_lookAtAct_101 (fun H locs h => ?_)
          refine lv_goto (tgt := 255) C.1 C.2.1 dX11_lookAtAct_102 (by decide) ?_
          obtain ⟨rfl, rfl⟩ := so_inj hM
          exact h_vret C h dX11_lookAtAct_255
        · have hM := ite_f q hM
          refine lv_aload_n C.1 C.2.1 dX11_lookAtAct_83 rfl (lv_at hl 3 rfl) ?_
          refine lv_iconst (v := 5) C.1 C.2.1 dX11_lookAtAct_84 (by decide) ?_
          refine lv_aload_n C.1 C.2.1 dX11_lookAtAct_85 rfl (lv_at hl 3 rfl) ?_
          refine gt_11_37 C h tx0 fl_X11_109 dX11_lookAtAct_86 ?_
          obtain ⟨b_35, hb_35, hM⟩ := nb_some hM
          have tb_35 : Ty E G b_35 12 := (fun b hb => tyf h tx0 hb) _ hb_35
          refine st_ref hb_35 ?_
          refine lv_iload_n C.1 C.2.1 dX11_lookAtAct_89 rfl (lv_at hl 4 rfl) ?_
          obtain ⟨hi, hM⟩ := ib_some hM
          refine h_iald C h tb_35 hi dX11_lookAtAct_90 ?_
          obtain ⟨r_36, m_37, hc_36, hM⟩ := bd_some hM
          refine h_callVv C h (As := [.int 5, .int (gI m_31 b_35 x1.toNatClampNeg)]) (rest := []) m_37 (c_X11_wrong hc_36 tx0) 11 rfl (by decide) tx0 im_yX11_wrong se_yX11_wrong cy_X11_wrong rfl ml_X11_304 ⟨by decide, by decide⟩ ⟨Nat.zero_le _, Nat.zero_le _⟩ hl.1 rfl (Nat.le_of_ble_eq_true rfl) dX11_lookAtAct_91 (fun H locs h => ?_)
          refine lv_aload_n C.1 C.2.1 dX11_lookAtAct_94 rfl (lv_at hl 3 rfl) ?_
          refine gt_11_35 C h tx0 fl_X11_103 dX11_lookAtAct_95 ?_
          obtain ⟨b_38, hb_38, hM⟩ := nb_some hM
          have tb_38 : Ty E G b_38 12 := (fun b hb => tyf h tx0 hb) _ hb_38
          refine st_ref hb_38 ?_
          refine lv_iload_n C.1 C.2.1 dX11_lookAtAct_98 rfl (lv_at hl 4 rfl) ?_
          refine lv_iload C.1 C.2.1 dX11_lookAtAct_99 (lv_at hl 0 rfl) ?_
          obtain ⟨hi, hM⟩ := ib_some hM
          refine h_iast C h tb_38 hi dX11_lookAtAct_101 (fun H locs h => ?_)
          refine lv_goto (tgt := 255) C.1 C.2.1 dX11_lookAtAct_102 (by decide) ?_
          obtain ⟨rfl, rfl⟩ := so_inj hM
          exact h_vret C h dX11_lookAtAct_255
    · have hM := ite_f q hM
      refine lv_aload_n C.1 C.2.1 dX11_lookAtAct_48 rfl (lv_at hl 3 rfl) ?_
      refine lv_bipush (v := 6) C.1 C.2.1 dX11_lookAtAct_49 (by decide) ?_
      refine lv_aload_n C.1 C.2.1 dX11_lookAtAct_51 rfl (lv_at hl 3 rfl) ?_
      refine gt_11_37 C h tx0 fl_X11_109 dX11_lookAtAct_52 ?_
      obtain ⟨b_39, hb_39, hM⟩ := nb_some hM
      have tb_39 : Ty E G b_39 12 := (fun b hb => tyf h tx0 hb) _ hb_39
      refine st_ref hb_39 ?_
      refine lv_iload_n C.1 C.2.1 dX11_lookAtAct_55 rfl (lv_at hl 4 rfl) ?_
      obtain ⟨hi, hM⟩ := ib_some hM
      refine h_iald C h tb_39 hi dX11_lookAtAct_56 ?_
      obtain ⟨r_40, m_41, hc_40, hM⟩ := bd_some hM
      refine h_callVv C h (As := [.int 6, .int (gI m_31 b_39 x1.toNatClampNeg)]) (rest := []) m_41 (c_X11_wrong hc_40 tx0) 11 rfl (by decide) tx0 im_yX11_wrong se_yX11_wrong cy_X11_wrong rfl ml_X11_304 ⟨by decide, by decide⟩ ⟨Nat.zero_le _, Nat.zero_le _⟩ hl.1 rfl (Nat.le_of_ble_eq_true rfl) dX11_lookAtAct_57 (fun H locs h => ?_)
      refine lv_goto (tgt := 94) C.1 C.2.1 dX11_lookAtAct_60 (by decide) ?_
      refine lv_aload_n C.1 C.2.1 dX11_lookAtAct_94 rfl (lv_at hl 3 rfl) ?_
      refine gt_11_35 C h tx0 fl_X11_103 dX11_lookAtAct_95 ?_
      obtain ⟨b_42, hb_42, hM⟩ := nb_some hM
      have tb_42 : Ty E G b_42 12 := (fun b hb => tyf h tx0 hb) _ hb_42
      refine st_ref hb_42 ?_
      refine lv_iload_n C.1 C.2.1 dX11_lookAtAct_98 rfl (lv_at hl 4 rfl) ?_
      refine lv_iload C.1 C.2.1 dX11_lookAtAct_99 (lv_at hl 0 rfl) ?_
      obtain ⟨hi, hM⟩ := ib_some hM
      refine h_iast C h tb_42 hi dX11_lookAtAct_101 (fun H locs h => ?_)
      refine lv_goto (tgt := 255) C.1 C.2.1 dX11_lookAtAct_102 (by decide) ?_
      obtain ⟨rfl, rfl⟩ := so_inj hM
      exact h_vret C h dX11_lookAtAct_255
theorem cy_X11_lookAtAct : Cy yX11_lookAtAct cX11_lookAtAct 6 none 1 := ⟨cd_yX11_lookAtAct, ii_X11, by decide, by decide, by decide +kernel⟩
set_option maxRecDepth 100000 in
theorem c_X11_lookAtAct {l : Launch} {E : EE} {G : GG} {x0 : Nat} {x1 : Int32} {m m9 : MM} {r9 : Unit} (hM : M_X11_lookAtAct G x0 x1 m = some (r9, m9)) (tx0 : Ty E G x0 11) : Mc l E yX11_lookAtAct cX11_lookAtAct 6 none rmX11_lookAtAct [.ref x0, .int x1] G m (cQv E G m9) := M_of (by decide) (Nat.le_of_ble_eq_true rfl) (fun p e s mth below meth c C h ls hl => cM_X11_lookAtAct C hM tx0 _ _ h ls hl)
abbrev rmX11_lookAtAll : Room := { frames := 3, cells := 0, slots := 0, locals := 76 }
def B_X11_lookAtAll_159 (G : GG) : Nat → Nat → Int32 → MM → Option (Unit × MM)
  | 0, _, _, _ => none
  | fu + 1, x0, x1, m =>
    nb (gR m x0 33) fun b_1 =>
      ib (gI m x0 4) (G.2.2 b_1) <|
        if ((2100 * (gI m x0 4)) + (gI m b_1 ((gI m x0 4).toNatClampNeg))) ≤ x1 then
          some ((), m)
        else
          bd (M_X11_lookAtAct G x0 x1 m) fun _ m_3 =>
            B_X11_lookAtAll_159 G fu x0 (x1 + 1) m_3
set_option maxRecDepth 100000 in
set_option maxHeartbeats 4000000 in
theorem cB_X11_lookAtAll_159 {p : Program} {l : Launch} {e : Env} {s : State} {mth : MethodId} {args : Array Value} {below : List Frame} {meth : Method} {c : Code} {E : EE} {G : GG} {r9 : Unit} {m9 : MM} (C : Cx E G p s mth args meth c cX11_lookAtAll RX11 "lookAtAll" 3 none) : ∀ (fu : Nat) (x0 : Nat) (x1 : Int32) (m : MM), B_X11_lookAtAll_159 G fu x0 x1 m = some (r9, m9) → (Ty E G x0 11) → ∀ (H : Heap) (locs : List Loc), Hp E G m s H locs → ∀ ls : Array Slot, lv_has ls 3 [(0, .ref x0), (1, .int x1)] → W p l e rmX11_lookAtAll s mth args below meth c H locs 0 0 (MQ below (cQv E G m9) args s 0 0 (fun q => E.2.2.1 ≤ q)) (F0 mth 159 ls []) := by
  intro fu
  induction fu with
  | zero =>
    intro x0 x1 m hM
    rw [B_X11_lookAtAll_159] at hM
    cases hM
  | succ fu ih =>
    intro x0 x1 m hM tx0 H locs h ls hl
    rw [B_X11_lookAtAll_159] at hM
    refine lv_iload_n C.1 C.2.1 dX11_lookAtAll_159 rfl (lv_at hl 1 rfl) ?_
    refine lv_sipush (v := 2100) C.1 C.2.1 dX11_lookAtAll_160 (by decide) ?_
    refine lv_aload_n C.1 C.2.1 dX11_lookAtAll_163 rfl (lv_at hl 0 rfl) ?_
    refine gt_11_4 C h tx0 fl_X11_183 dX11_lookAtAll_164 ?_
    refine lv_imul C.1 C.2.1 dX11_lookAtAll_167 ?_
    refine lv_aload_n C.1 C.2.1 dX11_lookAtAll_168 rfl (lv_at hl 0 rfl) ?_
    refine gt_11_33 C h tx0 fl_X11_97 dX11_lookAtAll_169 ?_
    obtain ⟨b_1, hb_1, hM⟩ := nb_some hM
    have tb_1 : Ty E G b_1 12 := (fun b hb => tyf h tx0 hb) _ hb_1
    refine st_ref hb_1 ?_
    refine lv_aload_n C.1 C.2.1 dX11_lookAtAll_172 rfl (lv_at hl 0 rfl) ?_
    refine gt_11_4 C h tx0 fl_X11_183 dX11_lookAtAll_173 ?_
    obtain ⟨hi, hM⟩ := ib_some hM
    refine h_iald C h tb_1 hi dX11_lookAtAll_176 ?_
    refine lv_iadd C.1 C.2.1 dX11_lookAtAll_177 ?_
    refine lv_icmp_ge (tgt := 192) C.1 C.2.1 dX11_lookAtAll_178 (by decide) (fun q => ?_) (fun q => ?_)
    · have hM := ite_t q hM
      obtain ⟨rfl, rfl⟩ := so_inj hM
      exact h_vret C h dX11_lookAtAll_192
    · have hM := ite_f q hM
      refine lv_aload_n C.1 C.2.1 dX11_lookAtAll_181 rfl (lv_at hl 0 rfl) ?_
      refine lv_iload_n C.1 C.2.1 dX11_lookAtAll_182 rfl (lv_at hl 1 rfl) ?_
      obtain ⟨r_2, m_3, hc_2, hM⟩ := bd_some hM
      refine h_callVv C h (As := [.int x1]) (rest := []) m_3 (c_X11_lookAtAct hc_2 tx0) 11 rfl (by decide) tx0 im_yX11_lookAtAct se_yX11_lookAtAct cy_X11_lookAtAct rfl ml_X11_331 ⟨by decide, by decide⟩ ⟨Nat.zero_le _, Nat.zero_le _⟩ hl.1 rfl (Nat.le_of_ble_eq_true rfl) dX11_lookAtAll_183 (fun H locs h => ?_)
      refine lv_iinc (v := x1 + 1) (lv' := [(1, .int (x1 + 1)), (0, .ref x0)]) C.1 C.2.1 dX11_lookAtAll_186 hl (k := 1) rfl rfl (by decide) rfl (fun ls hl => ?_)
      refine lv_goto (tgt := 159) C.1 C.2.1 dX11_lookAtAll_189 (by decide) ?_
      exact ih _ _ _ hM tx0 _ _ h ls (lv_sub hl [1, 0] rfl)
def B_X11_lookAtAll_110 (G : GG) (k49 : Nat → Int32 → MM → Option (Unit × MM)) (x0 : Nat) (x1 : Int32) (x2 : Int32) (m : MM) : Option (Unit × MM) :=
  nb (gR m x0 29) fun b_4 =>
    ib x1 (G.2.2 b_4) <|
      nb (gR m x0 30) fun b_5 =>
        ib x1 (G.2.2 b_5) <|
          bd (M_X11_memberOf G x0 (x2 / 12) (gI m b_4 x1.toNatClampNeg) (gI m b_5 x1.toNatClampNeg) m) fun r_6 m_7 =>
            if 0 ≤ r_6 then
              k49 x0 (x1 + 1) m_7
            else
              nb (gR m_7 x0 29) fun b_8 =>
                ib x1 (G.2.2 b_8) <|
                  bd (M_X11_wrong G x0 3 (gI m_7 b_8 x1.toNatClampNeg) m_7) fun _ m_10 =>
                    k49 x0 (x1 + 1) m_10
set_option maxRecDepth 100000 in
set_option maxHeartbeats 4000000 in
theorem cB_X11_lookAtAll_110 {p : Program} {l : Launch} {e : Env} {s : State} {mth : MethodId} {args : Array Value} {below : List Frame} {meth : Method} {c : Code} {E : EE} {G : GG} {r9 : Unit} {m9 : MM} {k49 : Nat → Int32 → MM → Option (Unit × MM)} (C : Cx E G p s mth args meth c cX11_lookAtAll RX11 "lookAtAll" 3 none) (hk49 : ∀ (x0 : Nat) (x1 : Int32) (m : MM), k49 x0 x1 m = some (r9, m9) → (Ty E G x0 11) → ∀ (H : Heap) (locs : List Loc), Hp E G m s H locs → ∀ ls : Array Slot, lv_has ls 3 [(0, .ref x0), (1, .int x1)] → W p l e rmX11_lookAtAll s mth args below meth c H locs 0 0 (MQ below (cQv E G m9) args s 0 0 (fun q => E.2.2.1 ≤ q)) (F0 mth 49 ls [])) {x0 : Nat} {x1 : Int32} {x2 : Int32} {m : MM} (hM : B_X11_lookAtAll_110 G k49 x0 x1 x2 m = some (r9, m9)) (tx0 : Ty E G x0 11) : ∀ (H : Heap) (locs : List Loc), Hp E G m s H locs → ∀ ls : Array Slot, lv_has ls 3 [(0, .ref x0), (1, .int x1), (2, .int x2)] → W p l e rmX11_lookAtAll s mth args below meth c H locs 0 0 (MQ below (cQv E G m9) args s 0 0 (fun q => E.2.2.1 ≤ q)) (F0 mth 110 ls []) := by
  intro H locs h ls hl
  unfold B_X11_lookAtAll_110 at hM
  refine lv_aload_n C.1 C.2.1 dX11_lookAtAll_110 rfl (lv_at hl 0 rfl) ?_
  refine lv_iload_n C.1 C.2.1 dX11_lookAtAll_111 rfl (lv_at hl 2 rfl) ?_
  refine lv_bipush (v := 12) C.1 C.2.1 dX11_lookAtAll_112 (by decide) ?_
  refine lv_idiv C.1 C.2.1 dX11_lookAtAll_114 (by decide) ?_
  refine lv_aload_n C.1 C.2.1 dX11_lookAtAll_115 rfl (lv_at hl 0 rfl) ?_
  refine gt_11_29 C h tx0 fl_X11_85 dX11_lookAtAll_116 ?_
  obtain ⟨b_4, hb_4, hM⟩ := nb_some hM
  have tb_4 : Ty E G b_4 12 := (fun b hb => tyf h tx0 hb) _ hb_4
  refine st_ref hb_4 ?_
  refine lv_iload_n C.1 C.2.1 dX11_lookAtAll_119 rfl (lv_at hl 1 rfl) ?_
  obtain ⟨hi, hM⟩ := ib_some hM
  refine h_iald C h tb_4 hi dX11_lookAtAll_120 ?_
  refine lv_aload_n C.1 C.2.1 dX11_lookAtAll_121 rfl (lv_at hl 0 rfl) ?_
  refine gt_11_30 C h tx0 fl_X11_88 dX11_lookAtAll_122 ?_
  obtain ⟨b_5, hb_5, hM⟩ := nb_some hM
  have tb_5 : Ty E G b_5 12 := (fun b hb => tyf h tx0 hb) _ hb_5
  refine st_ref hb_5 ?_
  refine lv_iload_n C.1 C.2.1 dX11_lookAtAll_125 rfl (lv_at hl 1 rfl) ?_
  obtain ⟨hi, hM⟩ := ib_some hM
  refine h_iald C h tb_5 hi dX11_lookAtAll_126 ?_
  obtain ⟨r_6, m_7, hc_6, hM⟩ := bd_some hM
  refine h_callVi C h (As := [.int (x2 / 12), .int (gI m b_4 x1.toNatClampNeg), .int (gI m b_5 x1.toNatClampNeg)]) (rest := []) r_6 m_7 (c_X11_memberOf hc_6 tx0) 11 rfl (by decide) tx0 im_yX11_memberOf se_yX11_memberOf cy_X11_memberOf rfl ml_X11_328 ⟨by decide, by decide⟩ ⟨Nat.zero_le _, Nat.zero_le _⟩ hl.1 rfl (Nat.le_of_ble_eq_true rfl) dX11_lookAtAll_127 (fun H locs h => ?_)
  refine lv_if_ge (tgt := 144) C.1 C.2.1 dX11_lookAtAll_130 (by decide) (fun q => ?_) (fun q => ?_)
  · have hM := ite_t q hM
    refine lv_iinc (v := x1 + 1) (lv' := [(1, .int (x1 + 1)), (0, .ref x0), (2, .int x2)]) C.1 C.2.1 dX11_lookAtAll_144 hl (k := 1) rfl rfl (by decide) rfl (fun ls hl => ?_)
    refine lv_goto (tgt := 49) C.1 C.2.1 dX11_lookAtAll_147 (by decide) ?_
    exact hk49 _ _ _ hM tx0 _ _ h ls (lv_sub hl [1, 0] rfl)
  · have hM := ite_f q hM
    refine lv_aload_n C.1 C.2.1 dX11_lookAtAll_133 rfl (lv_at hl 0 rfl) ?_
    refine lv_iconst (v := 3) C.1 C.2.1 dX11_lookAtAll_134 (by decide) ?_
    refine lv_aload_n C.1 C.2.1 dX11_lookAtAll_135 rfl (lv_at hl 0 rfl) ?_
    refine gt_11_29 C h tx0 fl_X11_85 dX11_lookAtAll_136 ?_
    obtain ⟨b_8, hb_8, hM⟩ := nb_some hM
    have tb_8 : Ty E G b_8 12 := (fun b hb => tyf h tx0 hb) _ hb_8
    refine st_ref hb_8 ?_
    refine lv_iload_n C.1 C.2.1 dX11_lookAtAll_139 rfl (lv_at hl 1 rfl) ?_
    obtain ⟨hi, hM⟩ := ib_some hM
    refine h_iald C h tb_8 hi dX11_lookAtAll_140 ?_
    obtain ⟨r_9, m_10, hc_9, hM⟩ := bd_some hM
    refine h_callVv C h (As := [.int 3, .int (gI m_7 b_8 x1.toNatClampNeg)]) (rest := []) m_10 (c_X11_wrong hc_9 tx0) 11 rfl (by decide) tx0 im_yX11_wrong se_yX11_wrong cy_X11_wrong rfl ml_X11_304 ⟨by decide, by decide⟩ ⟨Nat.zero_le _, Nat.zero_le _⟩ hl.1 rfl (Nat.le_of_ble_eq_true rfl) dX11_lookAtAll_141 (fun H locs h => ?_)
    refine lv_iinc (v := x1 + 1) (lv' := [(1, .int (x1 + 1)), (0, .ref x0), (2, .int x2)]) C.1 C.2.1 dX11_lookAtAll_144 hl (k := 1) rfl rfl (by decide) rfl (fun ls hl => ?_)
    refine lv_goto (tgt := 49) C.1 C.2.1 dX11_lookAtAll_147 (by decide) ?_
    exact hk49 _ _ _ hM tx0 _ _ h ls (lv_sub hl [1, 0] rfl)
def B_X11_lookAtAll_49 (G : GG) : Nat → Nat → Int32 → MM → Option (Unit × MM)
  | 0, _, _, _ => none
  | fu + 1, x0, x1, m =>
    nb (gR m x0 27) fun b_11 =>
      ib (gI m x0 4) (G.2.2 b_11) <|
        if ((520 * (gI m x0 4)) + (gI m b_11 ((gI m x0 4).toNatClampNeg))) ≤ x1 then
          B_X11_lookAtAll_159 G FU x0 (2100 * (gI m x0 4)) m
        else
          nb (gR m x0 28) fun b_12 =>
            ib x1 (G.2.2 b_12) <|
              nb (gR m x0 29) fun b_13 =>
                ib x1 (G.2.2 b_13) <|
                  nb (gR m x0 30) fun b_14 =>
                    ib x1 (G.2.2 b_14) <|
                      bd (M_X11_giveBy G x0 (gI m b_12 x1.toNatClampNeg) (gI m b_13 x1.toNatClampNeg) (gI m b_14 x1.toNatClampNeg) m) fun r_15 m_16 =>
                        if x1 ≤ r_15 then
                          B_X11_lookAtAll_110 G (B_X11_lookAtAll_49 G fu) x0 x1 (gI m b_12 x1.toNatClampNeg) m_16
                        else
                          nb (gR m_16 x0 29) fun b_17 =>
                            ib x1 (G.2.2 b_17) <|
                              bd (M_X11_wrong G x0 2 (gI m_16 b_17 x1.toNatClampNeg) m_16) fun _ m_19 =>
                                B_X11_lookAtAll_110 G (B_X11_lookAtAll_49 G fu) x0 x1 (gI m b_12 x1.toNatClampNeg) m_19
set_option maxRecDepth 100000 in
set_option maxHeartbeats 4000000 in
theorem cB_X11_lookAtAll_49 {p : Program} {l : Launch} {e : Env} {s : State} {mth : MethodId} {args : Array Value} {below : List Frame} {meth : Method} {c : Code} {E : EE} {G : GG} {r9 : Unit} {m9 : MM} (C : Cx E G p s mth args meth c cX11_lookAtAll RX11 "lookAtAll" 3 none) : ∀ (fu : Nat) (x0 : Nat) (x1 : Int32) (m : MM), B_X11_lookAtAll_49 G fu x0 x1 m = some (r9, m9) → (Ty E G x0 11) → ∀ (H : Heap) (locs : List Loc), Hp E G m s H locs → ∀ ls : Array Slot, lv_has ls 3 [(0, .ref x0), (1, .int x1)] → W p l e rmX11_lookAtAll s mth args below meth c H locs 0 0 (MQ below (cQv E G m9) args s 0 0 (fun q => E.2.2.1 ≤ q)) (F0 mth 49 ls []) := by
  intro fu
  induction fu with
  | zero =>
    intro x0 x1 m hM
    rw [B_X11_lookAtAll_49] at hM
    cases hM
  | succ fu ih =>
    intro x0 x1 m hM tx0 H locs h ls hl
    rw [B_X11_lookAtAll_49] at hM
    refine lv_iload_n C.1 C.2.1 dX11_lookAtAll_49 rfl (lv_at hl 1 rfl) ?_
    refine lv_sipush (v := 520) C.1 C.2.1 dX11_lookAtAll_50 (by decide) ?_
    refine lv_aload_n C.1 C.2.1 dX11_lookAtAll_53 rfl (lv_at hl 0 rfl) ?_
    refine gt_11_4 C h tx0 fl_X11_183 dX11_lookAtAll_54 ?_
    refine lv_imul C.1 C.2.1 dX11_lookAtAll_57 ?_
    refine lv_aload_n C.1 C.2.1 dX11_lookAtAll_58 rfl (lv_at hl 0 rfl) ?_
    refine gt_11_27 C h tx0 fl_X11_79 dX11_lookAtAll_59 ?_
    obtain ⟨b_11, hb_11, hM⟩ := nb_some hM
    have tb_11 : Ty E G b_11 12 := (fun b hb => tyf h tx0 hb) _ hb_11
    refine st_ref hb_11 ?_
    refine lv_aload_n C.1 C.2.1 dX11_lookAtAll_62 rfl (lv_at hl 0 rfl) ?_
    refine gt_11_4 C h tx0 fl_X11_183 dX11_lookAtAll_63 ?_
    obtain ⟨hi, hM⟩ := ib_some hM
    refine h_iald C h tb_11 hi dX11_lookAtAll_66 ?_
    refine lv_iadd C.1 C.2.1 dX11_lookAtAll_67 ?_
    refine lv_icmp_ge (tgt := 150) C.1 C.2.1 dX11_lookAtAll_68 (by decide) (fun q => ?_) (fun q => ?_)
    · have hM := ite_t q hM
      refine lv_sipush (v := 2100) C.1 C.2.1 dX11_lookAtAll_150 (by decide) ?_
      refine lv_aload_n C.1 C.2.1 dX11_lookAtAll_153 rfl (lv_at hl 0 rfl) ?_
      refine gt_11_4 C h tx0 fl_X11_183 dX11_lookAtAll_154 ?_
      refine lv_imul C.1 C.2.1 dX11_lookAtAll_157 ?_
      refine lv_istore_n (lv' := [(1, .int (2100 * (gI m x0 4))), (0, .ref x0)]) C.1 C.2.1 dX11_lookAtAll_158 rfl hl (by decide) rfl (fun ls hl => ?_)
      exact cB_X11_lookAtAll_159 C _ _ _ _ hM tx0 _ _ h ls (lv_sub hl [1, 0] rfl)
    · have hM := ite_f q hM
      refine lv_aload_n C.1 C.2.1 dX11_lookAtAll_71 rfl (lv_at hl 0 rfl) ?_
      refine gt_11_28 C h tx0 fl_X11_82 dX11_lookAtAll_72 ?_
      obtain ⟨b_12, hb_12, hM⟩ := nb_some hM
      have tb_12 : Ty E G b_12 12 := (fun b hb => tyf h tx0 hb) _ hb_12
      refine st_ref hb_12 ?_
      refine lv_iload_n C.1 C.2.1 dX11_lookAtAll_75 rfl (lv_at hl 1 rfl) ?_
      obtain ⟨hi, hM⟩ := ib_some hM
      refine h_iald C h tb_12 hi dX11_lookAtAll_76 ?_
      refine lv_istore_n (lv' := [(2, .int (gI m b_12 x1.toNatClampNeg)), (0, .ref x0), (1, .int x1)]) C.1 C.2.1 dX11_lookAtAll_77 rfl hl (by decide) rfl (fun ls hl => ?_)
      refine lv_aload_n C.1 C.2.1 dX11_lookAtAll_78 rfl (lv_at hl 1 rfl) ?_
      refine lv_iload_n C.1 C.2.1 dX11_lookAtAll_79 rfl (lv_at hl 0 rfl) ?_
      refine lv_aload_n C.1 C.2.1 dX11_lookAtAll_80 rfl (lv_at hl 1 rfl) ?_
      refine gt_11_29 C h tx0 fl_X11_85 dX11_lookAtAll_81 ?_
      obtain ⟨b_13, hb_13, hM⟩ := nb_some hM
      have tb_13 : Ty E G b_13 12 := (fun b hb => tyf h tx0 hb) _ hb_13
      refine st_ref hb_13 ?_
      refine lv_iload_n C.1 C.2.1 dX11_lookAtAll_84 rfl (lv_at hl 2 rfl) ?_
      obtain ⟨hi, hM⟩ := ib_some hM
      refine h_iald C h tb_13 hi dX11_lookAtAll_85 ?_
      refine lv_aload_n C.1 C.2.1 dX11_lookAtAll_86 rfl (lv_at hl 1 rfl) ?_
      refine gt_11_30 C h tx0 fl_X11_88 dX11_lookAtAll_87 ?_
      obtain ⟨b_14, hb_14, hM⟩ := nb_some hM
      have tb_14 : Ty E G b_14 12 := (fun b hb => tyf h tx0 hb) _ hb_14
      refine st_ref hb_14 ?_
      refine lv_iload_n C.1 C.2.1 dX11_lookAtAll_90 rfl (lv_at hl 2 rfl) ?_
      obtain ⟨hi, hM⟩ := ib_some hM
      refine h_iald C h tb_14 hi dX11_lookAtAll_91 ?_
      obtain ⟨r_15, m_16, hc_15, hM⟩ := bd_some hM
      refine h_callVi C h (As := [.int (gI m b_12 x1.toNatClampNeg), .int (gI m b_13 x1.toNatClampNeg), .int (gI m b_14 x1.toNatClampNeg)]) (rest := []) r_15 m_16 (c_X11_giveBy hc_15 tx0) 11 rfl (by decide) tx0 im_yX11_giveBy se_yX11_giveBy cy_X11_giveBy rfl ml_X11_315 ⟨by decide, by decide⟩ ⟨Nat.zero_le _, Nat.zero_le _⟩ hl.1 rfl (Nat.le_of_ble_eq_true rfl) dX11_lookAtAll_92 (fun H locs h => ?_)
      refine lv_iload_n C.1 C.2.1 dX11_lookAtAll_95 rfl (lv_at hl 2 rfl) ?_
      refine lv_icmp_ge (tgt := 110) C.1 C.2.1 dX11_lookAtAll_96 (by decide) (fun q => ?_) (fun q => ?_)
      · have hM := ite_t q hM
        exact cB_X11_lookAtAll_110 C ih hM tx0 _ _ h ls (lv_sub hl [1, 2, 0] rfl)
      · have hM := ite_f q hM
        refine lv_aload_n C.1 C.2.1 dX11_lookAtAll_99 rfl (lv_at hl 1 rfl) ?_
        refine lv_iconst (v := 2) C.1 C.2.1 dX11_lookAtAll_100 (by decide) ?_
        refine lv_aload_n C.1 C.2.1 dX11_lookAtAll_101 rfl (lv_at hl 1 rfl) ?_
        refine gt_11_29 C h tx0 fl_X11_85 dX11_lookAtAll_102 ?_
        obtain ⟨b_17, hb_17, hM⟩ := nb_some hM
        have tb_17 : Ty E G b_17 12 := (fun b hb => tyf h tx0 hb) _ hb_17
        refine st_ref hb_17 ?_
        refine lv_iload_n C.1 C.2.1 dX11_lookAtAll_105 rfl (lv_at hl 2 rfl) ?_
        obtain ⟨hi, hM⟩ := ib_some hM
        refine h_iald C h tb_17 hi dX11_lookAtAll_106 ?_
        obtain ⟨r_18, m_19, hc_18, hM⟩ := bd_some hM
        refine h_callVv C h (As := [.int 2, .int (gI m_16 b_17 x1.toNatClampNeg)]) (rest := []) m_19 (c_X11_wrong hc_18 tx0) 11 rfl (by decide) tx0 im_yX11_wrong se_yX11_wrong cy_X11_wrong rfl ml_X11_304 ⟨by decide, by decide⟩ ⟨Nat.zero_le _, Nat.zero_le _⟩ hl.1 rfl (Nat.le_of_ble_eq_true rfl) dX11_lookAtAll_107 (fun H locs h => ?_)
        exact cB_X11_lookAtAll_110 C ih hM tx0 _ _ h ls (lv_sub hl [1, 2, 0] rfl)
def B_X11_lookAtAll_8 (G : GG) : Nat → Nat → Int32 → MM → Option (Unit × MM)
  | 0, _, _, _ => none
  | fu + 1, x0, x1, m =>
    nb (gR m x0 6) fun b_20 =>
      ib (gI m x0 4) (G.2.2 b_20) <|
        if ((8 * (gI m x0 4)) + (gI m b_20 ((gI m x0 4).toNatClampNeg))) ≤ x1 then
          B_X11_lookAtAll_49 G FU x0 (520 * (gI m x0 4)) m
        else
          bd (M_X11_lookAtEnum G x0 x1 m) fun _ m_22 =>
            B_X11_lookAtAll_8 G fu x0 (x1 + 1) m_22
set_option maxRecDepth 100000 in
set_option maxHeartbeats 4000000 in
theorem cB_X11_lookAtAll_8 {p : Program} {l : Launch} {e : Env} {s : State} {mth : MethodId} {args : Array Value} {below : List Frame} {meth : Method} {c : Code} {E : EE} {G : GG} {r9 : Unit} {m9 : MM} (C : Cx E G p s mth args meth c cX11_lookAtAll RX11 "lookAtAll" 3 none) : ∀ (fu : Nat) (x0 : Nat) (x1 : Int32) (m : MM), B_X11_lookAtAll_8 G fu x0 x1 m = some (r9, m9) → (Ty E G x0 11) → ∀ (H : Heap) (locs : List Loc), Hp E G m s H locs → ∀ ls : Array Slot, lv_has ls 3 [(0, .ref x0), (1, .int x1)] → W p l e rmX11_lookAtAll s mth args below meth c H locs 0 0 (MQ below (cQv E G m9) args s 0 0 (fun q => E.2.2.1 ≤ q)) (F0 mth 8 ls []) := by
  intro fu
  induction fu with
  | zero =>
    intro x0 x1 m hM
    rw [B_X11_lookAtAll_8] at hM
    cases hM
  | succ fu ih =>
    intro x0 x1 m hM tx0 H locs h ls hl
    rw [B_X11_lookAtAll_8] at hM
    refine lv_iload_n C.1 C.2.1 dX11_lookAtAll_8 rfl (lv_at hl 1 rfl) ?_
    refine lv_bipush (v := 8) C.1 C.2.1 dX11_lookAtAll_9 (by decide) ?_
    refine lv_aload_n C.1 C.2.1 dX11_lookAtAll_11 rfl (lv_at hl 0 rfl) ?_
    refine gt_11_4 C h tx0 fl_X11_183 dX11_lookAtAll_12 ?_
    refine lv_imul C.1 C.2.1 dX11_lookAtAll_15 ?_
    refine lv_aload_n C.1 C.2.1 dX11_lookAtAll_16 rfl (lv_at hl 0 rfl) ?_
    refine gt_11_6 C h tx0 fl_X11_16 dX11_lookAtAll_17 ?_
    obtain ⟨b_20, hb_20, hM⟩ := nb_some hM
    have tb_20 : Ty E G b_20 12 := (fun b hb => tyf h tx0 hb) _ hb_20
    refine st_ref hb_20 ?_
    refine lv_aload_n C.1 C.2.1 dX11_lookAtAll_20 rfl (lv_at hl 0 rfl) ?_
    refine gt_11_4 C h tx0 fl_X11_183 dX11_lookAtAll_21 ?_
    obtain ⟨hi, hM⟩ := ib_some hM
    refine h_iald C h tb_20 hi dX11_lookAtAll_24 ?_
    refine lv_iadd C.1 C.2.1 dX11_lookAtAll_25 ?_
    refine lv_icmp_ge (tgt := 40) C.1 C.2.1 dX11_lookAtAll_26 (by decide) (fun q => ?_) (fun q => ?_)
    · have hM := ite_t q hM
      refine lv_sipush (v := 520) C.1 C.2.1 dX11_lookAtAll_40 (by decide) ?_
      refine lv_aload_n C.1 C.2.1 dX11_lookAtAll_43 rfl (lv_at hl 0 rfl) ?_
      refine gt_11_4 C h tx0 fl_X11_183 dX11_lookAtAll_44 ?_
      refine lv_imul C.1 C.2.1 dX11_lookAtAll_47 ?_
      refine lv_istore_n (lv' := [(1, .int (520 * (gI m x0 4))), (0, .ref x0)]) C.1 C.2.1 dX11_lookAtAll_48 rfl hl (by decide) rfl (fun ls hl => ?_)
      exact cB_X11_lookAtAll_49 C _ _ _ _ hM tx0 _ _ h ls (lv_sub hl [1, 0] rfl)
    · have hM := ite_f q hM
      refine lv_aload_n C.1 C.2.1 dX11_lookAtAll_29 rfl (lv_at hl 0 rfl) ?_
      refine lv_iload_n C.1 C.2.1 dX11_lookAtAll_30 rfl (lv_at hl 1 rfl) ?_
      obtain ⟨r_21, m_22, hc_21, hM⟩ := bd_some hM
      refine h_callVv C h (As := [.int x1]) (rest := []) m_22 (c_X11_lookAtEnum hc_21 tx0) 11 rfl (by decide) tx0 im_yX11_lookAtEnum se_yX11_lookAtEnum cy_X11_lookAtEnum rfl ml_X11_325 ⟨by decide, by decide⟩ ⟨Nat.zero_le _, Nat.zero_le _⟩ hl.1 rfl (Nat.le_of_ble_eq_true rfl) dX11_lookAtAll_31 (fun H locs h => ?_)
      refine lv_iinc (v := x1 + 1) (lv' := [(1, .int (x1 + 1)), (0, .ref x0)]) C.1 C.2.1 dX11_lookAtAll_34 hl (k := 1) rfl rfl (by decide) rfl (fun ls hl => ?_)
      refine lv_goto (tgt := 8) C.1 C.2.1 dX11_lookAtAll_37 (by decide) ?_
      exact ih _ _ _ hM tx0 _ _ h ls (lv_sub hl [1, 0] rfl)
def M_X11_lookAtAll (G : GG) (x0 : Nat) (m : MM) : Option (Unit × MM) :=
  B_X11_lookAtAll_8 G FU x0 (8 * (gI m x0 4)) m
set_option maxRecDepth 100000 in
set_option maxHeartbeats 4000000 in
theorem cM_X11_lookAtAll {p : Program} {l : Launch} {e : Env} {s : State} {mth : MethodId} {args : Array Value} {below : List Frame} {meth : Method} {c : Code} {E : EE} {G : GG} {r9 : Unit} {m9 : MM} (C : Cx E G p s mth args meth c cX11_lookAtAll RX11 "lookAtAll" 3 none) {x0 : Nat} {m : MM} (hM : M_X11_lookAtAll G x0 m = some (r9, m9)) (tx0 : Ty E G x0 11) : ∀ (H : Heap) (locs : List Loc), Hp E G m s H locs → ∀ ls : Array Slot, lv_has ls 3 [(0, .ref x0)] → W p l e rmX11_lookAtAll s mth args below meth c H locs 0 0 (MQ below (cQv E G m9) args s 0 0 (fun q => E.2.2.1 ≤ q)) (F0 mth 0 ls []) := by
  intro H locs h ls hl
  unfold M_X11_lookAtAll at hM
  refine lv_bipush (v := 8) C.1 C.2.1 dX11_lookAtAll_0 (by decide) ?_
  refine lv_aload_n C.1 C.2.1 dX11_lookAtAll_2 rfl (lv_at hl 0 rfl) ?_
  refine gt_11_4 C h tx0 fl_X11_183 dX11_lookAtAll_3 ?_
  refine lv_imul C.1 C.2.1 dX11_lookAtAll_6 ?_
  refine lv_istore_n (lv' := [(1, .int (8 * (gI m x0 4))), (0, .ref x0)]) C.1 C.2.1 dX11_lookAtAll_7 rfl hl (by decide) rfl (fun ls hl => ?_)
  exact cB_X11_lookAtAll_8 C _ _ _ _ hM tx0 _ _ h ls (lv_sub hl [1, 0] rfl)
theorem cy_X11_lookAtAll : Cy yX11_lookAtAll cX11_lookAtAll 3 none 0 := ⟨cd_yX11_lookAtAll, ii_X11, by decide, by decide, by decide +kernel⟩
set_option maxRecDepth 100000 in
theorem c_X11_lookAtAll {l : Launch} {E : EE} {G : GG} {x0 : Nat} {m m9 : MM} {r9 : Unit} (hM : M_X11_lookAtAll G x0 m = some (r9, m9)) (tx0 : Ty E G x0 11) : Mc l E yX11_lookAtAll cX11_lookAtAll 3 none rmX11_lookAtAll [.ref x0] G m (cQv E G m9) := M_of (by decide) (Nat.le_of_ble_eq_true rfl) (fun p e s mth below meth c C h ls hl => cM_X11_lookAtAll C hM tx0 _ _ h ls hl)
abbrev rmX11_load : Room := { frames := 9, cells := 0, slots := 0, locals := 201 }
def B_X11_load_141 (G : GG) : Nat → Nat → Int32 → MM → Option (Int32 × MM)
  | 0, _, _, _ => none
  | fu + 1, x0, x1, m =>
    if 8 ≤ x1 then
      nb (gR (sI (sI m x0 61 0) x0 71 0) x0 6) fun b_1 =>
        ib (gI (sI (sI m x0 61 0) x0 71 0) x0 3) (G.2.2 b_1) <|
          some (gI (sI (sI m x0 61 0) x0 71 0) b_1 ((gI (sI (sI m x0 61 0) x0 71 0) x0 3).toNatClampNeg), sI (sI m x0 61 0) x0 71 0)
    else
      nb (gR m x0 56) fun b_2 =>
        ib x1 (G.2.2 b_2) <|
          B_X11_load_141 G fu x0 (x1 + 1) (sI m b_2 x1.toNatClampNeg 0)
set_option maxRecDepth 100000 in
set_option maxHeartbeats 4000000 in
theorem cB_X11_load_141 {p : Program} {l : Launch} {e : Env} {s : State} {mth : MethodId} {args : Array Value} {below : List Frame} {meth : Method} {c : Code} {E : EE} {G : GG} {r9 : Int32} {m9 : MM} (C : Cx E G p s mth args meth c cX11_load RX11 "load" 2 (some .int)) : ∀ (fu : Nat) (x0 : Nat) (x1 : Int32) (m : MM), B_X11_load_141 G fu x0 x1 m = some (r9, m9) → (Ty E G x0 11) → ∀ (H : Heap) (locs : List Loc), Hp E G m s H locs → ∀ ls : Array Slot, lv_has ls 2 [(0, .ref x0), (1, .int x1)] → W p l e rmX11_load s mth args below meth c H locs 0 0 (MQ below (cQi E r9 G m9) args s 0 0 (fun q => E.2.2.1 ≤ q)) (F0 mth 141 ls []) := by
  intro fu
  induction fu with
  | zero =>
    intro x0 x1 m hM
    rw [B_X11_load_141] at hM
    cases hM
  | succ fu ih =>
    intro x0 x1 m hM tx0 H locs h ls hl
    rw [B_X11_load_141] at hM
    refine lv_iload_n C.1 C.2.1 dX11_load_141 rfl (lv_at hl 1 rfl) ?_
    refine lv_bipush (v := 8) C.1 C.2.1 dX11_load_142 (by decide) ?_
    refine lv_icmp_ge (tgt := 160) C.1 C.2.1 dX11_load_144 (by decide) (fun q => ?_) (fun q => ?_)
    · have hM := ite_t q hM
      refine lv_aload_n C.1 C.2.1 dX11_load_160 rfl (lv_at hl 0 rfl) ?_
      refine lv_iconst (v := 0) C.1 C.2.1 dX11_load_161 (by decide) ?_
      refine pt_11_61 C h tx0 fl_X11_346 dX11_load_162 (fun H locs h => ?_)
      refine lv_aload_n C.1 C.2.1 dX11_load_165 rfl (lv_at hl 0 rfl) ?_
      refine lv_iconst (v := 0) C.1 C.2.1 dX11_load_166 (by decide) ?_
      refine pt_11_71 C h tx0 fl_X11_349 dX11_load_167 (fun H locs h => ?_)
      refine lv_aload_n C.1 C.2.1 dX11_load_170 rfl (lv_at hl 0 rfl) ?_
      refine gt_11_6 C h tx0 fl_X11_16 dX11_load_171 ?_
      obtain ⟨b_1, hb_1, hM⟩ := nb_some hM
      have tb_1 : Ty E G b_1 12 := (fun b hb => tyf h tx0 hb) _ hb_1
      refine st_ref hb_1 ?_
      refine lv_aload_n C.1 C.2.1 dX11_load_174 rfl (lv_at hl 0 rfl) ?_
      refine gt_11_3 C h tx0 fl_X11_334 dX11_load_175 ?_
      obtain ⟨hi, hM⟩ := ib_some hM
      refine h_iald C h tb_1 hi dX11_load_178 ?_
      obtain ⟨rfl, rfl⟩ := so_inj hM
      exact h_iret C h dX11_load_179
    · have hM := ite_f q hM
      refine lv_aload_n C.1 C.2.1 dX11_load_147 rfl (lv_at hl 0 rfl) ?_
      refine gt_11_56 C h tx0 fl_X11_138 dX11_load_148 ?_
      obtain ⟨b_2, hb_2, hM⟩ := nb_some hM
      have tb_2 : Ty E G b_2 12 := (fun b hb => tyf h tx0 hb) _ hb_2
      refine st_ref hb_2 ?_
      refine lv_iload_n C.1 C.2.1 dX11_load_151 rfl (lv_at hl 1 rfl) ?_
      refine lv_iconst (v := 0) C.1 C.2.1 dX11_load_152 (by decide) ?_
      obtain ⟨hi, hM⟩ := ib_some hM
      refine h_iast C h tb_2 hi dX11_load_153 (fun H locs h => ?_)
      refine lv_iinc (v := x1 + 1) (lv' := [(1, .int (x1 + 1)), (0, .ref x0)]) C.1 C.2.1 dX11_load_154 hl (k := 1) rfl rfl (by decide) rfl (fun ls hl => ?_)
      refine lv_goto (tgt := 141) C.1 C.2.1 dX11_load_157 (by decide) ?_
      exact ih _ _ _ hM tx0 _ _ h ls (lv_sub hl [1, 0] rfl)
def B_X11_load_105 (G : GG) (x0 : Nat) (s0 : Nat) (s1 : Int32) (m : MM) : Option (Int32 × MM) :=
  if (gI (sI m s0 55 s1) x0 46) ≤ 0 then
    B_X11_load_141 G FU x0 0 (sI (sI m s0 55 s1) x0 3 (gI (sI m s0 55 s1) x0 4))
  else
    some ((-10) - (gI (sI (sI m s0 55 s1) x0 4 (gI (sI m s0 55 s1) x0 3)) x0 54), sI (sI m s0 55 s1) x0 4 (gI (sI m s0 55 s1) x0 3))
set_option maxRecDepth 100000 in
set_option maxHeartbeats 4000000 in
theorem cB_X11_load_105 {p : Program} {l : Launch} {e : Env} {s : State} {mth : MethodId} {args : Array Value} {below : List Frame} {meth : Method} {c : Code} {E : EE} {G : GG} {r9 : Int32} {m9 : MM} (C : Cx E G p s mth args meth c cX11_load RX11 "load" 2 (some .int)) {x0 : Nat} {s0 : Nat} {s1 : Int32} {m : MM} (hM : B_X11_load_105 G x0 s0 s1 m = some (r9, m9)) (tx0 : Ty E G x0 11) (ts0 : Ty E G s0 11) : ∀ (H : Heap) (locs : List Loc), Hp E G m s H locs → ∀ ls : Array Slot, lv_has ls 2 [(0, .ref x0)] → W p l e rmX11_load s mth args below meth c H locs 0 0 (MQ below (cQi E r9 G m9) args s 0 0 (fun q => E.2.2.1 ≤ q)) (F0 mth 105 ls [.int s1, .ref s0]) := by
  intro H locs h ls hl
  unfold B_X11_load_105 at hM
  refine pt_11_55 C h ts0 fl_X11_134 dX11_load_105 (fun H locs h => ?_)
  refine lv_aload_n C.1 C.2.1 dX11_load_108 rfl (lv_at hl 0 rfl) ?_
  refine gt_11_46 C h tx0 fl_X11_243 dX11_load_109 ?_
  refine lv_if_le (tgt := 131) C.1 C.2.1 dX11_load_112 (by decide) (fun q => ?_) (fun q => ?_)
  · have hM := ite_t q hM
    refine lv_aload_n C.1 C.2.1 dX11_load_131 rfl (lv_at hl 0 rfl) ?_
    refine lv_aload_n C.1 C.2.1 dX11_load_132 rfl (lv_at hl 0 rfl) ?_
    refine gt_11_4 C h tx0 fl_X11_183 dX11_load_133 ?_
    refine pt_11_3 C h tx0 fl_X11_334 dX11_load_136 (fun H locs h => ?_)
    refine lv_iconst (v := 0) C.1 C.2.1 dX11_load_139 (by decide) ?_
    refine lv_istore_n (lv' := [(1, .int 0), (0, .ref x0)]) C.1 C.2.1 dX11_load_140 rfl hl (by decide) rfl (fun ls hl => ?_)
    exact cB_X11_load_141 C _ _ _ _ hM tx0 _ _ h ls (lv_sub hl [1, 0] rfl)
  · have hM := ite_f q hM
    refine lv_aload_n C.1 C.2.1 dX11_load_115 rfl (lv_at hl 0 rfl) ?_
    refine lv_aload_n C.1 C.2.1 dX11_load_116 rfl (lv_at hl 0 rfl) ?_
    refine gt_11_3 C h tx0 fl_X11_334 dX11_load_117 ?_
    refine pt_11_4 C h tx0 fl_X11_183 dX11_load_120 (fun H locs h => ?_)
    refine lv_bipush (v := (-10)) C.1 C.2.1 dX11_load_123 (by decide) ?_
    refine lv_aload_n C.1 C.2.1 dX11_load_125 rfl (lv_at hl 0 rfl) ?_
    refine gt_11_54 C h tx0 fl_X11_343 dX11_load_126 ?_
    refine lv_isub C.1 C.2.1 dX11_load_129 ?_
    obtain ⟨rfl, rfl⟩ := so_inj hM
    exact h_iret C h dX11_load_130
def B_X11_load_80 (G : GG) (x0 : Nat) (m : MM) : Option (Int32 × MM) :=
  if (gI (sI m x0 54 (gI m x0 46)) x0 46) ≤ 0 then
    B_X11_load_105 G x0 x0 (-1000009) (sI m x0 54 (gI m x0 46))
  else
    B_X11_load_105 G x0 x0 (gI (sI m x0 54 (gI m x0 46)) x0 47) (sI m x0 54 (gI m x0 46))
set_option maxRecDepth 100000 in
set_option maxHeartbeats 4000000 in
theorem cB_X11_load_80 {p : Program} {l : Launch} {e : Env} {s : State} {mth : MethodId} {args : Array Value} {below : List Frame} {meth : Method} {c : Code} {E : EE} {G : GG} {r9 : Int32} {m9 : MM} (C : Cx E G p s mth args meth c cX11_load RX11 "load" 2 (some .int)) {x0 : Nat} {m : MM} (hM : B_X11_load_80 G x0 m = some (r9, m9)) (tx0 : Ty E G x0 11) : ∀ (H : Heap) (locs : List Loc), Hp E G m s H locs → ∀ ls : Array Slot, lv_has ls 2 [(0, .ref x0)] → W p l e rmX11_load s mth args below meth c H locs 0 0 (MQ below (cQi E r9 G m9) args s 0 0 (fun q => E.2.2.1 ≤ q)) (F0 mth 80 ls []) := by
  intro H locs h ls hl
  unfold B_X11_load_80 at hM
  refine lv_aload_n C.1 C.2.1 dX11_load_80 rfl (lv_at hl 0 rfl) ?_
  refine lv_aload_n C.1 C.2.1 dX11_load_81 rfl (lv_at hl 0 rfl) ?_
  refine gt_11_46 C h tx0 fl_X11_243 dX11_load_82 ?_
  refine pt_11_54 C h tx0 fl_X11_343 dX11_load_85 (fun H locs h => ?_)
  refine lv_aload_n C.1 C.2.1 dX11_load_88 rfl (lv_at hl 0 rfl) ?_
  refine lv_aload_n C.1 C.2.1 dX11_load_89 rfl (lv_at hl 0 rfl) ?_
  refine gt_11_46 C h tx0 fl_X11_243 dX11_load_90 ?_
  refine lv_if_le (tgt := 103) C.1 C.2.1 dX11_load_93 (by decide) (fun q => ?_) (fun q => ?_)
  · have hM := ite_t q hM
    refine lv_ldc C.1 C.2.1 C.2.2.2.1 (C.2.2.2.2.1 _ co_X11_133) dX11_load_103 ?_
    exact cB_X11_load_105 C hM tx0 tx0 _ _ h ls (lv_sub hl [0] rfl)
  · have hM := ite_f q hM
    refine lv_aload_n C.1 C.2.1 dX11_load_96 rfl (lv_at hl 0 rfl) ?_
    refine gt_11_47 C h tx0 fl_X11_246 dX11_load_97 ?_
    refine lv_goto (tgt := 105) C.1 C.2.1 dX11_load_100 (by decide) ?_
    exact cB_X11_load_105 C hM tx0 tx0 _ _ h ls (lv_sub hl [0] rfl)
def B_X11_load_20 (G : GG) : Nat → Nat → Int32 → MM → Option (Int32 × MM)
  | 0, _, _, _ => none
  | fu + 1, x0, x1, m =>
    if (gI m x0 1) ≤ x1 then
      bd (M_X11_readText G x0 (sI (sI m x0 1 0) x0 53 0)) fun _ m_4 =>
        bd (M_X11_isGood G x0 m_4) fun r_5 m_6 =>
          if r_5 = true then
            bd (M_X11_lookAtAll G x0 m_6) fun _ m_8 =>
              B_X11_load_80 G x0 m_8
          else
            B_X11_load_80 G x0 m_6
    else
      nb (gR m x0 2) fun b_9 =>
        nb (gR m x0 0) fun b_10 =>
          ib x1 (G.2.2 b_10) <|
            ib ((2000 * (gI m x0 4)) + x1) (G.2.2 b_9) <|
              B_X11_load_20 G fu x0 (x1 + 1) (sI m b_9 (((2000 * (gI m x0 4)) + x1).toNatClampNeg) (gI m b_10 x1.toNatClampNeg))
set_option maxRecDepth 100000 in
set_option maxHeartbeats 4000000 in
theorem cB_X11_load_20 {p : Program} {l : Launch} {e : Env} {s : State} {mth : MethodId} {args : Array Value} {below : List Frame} {meth : Method} {c : Code} {E : EE} {G : GG} {r9 : Int32} {m9 : MM} (C : Cx E G p s mth args meth c cX11_load RX11 "load" 2 (some .int)) : ∀ (fu : Nat) (x0 : Nat) (x1 : Int32) (m : MM), B_X11_load_20 G fu x0 x1 m = some (r9, m9) → (Ty E G x0 11) → ∀ (H : Heap) (locs : List Loc), Hp E G m s H locs → ∀ ls : Array Slot, lv_has ls 2 [(0, .ref x0), (1, .int x1)] → W p l e rmX11_load s mth args below meth c H locs 0 0 (MQ below (cQi E r9 G m9) args s 0 0 (fun q => E.2.2.1 ≤ q)) (F0 mth 20 ls []) := by
  intro fu
  induction fu with
  | zero =>
    intro x0 x1 m hM
    rw [B_X11_load_20] at hM
    cases hM
  | succ fu ih =>
    intro x0 x1 m hM tx0 H locs h ls hl
    rw [B_X11_load_20] at hM
    refine lv_iload_n C.1 C.2.1 dX11_load_20 rfl (lv_at hl 1 rfl) ?_
    refine lv_aload_n C.1 C.2.1 dX11_load_21 rfl (lv_at hl 0 rfl) ?_
    refine gt_11_1 C h tx0 fl_X11_171 dX11_load_22 ?_
    refine lv_icmp_ge (tgt := 55) C.1 C.2.1 dX11_load_25 (by decide) (fun q => ?_) (fun q => ?_)
    · have hM := ite_t q hM
      refine lv_aload_n C.1 C.2.1 dX11_load_55 rfl (lv_at hl 0 rfl) ?_
      refine lv_iconst (v := 0) C.1 C.2.1 dX11_load_56 (by decide) ?_
      refine pt_11_1 C h tx0 fl_X11_171 dX11_load_57 (fun H locs h => ?_)
      refine lv_aload_n C.1 C.2.1 dX11_load_60 rfl (lv_at hl 0 rfl) ?_
      refine lv_iconst (v := 0) C.1 C.2.1 dX11_load_61 (by decide) ?_
      refine pt_11_53 C h tx0 fl_X11_281 dX11_load_62 (fun H locs h => ?_)
      refine lv_aload_n C.1 C.2.1 dX11_load_65 rfl (lv_at hl 0 rfl) ?_
      obtain ⟨r_3, m_4, hc_3, hM⟩ := bd_some hM
      refine h_callVv C h (As := []) (rest := []) m_4 (c_X11_readText hc_3 tx0) 11 rfl (by decide) tx0 im_yX11_readText se_yX11_readText cy_X11_readText rfl ml_X11_337 ⟨by decide, by decide⟩ ⟨Nat.zero_le _, Nat.zero_le _⟩ hl.1 rfl (Nat.le_of_ble_eq_true rfl) dX11_load_66 (fun H locs h => ?_)
      refine lv_aload_n C.1 C.2.1 dX11_load_69 rfl (lv_at hl 0 rfl) ?_
      obtain ⟨r_5, m_6, hc_5, hM⟩ := bd_some hM
      refine h_callVi C h (As := []) (rest := []) (bz r_5) m_6 (c_X11_isGood hc_5 tx0) 11 rfl (by decide) tx0 im_yX11_isGood se_yX11_isGood cy_X11_isGood rfl ml_X11_249 ⟨by decide, by decide⟩ ⟨Nat.zero_le _, Nat.zero_le _⟩ hl.1 rfl (Nat.le_of_ble_eq_true rfl) dX11_load_70 (fun H locs h => ?_)
      refine h_ifz (tgt := 80) C.1 C.2.1 dX11_load_73 (by decide) (fun q => ?_) (fun q => ?_)
      · have hM := ite_f q hM
        exact cB_X11_load_80 C hM tx0 _ _ h ls (lv_sub hl [0] rfl)
      · have hM := ite_t q hM
        refine lv_aload_n C.1 C.2.1 dX11_load_76 rfl (lv_at hl 0 rfl) ?_
        obtain ⟨r_7, m_8, hc_7, hM⟩ := bd_some hM
        refine h_callVv C h (As := []) (rest := []) m_8 (c_X11_lookAtAll hc_7 tx0) 11 rfl (by decide) tx0 im_yX11_lookAtAll se_yX11_lookAtAll cy_X11_lookAtAll rfl ml_X11_340 ⟨by decide, by decide⟩ ⟨Nat.zero_le _, Nat.zero_le _⟩ hl.1 rfl (Nat.le_of_ble_eq_true rfl) dX11_load_77 (fun H locs h => ?_)
        exact cB_X11_load_80 C hM tx0 _ _ h ls (lv_sub hl [0] rfl)
    · have hM := ite_f q hM
      refine lv_aload_n C.1 C.2.1 dX11_load_28 rfl (lv_at hl 0 rfl) ?_
      refine gt_11_2 C h tx0 fl_X11_13 dX11_load_29 ?_
      obtain ⟨b_9, hb_9, hM⟩ := nb_some hM
      have tb_9 : Ty E G b_9 12 := (fun b hb => tyf h tx0 hb) _ hb_9
      refine st_ref hb_9 ?_
      refine lv_sipush (v := 2000) C.1 C.2.1 dX11_load_32 (by decide) ?_
      refine lv_aload_n C.1 C.2.1 dX11_load_35 rfl (lv_at hl 0 rfl) ?_
      refine gt_11_4 C h tx0 fl_X11_183 dX11_load_36 ?_
      refine lv_imul C.1 C.2.1 dX11_load_39 ?_
      refine lv_iload_n C.1 C.2.1 dX11_load_40 rfl (lv_at hl 1 rfl) ?_
      refine lv_iadd C.1 C.2.1 dX11_load_41 ?_
      refine lv_aload_n C.1 C.2.1 dX11_load_42 rfl (lv_at hl 0 rfl) ?_
      refine gt_11_0 C h tx0 fl_X11_7 dX11_load_43 ?_
      obtain ⟨b_10, hb_10, hM⟩ := nb_some hM
      have tb_10 : Ty E G b_10 12 := (fun b hb => tyf h tx0 hb) _ hb_10
      refine st_ref hb_10 ?_
      refine lv_iload_n C.1 C.2.1 dX11_load_46 rfl (lv_at hl 1 rfl) ?_
      obtain ⟨hi, hM⟩ := ib_some hM
      refine h_iald C h tb_10 hi dX11_load_47 ?_
      obtain ⟨hi, hM⟩ := ib_some hM
      refine h_iast C h tb_9 hi dX11_load_48 (fun H locs h => ?_)
      refine lv_iinc (v := x1 + 1) (lv' := [(1, .int (x1 + 1)), (0, .ref x0)]) C.1 C.2.1 dX11_load_49 hl (k := 1) rfl rfl (by decide) rfl (fun ls hl => ?_)
      refine lv_goto (tgt := 20) C.1 C.2.1 dX11_load_52 (by decide) ?_
      exact ih _ _ _ hM tx0 _ _ h ls (lv_sub hl [1, 0] rfl)
def M_X11_load (G : GG) (x0 : Nat) (m : MM) : Option (Int32 × MM) :=
  B_X11_load_20 G FU x0 0 (sI (sI m x0 4 (1 - (gI m x0 3))) x0 5 (gI (sI m x0 4 (1 - (gI m x0 3))) x0 1))
set_option maxRecDepth 100000 in
set_option maxHeartbeats 4000000 in
theorem cM_X11_load {p : Program} {l : Launch} {e : Env} {s : State} {mth : MethodId} {args : Array Value} {below : List Frame} {meth : Method} {c : Code} {E : EE} {G : GG} {r9 : Int32} {m9 : MM} (C : Cx E G p s mth args meth c cX11_load RX11 "load" 2 (some .int)) {x0 : Nat} {m : MM} (hM : M_X11_load G x0 m = some (r9, m9)) (tx0 : Ty E G x0 11) : ∀ (H : Heap) (locs : List Loc), Hp E G m s H locs → ∀ ls : Array Slot, lv_has ls 2 [(0, .ref x0)] → W p l e rmX11_load s mth args below meth c H locs 0 0 (MQ below (cQi E r9 G m9) args s 0 0 (fun q => E.2.2.1 ≤ q)) (F0 mth 0 ls []) := by
  intro H locs h ls hl
  unfold M_X11_load at hM
  refine lv_aload_n C.1 C.2.1 dX11_load_0 rfl (lv_at hl 0 rfl) ?_
  refine lv_iconst (v := 1) C.1 C.2.1 dX11_load_1 (by decide) ?_
  refine lv_aload_n C.1 C.2.1 dX11_load_2 rfl (lv_at hl 0 rfl) ?_
  refine gt_11_3 C h tx0 fl_X11_334 dX11_load_3 ?_
  refine lv_isub C.1 C.2.1 dX11_load_6 ?_
  refine pt_11_4 C h tx0 fl_X11_183 dX11_load_7 (fun H locs h => ?_)
  refine lv_aload_n C.1 C.2.1 dX11_load_10 rfl (lv_at hl 0 rfl) ?_
  refine lv_aload_n C.1 C.2.1 dX11_load_11 rfl (lv_at hl 0 rfl) ?_
  refine gt_11_1 C h tx0 fl_X11_171 dX11_load_12 ?_
  refine pt_11_5 C h tx0 fl_X11_180 dX11_load_15 (fun H locs h => ?_)
  refine lv_iconst (v := 0) C.1 C.2.1 dX11_load_18 (by decide) ?_
  refine lv_istore_n (lv' := [(1, .int 0), (0, .ref x0)]) C.1 C.2.1 dX11_load_19 rfl hl (by decide) rfl (fun ls hl => ?_)
  exact cB_X11_load_20 C _ _ _ _ hM tx0 _ _ h ls (lv_sub hl [1, 0] rfl)
theorem cy_X11_load : Cy yX11_load cX11_load 2 (some .int) 0 := ⟨cd_yX11_load, ii_X11, by decide, by decide, by decide +kernel⟩
set_option maxRecDepth 100000 in
theorem c_X11_load {l : Launch} {E : EE} {G : GG} {x0 : Nat} {m m9 : MM} {r9 : Int32} (hM : M_X11_load G x0 m = some (r9, m9)) (tx0 : Ty E G x0 11) : Mc l E yX11_load cX11_load 2 (some .int) rmX11_load [.ref x0] G m (cQi E r9 G m9) := M_of (by decide) (Nat.le_of_ble_eq_true rfl) (fun p e s mth below meth c C h ls hl => cM_X11_load C hM tx0 _ _ h ls hl)
abbrev rmX11_fault : Room := { frames := 0, cells := 0, slots := 0, locals := 0 }
def M_X11_fault (G : GG) (x0 : Nat) (x1 : Int32) (m : MM) : Option (Int32 × MM) :=
  if x1 = 0 then
    some (gI m x0 54, m)
  else
    if x1 = 1 then
      some (gI m x0 55, m)
    else
      some ((-1000002), m)
set_option maxRecDepth 100000 in
set_option maxHeartbeats 4000000 in
theorem cM_X11_fault {p : Program} {l : Launch} {e : Env} {s : State} {mth : MethodId} {args : Array Value} {below : List Frame} {meth : Method} {c : Code} {E : EE} {G : GG} {r9 : Int32} {m9 : MM} (C : Cx E G p s mth args meth c cX11_fault RX11 "fault" 2 (some .int)) {x0 : Nat} {x1 : Int32} {m : MM} (hM : M_X11_fault G x0 x1 m = some (r9, m9)) (tx0 : Ty E G x0 11) : ∀ (H : Heap) (locs : List Loc), Hp E G m s H locs → ∀ ls : Array Slot, lv_has ls 2 [(0, .ref x0), (1, .int x1)] → W p l e rmX11_fault s mth args below meth c H locs 0 0 (MQ below (cQi E r9 G m9) args s 0 0 (fun q => E.2.2.1 ≤ q)) (F0 mth 0 ls []) := by
  intro H locs h ls hl
  unfold M_X11_fault at hM
  refine lv_iload_n C.1 C.2.1 dX11_fault_0 rfl (lv_at hl 1 rfl) ?_
  refine lv_if_ne (tgt := 11) C.1 C.2.1 dX11_fault_1 (by decide) (fun q => ?_) (fun q => ?_)
  · have hM := ite_f q hM
    refine lv_iload_n C.1 C.2.1 dX11_fault_11 rfl (lv_at hl 1 rfl) ?_
    refine lv_iconst (v := 1) C.1 C.2.1 dX11_fault_12 (by decide) ?_
    refine lv_icmp_ne (tgt := 23) C.1 C.2.1 dX11_fault_13 (by decide) (fun q => ?_) (fun q => ?_)
    · have hM := ite_f q hM
      refine lv_ldc C.1 C.2.1 C.2.2.2.1 (C.2.2.2.2.1 _ co_X11_179) dX11_fault_23 ?_
      obtain ⟨rfl, rfl⟩ := so_inj hM
      exact h_iret C h dX11_fault_25
    · have hM := ite_t q hM
      refine lv_aload_n C.1 C.2.1 dX11_fault_16 rfl (lv_at hl 0 rfl) ?_
      refine gt_11_55 C h tx0 fl_X11_134 dX11_fault_17 ?_
      refine lv_goto (tgt := 25) C.1 C.2.1 dX11_fault_20 (by decide) ?_
      obtain ⟨rfl, rfl⟩ := so_inj hM
      exact h_iret C h dX11_fault_25
  · have hM := ite_t q hM
    refine lv_aload_n C.1 C.2.1 dX11_fault_4 rfl (lv_at hl 0 rfl) ?_
    refine gt_11_54 C h tx0 fl_X11_343 dX11_fault_5 ?_
    refine lv_goto (tgt := 25) C.1 C.2.1 dX11_fault_8 (by decide) ?_
    obtain ⟨rfl, rfl⟩ := so_inj hM
    exact h_iret C h dX11_fault_25
theorem cy_X11_fault : Cy yX11_fault cX11_fault 2 (some .int) 1 := ⟨cd_yX11_fault, ii_X11, by decide, by decide, by decide +kernel⟩
set_option maxRecDepth 100000 in
theorem c_X11_fault {l : Launch} {E : EE} {G : GG} {x0 : Nat} {x1 : Int32} {m m9 : MM} {r9 : Int32} (hM : M_X11_fault G x0 x1 m = some (r9, m9)) (tx0 : Ty E G x0 11) : Mc l E yX11_fault cX11_fault 2 (some .int) rmX11_fault [.ref x0, .int x1] G m (cQi E r9 G m9) := M_of (by decide) (Nat.le_of_ble_eq_true rfl) (fun p e s mth below meth c C h ls hl => cM_X11_fault C hM tx0 _ _ h ls hl)
abbrev rmX11_note : Room := { frames := 0, cells := 0, slots := 0, locals := 0 }
def M_X11_note (G : GG) (x0 : Nat) (x1 : Int32) (x2 : Int32) (m : MM) : Option (Unit × MM) :=
  if 200 ≤ (gI m x0 61) then
    some ((), m)
  else
    nb (gR m x0 60) fun b_1 =>
      ib (gI m x0 61) (G.2.2 b_1) <|
        some ((), sI (sI m b_1 ((gI m x0 61).toNatClampNeg) ((1000 * x1) + x2)) x0 61 ((gI (sI m b_1 ((gI m x0 61).toNatClampNeg) ((1000 * x1) + x2)) x0 61) + 1))
set_option maxRecDepth 100000 in
set_option maxHeartbeats 4000000 in
theorem cM_X11_note {p : Program} {l : Launch} {e : Env} {s : State} {mth : MethodId} {args : Array Value} {below : List Frame} {meth : Method} {c : Code} {E : EE} {G : GG} {r9 : Unit} {m9 : MM} (C : Cx E G p s mth args meth c cX11_note RX11 "note" 3 none) {x0 : Nat} {x1 : Int32} {x2 : Int32} {m : MM} (hM : M_X11_note G x0 x1 x2 m = some (r9, m9)) (tx0 : Ty E G x0 11) : ∀ (H : Heap) (locs : List Loc), Hp E G m s H locs → ∀ ls : Array Slot, lv_has ls 3 [(0, .ref x0), (1, .int x1), (2, .int x2)] → W p l e rmX11_note s mth args below meth c H locs 0 0 (MQ below (cQv E G m9) args s 0 0 (fun q => E.2.2.1 ≤ q)) (F0 mth 0 ls []) := by
  intro H locs h ls hl
  unfold M_X11_note at hM
  refine lv_aload_n C.1 C.2.1 dX11_note_0 rfl (lv_at hl 0 rfl) ?_
  refine gt_11_61 C h tx0 fl_X11_346 dX11_note_1 ?_
  refine lv_sipush (v := 200) C.1 C.2.1 dX11_note_4 (by decide) ?_
  refine lv_icmp_ge (tgt := 36) C.1 C.2.1 dX11_note_7 (by decide) (fun q => ?_) (fun q => ?_)
  · have hM := ite_t q hM
    obtain ⟨rfl, rfl⟩ := so_inj hM
    exact h_vret C h dX11_note_36
  · have hM := ite_f q hM
    refine lv_aload_n C.1 C.2.1 dX11_note_10 rfl (lv_at hl 0 rfl) ?_
    refine gt_11_60 C h tx0 fl_X11_150 dX11_note_11 ?_
    obtain ⟨b_1, hb_1, hM⟩ := nb_some hM
    have tb_1 : Ty E G b_1 12 := (fun b hb => tyf h tx0 hb) _ hb_1
    refine st_ref hb_1 ?_
    refine lv_aload_n C.1 C.2.1 dX11_note_14 rfl (lv_at hl 0 rfl) ?_
    refine gt_11_61 C h tx0 fl_X11_346 dX11_note_15 ?_
    refine lv_sipush (v := 1000) C.1 C.2.1 dX11_note_18 (by decide) ?_
    refine lv_iload_n C.1 C.2.1 dX11_note_21 rfl (lv_at hl 1 rfl) ?_
    refine lv_imul C.1 C.2.1 dX11_note_22 ?_
    refine lv_iload_n C.1 C.2.1 dX11_note_23 rfl (lv_at hl 2 rfl) ?_
    refine lv_iadd C.1 C.2.1 dX11_note_24 ?_
    obtain ⟨hi, hM⟩ := ib_some hM
    refine h_iast C h tb_1 hi dX11_note_25 (fun H locs h => ?_)
    refine lv_aload_n C.1 C.2.1 dX11_note_26 rfl (lv_at hl 0 rfl) ?_
    refine lv_dup C.1 C.2.1 dX11_note_27 rfl ?_
    refine gt_11_61 C h tx0 fl_X11_346 dX11_note_28 ?_
    refine lv_iconst (v := 1) C.1 C.2.1 dX11_note_31 (by decide) ?_
    refine lv_iadd C.1 C.2.1 dX11_note_32 ?_
    refine pt_11_61 C h tx0 fl_X11_346 dX11_note_33 (fun H locs h => ?_)
    obtain ⟨rfl, rfl⟩ := so_inj hM
    exact h_vret C h dX11_note_36
theorem cy_X11_note : Cy yX11_note cX11_note 3 none 2 := ⟨cd_yX11_note, ii_X11, by decide, by decide, by decide +kernel⟩
set_option maxRecDepth 100000 in
theorem c_X11_note {l : Launch} {E : EE} {G : GG} {x0 : Nat} {x1 : Int32} {x2 : Int32} {m m9 : MM} {r9 : Unit} (hM : M_X11_note G x0 x1 x2 m = some (r9, m9)) (tx0 : Ty E G x0 11) : Mc l E yX11_note cX11_note 3 none rmX11_note [.ref x0, .int x1, .int x2] G m (cQv E G m9) := M_of (by decide) (Nat.le_of_ble_eq_true rfl) (fun p e s mth below meth c C h ls hl => cM_X11_note C hM tx0 _ _ h ls hl)
abbrev rmX11_pushFrame : Room := { frames := 0, cells := 0, slots := 0, locals := 0 }
def M_X11_pushFrame (G : GG) (x0 : Nat) (x1 : Int32) (x2 : Int32) (x3 : Int32) (x4 : Int32) (m : MM) : Option (Unit × MM) :=
  nb (gR m x0 65) fun b_1 =>
    ib (gI m x0 64) (G.2.2 b_1) <|
      nb (gR (sI m b_1 ((gI m x0 64).toNatClampNeg) x1) x0 66) fun b_2 =>
        ib (gI (sI m b_1 ((gI m x0 64).toNatClampNeg) x1) x0 64) (G.2.2 b_2) <|
          nb (gR (sI (sI m b_1 ((gI m x0 64).toNatClampNeg) x1) b_2 ((gI (sI m b_1 ((gI m x0 64).toNatClampNeg) x1) x0 64).toNatClampNeg) x2) x0 67) fun b_3 =>
            ib (gI (sI (sI m b_1 ((gI m x0 64).toNatClampNeg) x1) b_2 ((gI (sI m b_1 ((gI m x0 64).toNatClampNeg) x1) x0 64).toNatClampNeg) x2) x0 64) (G.2.2 b_3) <|
              nb (gR (sI (sI (sI m b_1 ((gI m x0 64).toNatClampNeg) x1) b_2 ((gI (sI m b_1 ((gI m x0 64).toNatClampNeg) x1) x0 64).toNatClampNeg) x2) b_3 ((gI (sI (sI m b_1 ((gI m x0 64).toNatClampNeg) x1) b_2 ((gI (sI m b_1 ((gI m x0 64).toNatClampNeg) x1) x0 64).toNatClampNeg) x2) x0 64).toNatClampNeg) x3) x0 68) fun b_4 =>
                ib (gI (sI (sI (sI m b_1 ((gI m x0 64).toNatClampNeg) x1) b_2 ((gI (sI m b_1 ((gI m x0 64).toNatClampNeg) x1) x0 64).toNatClampNeg) x2) b_3 ((gI (sI (sI m b_1 ((gI m x0 64).toNatClampNeg) x1) b_2 ((gI (sI m b_1 ((gI m x0 64).toNatClampNeg) x1) x0 64).toNatClampNeg) x2) x0 64).toNatClampNeg) x3) x0 64) (G.2.2 b_4) <|
                  some ((), sI (sI (sI (sI (sI m b_1 ((gI m x0 64).toNatClampNeg) x1) b_2 ((gI (sI m b_1 ((gI m x0 64).toNatClampNeg) x1) x0 64).toNatClampNeg) x2) b_3 ((gI (sI (sI m b_1 ((gI m x0 64).toNatClampNeg) x1) b_2 ((gI (sI m b_1 ((gI m x0 64).toNatClampNeg) x1) x0 64).toNatClampNeg) x2) x0 64).toNatClampNeg) x3) b_4 ((gI (sI (sI (sI m b_1 ((gI m x0 64).toNatClampNeg) x1) b_2 ((gI (sI m b_1 ((gI m x0 64).toNatClampNeg) x1) x0 64).toNatClampNeg) x2) b_3 ((gI (sI (sI m b_1 ((gI m x0 64).toNatClampNeg) x1) b_2 ((gI (sI m b_1 ((gI m x0 64).toNatClampNeg) x1) x0 64).toNatClampNeg) x2) x0 64).toNatClampNeg) x3) x0 64).toNatClampNeg) x4) x0 64 ((gI (sI (sI (sI (sI m b_1 ((gI m x0 64).toNatClampNeg) x1) b_2 ((gI (sI m b_1 ((gI m x0 64).toNatClampNeg) x1) x0 64).toNatClampNeg) x2) b_3 ((gI (sI (sI m b_1 ((gI m x0 64).toNatClampNeg) x1) b_2 ((gI (sI m b_1 ((gI m x0 64).toNatClampNeg) x1) x0 64).toNatClampNeg) x2) x0 64).toNatClampNeg) x3) b_4 ((gI (sI (sI (sI m b_1 ((gI m x0 64).toNatClampNeg) x1) b_2 ((gI (sI m b_1 ((gI m x0 64).toNatClampNeg) x1) x0 64).toNatClampNeg) x2) b_3 ((gI (sI (sI m b_1 ((gI m x0 64).toNatClampNeg) x1) b_2 ((gI (sI m b_1 ((gI m x0 64).toNatClampNeg) x1) x0 64).toNatClampNeg) x2) x0 64).toNatClampNeg) x3) x0 64).toNatClampNeg) x4) x0 64) + 1))
set_option maxRecDepth 100000 in
set_option maxHeartbeats 4000000 in
theorem cM_X11_pushFrame {p : Program} {l : Launch} {e : Env} {s : State} {mth : MethodId} {args : Array Value} {below : List Frame} {meth : Method} {c : Code} {E : EE} {G : GG} {r9 : Unit} {m9 : MM} (C : Cx E G p s mth args meth c cX11_pushFrame RX11 "pushFrame" 5 none) {x0 : Nat} {x1 : Int32} {x2 : Int32} {x3 : Int32} {x4 : Int32} {m : MM} (hM : M_X11_pushFrame G x0 x1 x2 x3 x4 m = some (r9, m9)) (tx0 : Ty E G x0 11) : ∀ (H : Heap) (locs : List Loc), Hp E G m s H locs → ∀ ls : Array Slot, lv_has ls 5 [(0, .ref x0), (1, .int x1), (2, .int x2), (3, .int x3), (4, .int x4)] → W p l e rmX11_pushFrame s mth args below meth c H locs 0 0 (MQ below (cQv E G m9) args s 0 0 (fun q => E.2.2.1 ≤ q)) (F0 mth 0 ls []) := by
  intro H locs h ls hl
  unfold M_X11_pushFrame at hM
  refine lv_aload_n C.1 C.2.1 dX11_pushFrame_0 rfl (lv_at hl 0 rfl) ?_
  refine gt_11_65 C h tx0 fl_X11_153 dX11_pushFrame_1 ?_
  obtain ⟨b_1, hb_1, hM⟩ := nb_some hM
  have tb_1 : Ty E G b_1 12 := (fun b hb => tyf h tx0 hb) _ hb_1
  refine st_ref hb_1 ?_
  refine lv_aload_n C.1 C.2.1 dX11_pushFrame_4 rfl (lv_at hl 0 rfl) ?_
  refine gt_11_64 C h tx0 fl_X11_352 dX11_pushFrame_5 ?_
  refine lv_iload_n C.1 C.2.1 dX11_pushFrame_8 rfl (lv_at hl 1 rfl) ?_
  obtain ⟨hi, hM⟩ := ib_some hM
  refine h_iast C h tb_1 hi dX11_pushFrame_9 (fun H locs h => ?_)
  refine lv_aload_n C.1 C.2.1 dX11_pushFrame_10 rfl (lv_at hl 0 rfl) ?_
  refine gt_11_66 C h tx0 fl_X11_156 dX11_pushFrame_11 ?_
  obtain ⟨b_2, hb_2, hM⟩ := nb_some hM
  have tb_2 : Ty E G b_2 12 := (fun b hb => tyf h tx0 hb) _ hb_2
  refine st_ref hb_2 ?_
  refine lv_aload_n C.1 C.2.1 dX11_pushFrame_14 rfl (lv_at hl 0 rfl) ?_
  refine gt_11_64 C h tx0 fl_X11_352 dX11_pushFrame_15 ?_
  refine lv_iload_n C.1 C.2.1 dX11_pushFrame_18 rfl (lv_at hl 2 rfl) ?_
  obtain ⟨hi, hM⟩ := ib_some hM
  refine h_iast C h tb_2 hi dX11_pushFrame_19 (fun H locs h => ?_)
  refine lv_aload_n C.1 C.2.1 dX11_pushFrame_20 rfl (lv_at hl 0 rfl) ?_
  refine gt_11_67 C h tx0 fl_X11_159 dX11_pushFrame_21 ?_
  obtain ⟨b_3, hb_3, hM⟩ := nb_some hM
  have tb_3 : Ty E G b_3 12 := (fun b hb => tyf h tx0 hb) _ hb_3
  refine st_ref hb_3 ?_
  refine lv_aload_n C.1 C.2.1 dX11_pushFrame_24 rfl (lv_at hl 0 rfl) ?_
  refine gt_11_64 C h tx0 fl_X11_352 dX11_pushFrame_25 ?_
  refine lv_iload_n C.1 C.2.1 dX11_pushFrame_28 rfl (lv_at hl 3 rfl) ?_
  obtain ⟨hi, hM⟩ := ib_some hM
  refine h_iast C h tb_3 hi dX11_pushFrame_29 (fun H locs h => ?_)
  refine lv_aload_n C.1 C.2.1 dX11_pushFrame_30 rfl (lv_at hl 0 rfl) ?_
  refine gt_11_68 C h tx0 fl_X11_162 dX11_pushFrame_31 ?_
  obtain ⟨b_4, hb_4, hM⟩ := nb_some hM
  have tb_4 : Ty E G b_4 12 := (fun b hb => tyf h tx0 hb) _ hb_4
  refine st_ref hb_4 ?_
  refine lv_aload_n C.1 C.2.1 dX11_pushFrame_34 rfl (lv_at hl 0 rfl) ?_
  refine gt_11_64 C h tx0 fl_X11_352 dX11_pushFrame_35 ?_
  refine lv_iload C.1 C.2.1 dX11_pushFrame_38 (lv_at hl 4 rfl) ?_
  obtain ⟨hi, hM⟩ := ib_some hM
  refine h_iast C h tb_4 hi dX11_pushFrame_40 (fun H locs h => ?_)
  refine lv_aload_n C.1 C.2.1 dX11_pushFrame_41 rfl (lv_at hl 0 rfl) ?_
  refine lv_dup C.1 C.2.1 dX11_pushFrame_42 rfl ?_
  refine gt_11_64 C h tx0 fl_X11_352 dX11_pushFrame_43 ?_
  refine lv_iconst (v := 1) C.1 C.2.1 dX11_pushFrame_46 (by decide) ?_
  refine lv_iadd C.1 C.2.1 dX11_pushFrame_47 ?_
  refine pt_11_64 C h tx0 fl_X11_352 dX11_pushFrame_48 (fun H locs h => ?_)
  obtain ⟨rfl, rfl⟩ := so_inj hM
  exact h_vret C h dX11_pushFrame_51
theorem cy_X11_pushFrame : Cy yX11_pushFrame cX11_pushFrame 5 none 4 := ⟨cd_yX11_pushFrame, ii_X11, by decide, by decide, by decide +kernel⟩
set_option maxRecDepth 100000 in
theorem c_X11_pushFrame {l : Launch} {E : EE} {G : GG} {x0 : Nat} {x1 : Int32} {x2 : Int32} {x3 : Int32} {x4 : Int32} {m m9 : MM} {r9 : Unit} (hM : M_X11_pushFrame G x0 x1 x2 x3 x4 m = some (r9, m9)) (tx0 : Ty E G x0 11) : Mc l E yX11_pushFrame cX11_pushFrame 5 none rmX11_pushFrame [.ref x0, .int x1, .int x2, .int x3, .int x4] G m (cQv E G m9) := M_of (by decide) (Nat.le_of_ble_eq_true rfl) (fun p e s mth below meth c C h ls hl => cM_X11_pushFrame C hM tx0 _ _ h ls hl)
abbrev rmX11_begin : Room := { frames := 1, cells := 0, slots := 0, locals := 24 }
def M_X11_begin (G : GG) (x0 : Nat) (x1 : Int32) (m : MM) : Option (Unit × MM) :=
  nb (gR m x0 56) fun b_1 =>
    ib x1 (G.2.2 b_1) <|
      nb (gR (sI m b_1 x1.toNatClampNeg 3) x0 59) fun b_2 =>
        ib x1 (G.2.2 b_2) <|
          bd (M_X11_note G x0 x1 0 (sI (sI m b_1 x1.toNatClampNeg 3) b_2 x1.toNatClampNeg 0)) fun _ m_4 =>
            bd (M_X11_pushFrame G x0 x1 0 (-1) 0 m_4) fun _ m_6 =>
              some ((), m_6)
set_option maxRecDepth 100000 in
set_option maxHeartbeats 4000000 in
theorem cM_X11_begin {p : Program} {l : Launch} {e : Env} {s : State} {mth : MethodId} {args : Array Value} {below : List Frame} {meth : Method} {c : Code} {E : EE} {G : GG} {r9 : Unit} {m9 : MM} (C : Cx E G p s mth args meth c cX11_begin RX11 "begin" 2 none) {x0 : Nat} {x1 : Int32} {m : MM} (hM : M_X11_begin G x0 x1 m = some (r9, m9)) (tx0 : Ty E G x0 11) : ∀ (H : Heap) (locs : List Loc), Hp E G m s H locs → ∀ ls : Array Slot, lv_has ls 2 [(0, .ref x0), (1, .int x1)] → W p l e rmX11_begin s mth args below meth c H locs 0 0 (MQ below (cQv E G m9) args s 0 0 (fun q => E.2.2.1 ≤ q)) (F0 mth 0 ls []) := by
  intro H locs h ls hl
  unfold M_X11_begin at hM
  refine lv_aload_n C.1 C.2.1 dX11_begin_0 rfl (lv_at hl 0 rfl) ?_
  refine gt_11_56 C h tx0 fl_X11_138 dX11_begin_1 ?_
  obtain ⟨b_1, hb_1, hM⟩ := nb_some hM
  have tb_1 : Ty E G b_1 12 := (fun b hb => tyf h tx0 hb) _ hb_1
  refine st_ref hb_1 ?_
  refine lv_iload_n C.1 C.2.1 dX11_begin_4 rfl (lv_at hl 1 rfl) ?_
  refine lv_iconst (v := 3) C.1 C.2.1 dX11_begin_5 (by decide) ?_
  obtain ⟨hi, hM⟩ := ib_some hM
  refine h_iast C h tb_1 hi dX11_begin_6 (fun H locs h => ?_)
  refine lv_aload_n C.1 C.2.1 dX11_begin_7 rfl (lv_at hl 0 rfl) ?_
  refine gt_11_59 C h tx0 fl_X11_147 dX11_begin_8 ?_
  obtain ⟨b_2, hb_2, hM⟩ := nb_some hM
  have tb_2 : Ty E G b_2 12 := (fun b hb => tyf h tx0 hb) _ hb_2
  refine st_ref hb_2 ?_
  refine lv_iload_n C.1 C.2.1 dX11_begin_11 rfl (lv_at hl 1 rfl) ?_
  refine lv_iconst (v := 0) C.1 C.2.1 dX11_begin_12 (by decide) ?_
  obtain ⟨hi, hM⟩ := ib_some hM
  refine h_iast C h tb_2 hi dX11_begin_13 (fun H locs h => ?_)
  refine lv_aload_n C.1 C.2.1 dX11_begin_14 rfl (lv_at hl 0 rfl) ?_
  refine lv_iload_n C.1 C.2.1 dX11_begin_15 rfl (lv_at hl 1 rfl) ?_
  refine lv_iconst (v := 0) C.1 C.2.1 dX11_begin_16 (by decide) ?_
  obtain ⟨r_3, m_4, hc_3, hM⟩ := bd_some hM
  refine h_callVv C h (As := [.int x1, .int 0]) (rest := []) m_4 (c_X11_note hc_3 tx0) 11 rfl (by decide) tx0 im_yX11_note se_yX11_note cy_X11_note rfl ml_X11_355 ⟨by decide, by decide⟩ ⟨Nat.zero_le _, Nat.zero_le _⟩ hl.1 rfl (Nat.le_of_ble_eq_true rfl) dX11_begin_17 (fun H locs h => ?_)
  refine lv_aload_n C.1 C.2.1 dX11_begin_20 rfl (lv_at hl 0 rfl) ?_
  refine lv_iload_n C.1 C.2.1 dX11_begin_21 rfl (lv_at hl 1 rfl) ?_
  refine lv_iconst (v := 0) C.1 C.2.1 dX11_begin_22 (by decide) ?_
  refine lv_iconst (v := (-1)) C.1 C.2.1 dX11_begin_23 (by decide) ?_
  refine lv_iconst (v := 0) C.1 C.2.1 dX11_begin_24 (by decide) ?_
  obtain ⟨r_5, m_6, hc_5, hM⟩ := bd_some hM
  refine h_callVv C h (As := [.int x1, .int 0, .int (-1), .int 0]) (rest := []) m_6 (c_X11_pushFrame hc_5 tx0) 11 rfl (by decide) tx0 im_yX11_pushFrame se_yX11_pushFrame cy_X11_pushFrame rfl ml_X11_358 ⟨by decide, by decide⟩ ⟨Nat.zero_le _, Nat.zero_le _⟩ hl.1 rfl (Nat.le_of_ble_eq_true rfl) dX11_begin_25 (fun H locs h => ?_)
  obtain ⟨rfl, rfl⟩ := so_inj hM
  exact h_vret C h dX11_begin_28
theorem cy_X11_begin : Cy yX11_begin cX11_begin 2 none 1 := ⟨cd_yX11_begin, ii_X11, by decide, by decide, by decide +kernel⟩
set_option maxRecDepth 100000 in
theorem c_X11_begin {l : Launch} {E : EE} {G : GG} {x0 : Nat} {x1 : Int32} {m m9 : MM} {r9 : Unit} (hM : M_X11_begin G x0 x1 m = some (r9, m9)) (tx0 : Ty E G x0 11) : Mc l E yX11_begin cX11_begin 2 none rmX11_begin [.ref x0, .int x1] G m (cQv E G m9) := M_of (by decide) (Nat.le_of_ble_eq_true rfl) (fun p e s mth below meth c C h ls hl => cM_X11_begin C hM tx0 _ _ h ls hl)
abbrev rmX11_fails : Room := { frames := 1, cells := 0, slots := 0, locals := 22 }
def B_X11_fails_15 (G : GG) : Nat → Nat → MM → Option (Unit × MM)
  | 0, _, _ => none
  | fu + 1, x0, m =>
    if (gI m x0 64) ≤ 0 then
      some ((), sI m x0 70 0)
    else
      nb (gR (sI m x0 64 ((gI m x0 64) - 1)) x0 67) fun b_1 =>
        ib (gI (sI m x0 64 ((gI m x0 64) - 1)) x0 64) (G.2.2 b_1) <|
          if 0 ≤ (gI (sI m x0 64 ((gI m x0 64) - 1)) b_1 ((gI (sI m x0 64 ((gI m x0 64) - 1)) x0 64).toNatClampNeg)) then
            B_X11_fails_15 G fu x0 (sI m x0 64 ((gI m x0 64) - 1))
          else
            nb (gR (sI m x0 64 ((gI m x0 64) - 1)) x0 56) fun b_2 =>
              nb (gR (sI m x0 64 ((gI m x0 64) - 1)) x0 65) fun b_3 =>
                ib (gI (sI m x0 64 ((gI m x0 64) - 1)) x0 64) (G.2.2 b_3) <|
                  ib (gI (sI m x0 64 ((gI m x0 64) - 1)) b_3 ((gI (sI m x0 64 ((gI m x0 64) - 1)) x0 64).toNatClampNeg)) (G.2.2 b_2) <|
                    nb (gR (sI (sI m x0 64 ((gI m x0 64) - 1)) b_2 ((gI (sI m x0 64 ((gI m x0 64) - 1)) b_3 ((gI (sI m x0 64 ((gI m x0 64) - 1)) x0 64).toNatClampNeg)).toNatClampNeg) 2) x0 65) fun b_4 =>
                      ib (gI (sI (sI m x0 64 ((gI m x0 64) - 1)) b_2 ((gI (sI m x0 64 ((gI m x0 64) - 1)) b_3 ((gI (sI m x0 64 ((gI m x0 64) - 1)) x0 64).toNatClampNeg)).toNatClampNeg) 2) x0 64) (G.2.2 b_4) <|
                        bd (M_X11_note G x0 (gI (sI (sI m x0 64 ((gI m x0 64) - 1)) b_2 ((gI (sI m x0 64 ((gI m x0 64) - 1)) b_3 ((gI (sI m x0 64 ((gI m x0 64) - 1)) x0 64).toNatClampNeg)).toNatClampNeg) 2) b_4 ((gI (sI (sI m x0 64 ((gI m x0 64) - 1)) b_2 ((gI (sI m x0 64 ((gI m x0 64) - 1)) b_3 ((gI (sI m x0 64 ((gI m x0 64) - 1)) x0 64).toNatClampNeg)).toNatClampNeg) 2) x0 64).toNatClampNeg)) 200 (sI (sI m x0 64 ((gI m x0 64) - 1)) b_2 ((gI (sI m x0 64 ((gI m x0 64) - 1)) b_3 ((gI (sI m x0 64 ((gI m x0 64) - 1)) x0 64).toNatClampNeg)).toNatClampNeg) 2)) fun _ m_6 =>
                          B_X11_fails_15 G fu x0 m_6
set_option maxRecDepth 100000 in
set_option maxHeartbeats 4000000 in
theorem cB_X11_fails_15 {p : Program} {l : Launch} {e : Env} {s : State} {mth : MethodId} {args : Array Value} {below : List Frame} {meth : Method} {c : Code} {E : EE} {G : GG} {r9 : Unit} {m9 : MM} (C : Cx E G p s mth args meth c cX11_fails RX11 "fails" 2 none) : ∀ (fu : Nat) (x0 : Nat) (m : MM), B_X11_fails_15 G fu x0 m = some (r9, m9) → (Ty E G x0 11) → ∀ (H : Heap) (locs : List Loc), Hp E G m s H locs → ∀ ls : Array Slot, lv_has ls 2 [(0, .ref x0)] → W p l e rmX11_fails s mth args below meth c H locs 0 0 (MQ below (cQv E G m9) args s 0 0 (fun q => E.2.2.1 ≤ q)) (F0 mth 15 ls []) := by
  intro fu
  induction fu with
  | zero =>
    intro x0 m hM
    rw [B_X11_fails_15] at hM
    cases hM
  | succ fu ih =>
    intro x0 m hM tx0 H locs h ls hl
    rw [B_X11_fails_15] at hM
    refine lv_aload_n C.1 C.2.1 dX11_fails_15 rfl (lv_at hl 0 rfl) ?_
    refine gt_11_64 C h tx0 fl_X11_352 dX11_fails_16 ?_
    refine lv_if_le (tgt := 78) C.1 C.2.1 dX11_fails_19 (by decide) (fun q => ?_) (fun q => ?_)
    · have hM := ite_t q hM
      refine lv_aload_n C.1 C.2.1 dX11_fails_78 rfl (lv_at hl 0 rfl) ?_
      refine lv_iconst (v := 0) C.1 C.2.1 dX11_fails_79 (by decide) ?_
      refine pt_11_70 C h tx0 fl_X11_368 dX11_fails_80 (fun H locs h => ?_)
      obtain ⟨rfl, rfl⟩ := so_inj hM
      exact h_vret C h dX11_fails_83
    · have hM := ite_f q hM
      refine lv_aload_n C.1 C.2.1 dX11_fails_22 rfl (lv_at hl 0 rfl) ?_
      refine lv_dup C.1 C.2.1 dX11_fails_23 rfl ?_
      refine gt_11_64 C h tx0 fl_X11_352 dX11_fails_24 ?_
      refine lv_iconst (v := 1) C.1 C.2.1 dX11_fails_27 (by decide) ?_
      refine lv_isub C.1 C.2.1 dX11_fails_28 ?_
      refine pt_11_64 C h tx0 fl_X11_352 dX11_fails_29 (fun H locs h => ?_)
      refine lv_aload_n C.1 C.2.1 dX11_fails_32 rfl (lv_at hl 0 rfl) ?_
      refine gt_11_67 C h tx0 fl_X11_159 dX11_fails_33 ?_
      obtain ⟨b_1, hb_1, hM⟩ := nb_some hM
      have tb_1 : Ty E G b_1 12 := (fun b hb => tyf h tx0 hb) _ hb_1
      refine st_ref hb_1 ?_
      refine lv_aload_n C.1 C.2.1 dX11_fails_36 rfl (lv_at hl 0 rfl) ?_
      refine gt_11_64 C h tx0 fl_X11_352 dX11_fails_37 ?_
      obtain ⟨hi, hM⟩ := ib_some hM
      refine h_iald C h tb_1 hi dX11_fails_40 ?_
      refine lv_if_ge (tgt := 15) C.1 C.2.1 dX11_fails_41 (by decide) (fun q => ?_) (fun q => ?_)
      · have hM := ite_t q hM
        exact ih _ _ hM tx0 _ _ h ls (lv_sub hl [0] rfl)
      · have hM := ite_f q hM
        refine lv_aload_n C.1 C.2.1 dX11_fails_44 rfl (lv_at hl 0 rfl) ?_
        refine gt_11_56 C h tx0 fl_X11_138 dX11_fails_45 ?_
        obtain ⟨b_2, hb_2, hM⟩ := nb_some hM
        have tb_2 : Ty E G b_2 12 := (fun b hb => tyf h tx0 hb) _ hb_2
        refine st_ref hb_2 ?_
        refine lv_aload_n C.1 C.2.1 dX11_fails_48 rfl (lv_at hl 0 rfl) ?_
        refine gt_11_65 C h tx0 fl_X11_153 dX11_fails_49 ?_
        obtain ⟨b_3, hb_3, hM⟩ := nb_some hM
        have tb_3 : Ty E G b_3 12 := (fun b hb => tyf h tx0 hb) _ hb_3
        refine st_ref hb_3 ?_
        refine lv_aload_n C.1 C.2.1 dX11_fails_52 rfl (lv_at hl 0 rfl) ?_
        refine gt_11_64 C h tx0 fl_X11_352 dX11_fails_53 ?_
        obtain ⟨hi, hM⟩ := ib_some hM
        refine h_iald C h tb_3 hi dX11_fails_56 ?_
        refine lv_iconst (v := 2) C.1 C.2.1 dX11_fails_57 (by decide) ?_
        obtain ⟨hi, hM⟩ := ib_some hM
        refine h_iast C h tb_2 hi dX11_fails_58 (fun H locs h => ?_)
        refine lv_aload_n C.1 C.2.1 dX11_fails_59 rfl (lv_at hl 0 rfl) ?_
        refine lv_aload_n C.1 C.2.1 dX11_fails_60 rfl (lv_at hl 0 rfl) ?_
        refine gt_11_65 C h tx0 fl_X11_153 dX11_fails_61 ?_
        obtain ⟨b_4, hb_4, hM⟩ := nb_some hM
        have tb_4 : Ty E G b_4 12 := (fun b hb => tyf h tx0 hb) _ hb_4
        refine st_ref hb_4 ?_
        refine lv_aload_n C.1 C.2.1 dX11_fails_64 rfl (lv_at hl 0 rfl) ?_
        refine gt_11_64 C h tx0 fl_X11_352 dX11_fails_65 ?_
        obtain ⟨hi, hM⟩ := ib_some hM
        refine h_iald C h tb_4 hi dX11_fails_68 ?_
        refine lv_sipush (v := 200) C.1 C.2.1 dX11_fails_69 (by decide) ?_
        obtain ⟨r_5, m_6, hc_5, hM⟩ := bd_some hM
        refine h_callVv C h (As := [.int (gI (sI (sI m x0 64 ((gI m x0 64) - 1)) b_2 ((gI (sI m x0 64 ((gI m x0 64) - 1)) b_3 ((gI (sI m x0 64 ((gI m x0 64) - 1)) x0 64).toNatClampNeg)).toNatClampNeg) 2) b_4 ((gI (sI (sI m x0 64 ((gI m x0 64) - 1)) b_2 ((gI (sI m x0 64 ((gI m x0 64) - 1)) b_3 ((gI (sI m x0 64 ((gI m x0 64) - 1)) x0 64).toNatClampNeg)).toNatClampNeg) 2) x0 64).toNatClampNeg)), .int 200]) (rest := []) m_6 (c_X11_note hc_5 tx0) 11 rfl (by decide) tx0 im_yX11_note se_yX11_note cy_X11_note rfl ml_X11_355 ⟨by decide, by decide⟩ ⟨Nat.zero_le _, Nat.zero_le _⟩ hl.1 rfl (Nat.le_of_ble_eq_true rfl) dX11_fails_72 (fun H locs h => ?_)
        refine lv_goto (tgt := 15) C.1 C.2.1 dX11_fails_75 (by decide) ?_
        exact ih _ _ hM tx0 _ _ h ls (lv_sub hl [0] rfl)
def M_X11_fails (G : GG) (x0 : Nat) (x1 : Int32) (m : MM) : Option (Unit × MM) :=
  B_X11_fails_15 G FU x0 (sI (sI m x0 62 x1) x0 63 ((gI (sI m x0 62 x1) x0 63) + 1))
set_option maxRecDepth 100000 in
set_option maxHeartbeats 4000000 in
theorem cM_X11_fails {p : Program} {l : Launch} {e : Env} {s : State} {mth : MethodId} {args : Array Value} {below : List Frame} {meth : Method} {c : Code} {E : EE} {G : GG} {r9 : Unit} {m9 : MM} (C : Cx E G p s mth args meth c cX11_fails RX11 "fails" 2 none) {x0 : Nat} {x1 : Int32} {m : MM} (hM : M_X11_fails G x0 x1 m = some (r9, m9)) (tx0 : Ty E G x0 11) : ∀ (H : Heap) (locs : List Loc), Hp E G m s H locs → ∀ ls : Array Slot, lv_has ls 2 [(0, .ref x0), (1, .int x1)] → W p l e rmX11_fails s mth args below meth c H locs 0 0 (MQ below (cQv E G m9) args s 0 0 (fun q => E.2.2.1 ≤ q)) (F0 mth 0 ls []) := by
  intro H locs h ls hl
  unfold M_X11_fails at hM
  refine lv_aload_n C.1 C.2.1 dX11_fails_0 rfl (lv_at hl 0 rfl) ?_
  refine lv_iload_n C.1 C.2.1 dX11_fails_1 rfl (lv_at hl 1 rfl) ?_
  refine pt_11_62 C h tx0 fl_X11_362 dX11_fails_2 (fun H locs h => ?_)
  refine lv_aload_n C.1 C.2.1 dX11_fails_5 rfl (lv_at hl 0 rfl) ?_
  refine lv_dup C.1 C.2.1 dX11_fails_6 rfl ?_
  refine gt_11_63 C h tx0 fl_X11_365 dX11_fails_7 ?_
  refine lv_iconst (v := 1) C.1 C.2.1 dX11_fails_10 (by decide) ?_
  refine lv_iadd C.1 C.2.1 dX11_fails_11 ?_
  refine pt_11_63 C h tx0 fl_X11_365 dX11_fails_12 (fun H locs h => ?_)
  exact cB_X11_fails_15 C _ _ _ hM tx0 _ _ h ls (lv_sub hl [0] rfl)
theorem cy_X11_fails : Cy yX11_fails cX11_fails 2 none 1 := ⟨cd_yX11_fails, ii_X11, by decide, by decide, by decide +kernel⟩
set_option maxRecDepth 100000 in
theorem c_X11_fails {l : Launch} {E : EE} {G : GG} {x0 : Nat} {x1 : Int32} {m m9 : MM} {r9 : Unit} (hM : M_X11_fails G x0 x1 m = some (r9, m9)) (tx0 : Ty E G x0 11) : Mc l E yX11_fails cX11_fails 2 none rmX11_fails [.ref x0, .int x1] G m (cQv E G m9) := M_of (by decide) (Nat.le_of_ble_eq_true rfl) (fun p e s mth below meth c C h ls hl => cM_X11_fails C hM tx0 _ _ h ls hl)
abbrev rmX11_made : Room := { frames := 1, cells := 0, slots := 0, locals := 22 }
def M_X11_made (G : GG) (x0 : Nat) (x1 : Int32) (x2 : Int32) (m : MM) : Option (Unit × MM) :=
  nb (gR m x0 9) fun b_1 =>
    ib ((8 * (gI m x0 3)) + x1) (G.2.2 b_1) <|
      nb (gR m x0 59) fun b_2 =>
        ib x1 (G.2.2 b_2) <|
          if (gI m b_1 (((8 * (gI m x0 3)) + x1).toNatClampNeg)) ≤ (gI m b_2 x1.toNatClampNeg) then
            nb (gR m x0 58) fun b_3 =>
              ib x1 (G.2.2 b_2) <|
                ib (((6 * x1) + (gI m b_2 x1.toNatClampNeg)) - (gI m b_1 (((8 * (gI m x0 3)) + x1).toNatClampNeg))) (G.2.2 b_3) <|
                  nb (gR (sI m b_3 ((((6 * x1) + (gI m b_2 x1.toNatClampNeg)) - (gI m b_1 (((8 * (gI m x0 3)) + x1).toNatClampNeg))).toNatClampNeg) x2) x0 59) fun b_4 =>
                    ib x1 (G.2.2 b_4) <|
                      ib x1 (G.2.2 b_4) <|
                        some ((), sI (sI m b_3 ((((6 * x1) + (gI m b_2 x1.toNatClampNeg)) - (gI m b_1 (((8 * (gI m x0 3)) + x1).toNatClampNeg))).toNatClampNeg) x2) b_4 x1.toNatClampNeg ((gI (sI m b_3 ((((6 * x1) + (gI m b_2 x1.toNatClampNeg)) - (gI m b_1 (((8 * (gI m x0 3)) + x1).toNatClampNeg))).toNatClampNeg) x2) b_4 x1.toNatClampNeg) + 1))
          else
            nb (gR m x0 57) fun b_5 =>
              ib x1 (G.2.2 b_2) <|
                ib ((12 * x1) + (gI m b_2 x1.toNatClampNeg)) (G.2.2 b_5) <|
                  nb (gR (sI m b_5 (((12 * x1) + (gI m b_2 x1.toNatClampNeg)).toNatClampNeg) x2) x0 59) fun b_6 =>
                    ib x1 (G.2.2 b_6) <|
                      bd (M_X11_note G x0 x1 (1 + (gI (sI m b_5 (((12 * x1) + (gI m b_2 x1.toNatClampNeg)).toNatClampNeg) x2) b_6 x1.toNatClampNeg)) (sI m b_5 (((12 * x1) + (gI m b_2 x1.toNatClampNeg)).toNatClampNeg) x2)) fun _ m_8 =>
                        nb (gR m_8 x0 59) fun b_9 =>
                          ib x1 (G.2.2 b_9) <|
                            ib x1 (G.2.2 b_9) <|
                              some ((), sI m_8 b_9 x1.toNatClampNeg ((gI m_8 b_9 x1.toNatClampNeg) + 1))
set_option maxRecDepth 100000 in
set_option maxHeartbeats 4000000 in
theorem cM_X11_made {p : Program} {l : Launch} {e : Env} {s : State} {mth : MethodId} {args : Array Value} {below : List Frame} {meth : Method} {c : Code} {E : EE} {G : GG} {r9 : Unit} {m9 : MM} (C : Cx E G p s mth args meth c cX11_made RX11 "made" 4 none) {x0 : Nat} {x1 : Int32} {x2 : Int32} {m : MM} (hM : M_X11_made G x0 x1 x2 m = some (r9, m9)) (tx0 : Ty E G x0 11) : ∀ (H : Heap) (locs : List Loc), Hp E G m s H locs → ∀ ls : Array Slot, lv_has ls 4 [(0, .ref x0), (1, .int x1), (2, .int x2)] → W p l e rmX11_made s mth args below meth c H locs 0 0 (MQ below (cQv E G m9) args s 0 0 (fun q => E.2.2.1 ≤ q)) (F0 mth 0 ls []) := by
  intro H locs h ls hl
  unfold M_X11_made at hM
  refine lv_aload_n C.1 C.2.1 dX11_made_0 rfl (lv_at hl 0 rfl) ?_
  refine gt_11_9 C h tx0 fl_X11_25 dX11_made_1 ?_
  obtain ⟨b_1, hb_1, hM⟩ := nb_some hM
  have tb_1 : Ty E G b_1 12 := (fun b hb => tyf h tx0 hb) _ hb_1
  refine st_ref hb_1 ?_
  refine lv_bipush (v := 8) C.1 C.2.1 dX11_made_4 (by decide) ?_
  refine lv_aload_n C.1 C.2.1 dX11_made_6 rfl (lv_at hl 0 rfl) ?_
  refine gt_11_3 C h tx0 fl_X11_334 dX11_made_7 ?_
  refine lv_imul C.1 C.2.1 dX11_made_10 ?_
  refine lv_iload_n C.1 C.2.1 dX11_made_11 rfl (lv_at hl 1 rfl) ?_
  refine lv_iadd C.1 C.2.1 dX11_made_12 ?_
  obtain ⟨hi, hM⟩ := ib_some hM
  refine h_iald C h tb_1 hi dX11_made_13 ?_
  refine lv_istore_n (lv' := [(3, .int (gI m b_1 (((8 * (gI m x0 3)) + x1).toNatClampNeg))), (0, .ref x0), (1, .int x1), (2, .int x2)]) C.1 C.2.1 dX11_made_14 rfl hl (by decide) rfl (fun ls hl => ?_)
  refine lv_aload_n C.1 C.2.1 dX11_made_15 rfl (lv_at hl 1 rfl) ?_
  refine gt_11_59 C h tx0 fl_X11_147 dX11_made_16 ?_
  obtain ⟨b_2, hb_2, hM⟩ := nb_some hM
  have tb_2 : Ty E G b_2 12 := (fun b hb => tyf h tx0 hb) _ hb_2
  refine st_ref hb_2 ?_
  refine lv_iload_n C.1 C.2.1 dX11_made_19 rfl (lv_at hl 2 rfl) ?_
  obtain ⟨hi, hM⟩ := ib_some hM
  refine h_iald C h tb_2 hi dX11_made_20 ?_
  refine lv_iload_n C.1 C.2.1 dX11_made_21 rfl (lv_at hl 0 rfl) ?_
  refine lv_icmp_ge (tgt := 58) C.1 C.2.1 dX11_made_22 (by decide) (fun q => ?_) (fun q => ?_)
  · have hM := ite_t q hM
    refine lv_aload_n C.1 C.2.1 dX11_made_58 rfl (lv_at hl 1 rfl) ?_
    refine gt_11_58 C h tx0 fl_X11_144 dX11_made_59 ?_
    obtain ⟨b_3, hb_3, hM⟩ := nb_some hM
    have tb_3 : Ty E G b_3 12 := (fun b hb => tyf h tx0 hb) _ hb_3
    refine st_ref hb_3 ?_
    refine lv_bipush (v := 6) C.1 C.2.1 dX11_made_62 (by decide) ?_
    refine lv_iload_n C.1 C.2.1 dX11_made_64 rfl (lv_at hl 2 rfl) ?_
    refine lv_imul C.1 C.2.1 dX11_made_65 ?_
    refine lv_aload_n C.1 C.2.1 dX11_made_66 rfl (lv_at hl 1 rfl) ?_
    refine gt_11_59 C h tx0 fl_X11_147 dX11_made_67 ?_
    refine st_ref hb_2 ?_
    refine lv_iload_n C.1 C.2.1 dX11_made_70 rfl (lv_at hl 2 rfl) ?_
    obtain ⟨hi, hM⟩ := ib_some hM
    refine h_iald C h tb_2 hi dX11_made_71 ?_
    refine lv_iadd C.1 C.2.1 dX11_made_72 ?_
    refine lv_iload_n C.1 C.2.1 dX11_made_73 rfl (lv_at hl 0 rfl) ?_
    refine lv_isub C.1 C.2.1 dX11_made_74 ?_
    refine lv_iload_n C.1 C.2.1 dX11_made_75 rfl (lv_at hl 3 rfl) ?_
    obtain ⟨hi, hM⟩ := ib_some hM
    refine h_iast C h tb_3 hi dX11_made_76 (fun H locs h => ?_)
    refine lv_aload_n C.1 C.2.1 dX11_made_77 rfl (lv_at hl 1 rfl) ?_
    refine gt_11_59 C h tx0 fl_X11_147 dX11_made_78 ?_
    obtain ⟨b_4, hb_4, hM⟩ := nb_some hM
    have tb_4 : Ty E G b_4 12 := (fun b hb => tyf h tx0 hb) _ hb_4
    refine st_ref hb_4 ?_
    refine lv_iload_n C.1 C.2.1 dX11_made_81 rfl (lv_at hl 2 rfl) ?_
    refine lv_dup2_11 C.1 C.2.1 dX11_made_82 rfl rfl ?_
    obtain ⟨hi, hM⟩ := ib_some hM
    refine h_iald C h tb_4 hi dX11_made_83 ?_
    refine lv_iconst (v := 1) C.1 C.2.1 dX11_made_84 (by decide) ?_
    refine lv_iadd C.1 C.2.1 dX11_made_85 ?_
    obtain ⟨hi, hM⟩ := ib_some hM
    refine h_iast C h tb_4 hi dX11_made_86 (fun H locs h => ?_)
    obtain ⟨rfl, rfl⟩ := so_inj hM
    exact h_vret C h dX11_made_87
  · have hM := ite_f q hM
    refine lv_aload_n C.1 C.2.1 dX11_made_25 rfl (lv_at hl 1 rfl) ?_
    refine gt_11_57 C h tx0 fl_X11_141 dX11_made_26 ?_
    obtain ⟨b_5, hb_5, hM⟩ := nb_some hM
    have tb_5 : Ty E G b_5 12 := (fun b hb => tyf h tx0 hb) _ hb_5
    refine st_ref hb_5 ?_
    refine lv_bipush (v := 12) C.1 C.2.1 dX11_made_29 (by decide) ?_
    refine lv_iload_n C.1 C.2.1 dX11_made_31 rfl (lv_at hl 2 rfl) ?_
    refine lv_imul C.1 C.2.1 dX11_made_32 ?_
    refine lv_aload_n C.1 C.2.1 dX11_made_33 rfl (lv_at hl 1 rfl) ?_
    refine gt_11_59 C h tx0 fl_X11_147 dX11_made_34 ?_
    refine st_ref hb_2 ?_
    refine lv_iload_n C.1 C.2.1 dX11_made_37 rfl (lv_at hl 2 rfl) ?_
    obtain ⟨hi, hM⟩ := ib_some hM
    refine h_iald C h tb_2 hi dX11_made_38 ?_
    refine lv_iadd C.1 C.2.1 dX11_made_39 ?_
    refine lv_iload_n C.1 C.2.1 dX11_made_40 rfl (lv_at hl 3 rfl) ?_
    obtain ⟨hi, hM⟩ := ib_some hM
    refine h_iast C h tb_5 hi dX11_made_41 (fun H locs h => ?_)
    refine lv_aload_n C.1 C.2.1 dX11_made_42 rfl (lv_at hl 1 rfl) ?_
    refine lv_iload_n C.1 C.2.1 dX11_made_43 rfl (lv_at hl 2 rfl) ?_
    refine lv_iconst (v := 1) C.1 C.2.1 dX11_made_44 (by decide) ?_
    refine lv_aload_n C.1 C.2.1 dX11_made_45 rfl (lv_at hl 1 rfl) ?_
    refine gt_11_59 C h tx0 fl_X11_147 dX11_made_46 ?_
    obtain ⟨b_6, hb_6, hM⟩ := nb_some hM
    have tb_6 : Ty E G b_6 12 := (fun b hb => tyf h tx0 hb) _ hb_6
    refine st_ref hb_6 ?_
    refine lv_iload_n C.1 C.2.1 dX11_made_49 rfl (lv_at hl 2 rfl) ?_
    obtain ⟨hi, hM⟩ := ib_some hM
    refine h_iald C h tb_6 hi dX11_made_50 ?_
    refine lv_iadd C.1 C.2.1 dX11_made_51 ?_
    obtain ⟨r_7, m_8, hc_7, hM⟩ := bd_some hM
    refine h_callVv C h (As := [.int x1, .int (1 + (gI (sI m b_5 (((12 * x1) + (gI m b_2 x1.toNatClampNeg)).toNatClampNeg) x2) b_6 x1.toNatClampNeg))]) (rest := []) m_8 (c_X11_note hc_7 tx0) 11 rfl (by decide) tx0 im_yX11_note se_yX11_note cy_X11_note rfl ml_X11_355 ⟨by decide, by decide⟩ ⟨Nat.zero_le _, Nat.zero_le _⟩ hl.1 rfl (Nat.le_of_ble_eq_true rfl) dX11_made_52 (fun H locs h => ?_)
    refine lv_goto (tgt := 77) C.1 C.2.1 dX11_made_55 (by decide) ?_
    refine lv_aload_n C.1 C.2.1 dX11_made_77 rfl (lv_at hl 1 rfl) ?_
    refine gt_11_59 C h tx0 fl_X11_147 dX11_made_78 ?_
    obtain ⟨b_9, hb_9, hM⟩ := nb_some hM
    have tb_9 : Ty E G b_9 12 := (fun b hb => tyf h tx0 hb) _ hb_9
    refine st_ref hb_9 ?_
    refine lv_iload_n C.1 C.2.1 dX11_made_81 rfl (lv_at hl 2 rfl) ?_
    refine lv_dup2_11 C.1 C.2.1 dX11_made_82 rfl rfl ?_
    obtain ⟨hi, hM⟩ := ib_some hM
    refine h_iald C h tb_9 hi dX11_made_83 ?_
    refine lv_iconst (v := 1) C.1 C.2.1 dX11_made_84 (by decide) ?_
    refine lv_iadd C.1 C.2.1 dX11_made_85 ?_
    obtain ⟨hi, hM⟩ := ib_some hM
    refine h_iast C h tb_9 hi dX11_made_86 (fun H locs h => ?_)
    obtain ⟨rfl, rfl⟩ := so_inj hM
    exact h_vret C h dX11_made_87
theorem cy_X11_made : Cy yX11_made cX11_made 4 none 2 := ⟨cd_yX11_made, ii_X11, by decide, by decide, by decide +kernel⟩
set_option maxRecDepth 100000 in
theorem c_X11_made {l : Launch} {E : EE} {G : GG} {x0 : Nat} {x1 : Int32} {x2 : Int32} {m m9 : MM} {r9 : Unit} (hM : M_X11_made G x0 x1 x2 m = some (r9, m9)) (tx0 : Ty E G x0 11) : Mc l E yX11_made cX11_made 4 none rmX11_made [.ref x0, .int x1, .int x2] G m (cQv E G m9) := M_of (by decide) (Nat.le_of_ble_eq_true rfl) (fun p e s mth below meth c C h ls hl => cM_X11_made C hM tx0 _ _ h ls hl)
abbrev rmX11_goOn : Room := { frames := 2, cells := 0, slots := 0, locals := 45 }
def M_X11_goOn (G : GG) (x0 : Nat) (x1 : Int32) (m : MM) : Option (Unit × MM) :=
  nb (gR m x0 59) fun b_1 =>
    ib x1 (G.2.2 b_1) <|
      nb (gR m x0 9) fun b_2 =>
        ib ((8 * (gI m x0 3)) + x1) (G.2.2 b_2) <|
          if (gI m b_2 (((8 * (gI m x0 3)) + x1).toNatClampNeg)) ≤ (gI m b_1 x1.toNatClampNeg) then
            ib ((8 * (gI m x0 3)) + x1) (G.2.2 b_2) <|
              nb (gR m x0 11) fun b_3 =>
                ib ((8 * (gI m x0 3)) + x1) (G.2.2 b_3) <|
                  if ((gI m b_2 (((8 * (gI m x0 3)) + x1).toNatClampNeg)) + (gI m b_3 (((8 * (gI m x0 3)) + x1).toNatClampNeg))) ≤ (gI m b_1 x1.toNatClampNeg) then
                    nb (gR m x0 56) fun b_4 =>
                      ib x1 (G.2.2 b_4) <|
                        bd (M_X11_note G x0 x1 100 (sI m b_4 x1.toNatClampNeg 1)) fun _ m_6 =>
                          some ((), sI m_6 x0 64 ((gI m_6 x0 64) - 1))
                  else
                    ib ((8 * (gI m x0 3)) + x1) (G.2.2 b_2) <|
                      nb (gR m x0 25) fun b_7 =>
                        ib (((6 * ((8 * (gI m x0 3)) + x1)) + (gI m b_1 x1.toNatClampNeg)) - (gI m b_2 (((8 * (gI m x0 3)) + x1).toNatClampNeg))) (G.2.2 b_7) <|
                          if 0 ≤ (gI m b_7 ((((6 * ((8 * (gI m x0 3)) + x1)) + (gI m b_1 x1.toNatClampNeg)) - (gI m b_2 (((8 * (gI m x0 3)) + x1).toNatClampNeg))).toNatClampNeg)) then
                            ib (((6 * ((8 * (gI m x0 3)) + x1)) + (gI m b_1 x1.toNatClampNeg)) - (gI m b_2 (((8 * (gI m x0 3)) + x1).toNatClampNeg))) (G.2.2 b_7) <|
                              nb (gR m x0 26) fun b_8 =>
                                ib (((6 * ((8 * (gI m x0 3)) + x1)) + (gI m b_1 x1.toNatClampNeg)) - (gI m b_2 (((8 * (gI m x0 3)) + x1).toNatClampNeg))) (G.2.2 b_8) <|
                                  bd (M_X11_pushFrame G x0 x1 0 (gI m b_7 ((((6 * ((8 * (gI m x0 3)) + x1)) + (gI m b_1 x1.toNatClampNeg)) - (gI m b_2 (((8 * (gI m x0 3)) + x1).toNatClampNeg))).toNatClampNeg)) (gI m b_8 ((((6 * ((8 * (gI m x0 3)) + x1)) + (gI m b_1 x1.toNatClampNeg)) - (gI m b_2 (((8 * (gI m x0 3)) + x1).toNatClampNeg))).toNatClampNeg)) m) fun _ m_10 =>
                                    some ((), m_10)
                          else
                            ib x1 (G.2.2 b_1) <|
                              ib x1 (G.2.2 b_1) <|
                                some ((), sI m b_1 x1.toNatClampNeg ((gI m b_1 x1.toNatClampNeg) + 1))
          else
            nb (gR m x0 12) fun b_11 =>
              ib ((8 * (gI m x0 3)) + x1) (G.2.2 b_11) <|
                if 0 ≤ (gI m b_11 (((8 * (gI m x0 3)) + x1).toNatClampNeg)) then
                  ib ((8 * (gI m x0 3)) + x1) (G.2.2 b_11) <|
                    nb (gR m x0 13) fun b_12 =>
                      ib ((8 * (gI m x0 3)) + x1) (G.2.2 b_12) <|
                        bd (M_X11_pushFrame G x0 x1 (gI m b_1 x1.toNatClampNeg) (gI m b_11 (((8 * (gI m x0 3)) + x1).toNatClampNeg)) (gI m b_12 (((8 * (gI m x0 3)) + x1).toNatClampNeg)) m) fun _ m_14 =>
                          some ((), m_14)
                else
                  bd (M_X11_made G x0 x1 0 m) fun _ m_16 =>
                    some ((), m_16)
set_option maxRecDepth 100000 in
set_option maxHeartbeats 4000000 in
theorem cM_X11_goOn {p : Program} {l : Launch} {e : Env} {s : State} {mth : MethodId} {args : Array Value} {below : List Frame} {meth : Method} {c : Code} {E : EE} {G : GG} {r9 : Unit} {m9 : MM} (C : Cx E G p s mth args meth c cX11_goOn RX11 "goOn" 5 none) {x0 : Nat} {x1 : Int32} {m : MM} (hM : M_X11_goOn G x0 x1 m = some (r9, m9)) (tx0 : Ty E G x0 11) : ∀ (H : Heap) (locs : List Loc), Hp E G m s H locs → ∀ ls : Array Slot, lv_has ls 5 [(0, .ref x0), (1, .int x1)] → W p l e rmX11_goOn s mth args below meth c H locs 0 0 (MQ below (cQv E G m9) args s 0 0 (fun q => E.2.2.1 ≤ q)) (F0 mth 0 ls []) := by
  intro H locs h ls hl
  unfold M_X11_goOn at hM
  refine lv_bipush (v := 8) C.1 C.2.1 dX11_goOn_0 (by decide) ?_
  refine lv_aload_n C.1 C.2.1 dX11_goOn_2 rfl (lv_at hl 0 rfl) ?_
  refine gt_11_3 C h tx0 fl_X11_334 dX11_goOn_3 ?_
  refine lv_imul C.1 C.2.1 dX11_goOn_6 ?_
  refine lv_iload_n C.1 C.2.1 dX11_goOn_7 rfl (lv_at hl 1 rfl) ?_
  refine lv_iadd C.1 C.2.1 dX11_goOn_8 ?_
  refine lv_istore_n (lv' := [(2, .int ((8 * (gI m x0 3)) + x1)), (0, .ref x0), (1, .int x1)]) C.1 C.2.1 dX11_goOn_9 rfl hl (by decide) rfl (fun ls hl => ?_)
  refine lv_aload_n C.1 C.2.1 dX11_goOn_10 rfl (lv_at hl 1 rfl) ?_
  refine gt_11_59 C h tx0 fl_X11_147 dX11_goOn_11 ?_
  obtain ⟨b_1, hb_1, hM⟩ := nb_some hM
  have tb_1 : Ty E G b_1 12 := (fun b hb => tyf h tx0 hb) _ hb_1
  refine st_ref hb_1 ?_
  refine lv_iload_n C.1 C.2.1 dX11_goOn_14 rfl (lv_at hl 2 rfl) ?_
  obtain ⟨hi, hM⟩ := ib_some hM
  refine h_iald C h tb_1 hi dX11_goOn_15 ?_
  refine lv_istore_n (lv' := [(3, .int (gI m b_1 x1.toNatClampNeg)), (2, .int ((8 * (gI m x0 3)) + x1)), (0, .ref x0), (1, .int x1)]) C.1 C.2.1 dX11_goOn_16 rfl hl (by decide) rfl (fun ls hl => ?_)
  refine lv_iload_n C.1 C.2.1 dX11_goOn_17 rfl (lv_at hl 0 rfl) ?_
  refine lv_aload_n C.1 C.2.1 dX11_goOn_18 rfl (lv_at hl 2 rfl) ?_
  refine gt_11_9 C h tx0 fl_X11_25 dX11_goOn_19 ?_
  obtain ⟨b_2, hb_2, hM⟩ := nb_some hM
  have tb_2 : Ty E G b_2 12 := (fun b hb => tyf h tx0 hb) _ hb_2
  refine st_ref hb_2 ?_
  refine lv_iload_n C.1 C.2.1 dX11_goOn_22 rfl (lv_at hl 1 rfl) ?_
  obtain ⟨hi, hM⟩ := ib_some hM
  refine h_iald C h tb_2 hi dX11_goOn_23 ?_
  refine lv_icmp_ge (tgt := 66) C.1 C.2.1 dX11_goOn_24 (by decide) (fun q => ?_) (fun q => ?_)
  · have hM := ite_t q hM
    refine lv_iload_n C.1 C.2.1 dX11_goOn_66 rfl (lv_at hl 0 rfl) ?_
    refine lv_aload_n C.1 C.2.1 dX11_goOn_67 rfl (lv_at hl 2 rfl) ?_
    refine gt_11_9 C h tx0 fl_X11_25 dX11_goOn_68 ?_
    refine st_ref hb_2 ?_
    refine lv_iload_n C.1 C.2.1 dX11_goOn_71 rfl (lv_at hl 1 rfl) ?_
    obtain ⟨hi, hM⟩ := ib_some hM
    refine h_iald C h tb_2 hi dX11_goOn_72 ?_
    refine lv_aload_n C.1 C.2.1 dX11_goOn_73 rfl (lv_at hl 2 rfl) ?_
    refine gt_11_11 C h tx0 fl_X11_31 dX11_goOn_74 ?_
    obtain ⟨b_3, hb_3, hM⟩ := nb_some hM
    have tb_3 : Ty E G b_3 12 := (fun b hb => tyf h tx0 hb) _ hb_3
    refine st_ref hb_3 ?_
    refine lv_iload_n C.1 C.2.1 dX11_goOn_77 rfl (lv_at hl 1 rfl) ?_
    obtain ⟨hi, hM⟩ := ib_some hM
    refine h_iald C h tb_3 hi dX11_goOn_78 ?_
    refine lv_iadd C.1 C.2.1 dX11_goOn_79 ?_
    refine lv_icmp_ge (tgt := 144) C.1 C.2.1 dX11_goOn_80 (by decide) (fun q => ?_) (fun q => ?_)
    · have hM := ite_t q hM
      refine lv_aload_n C.1 C.2.1 dX11_goOn_144 rfl (lv_at hl 2 rfl) ?_
      refine gt_11_56 C h tx0 fl_X11_138 dX11_goOn_145 ?_
      obtain ⟨b_4, hb_4, hM⟩ := nb_some hM
      have tb_4 : Ty E G b_4 12 := (fun b hb => tyf h tx0 hb) _ hb_4
      refine st_ref hb_4 ?_
      refine lv_iload_n C.1 C.2.1 dX11_goOn_148 rfl (lv_at hl 3 rfl) ?_
      refine lv_iconst (v := 1) C.1 C.2.1 dX11_goOn_149 (by decide) ?_
      obtain ⟨hi, hM⟩ := ib_some hM
      refine h_iast C h tb_4 hi dX11_goOn_150 (fun H locs h => ?_)
      refine lv_aload_n C.1 C.2.1 dX11_goOn_151 rfl (lv_at hl 2 rfl) ?_
      refine lv_iload_n C.1 C.2.1 dX11_goOn_152 rfl (lv_at hl 3 rfl) ?_
      refine lv_bipush (v := 100) C.1 C.2.1 dX11_goOn_153 (by decide) ?_
      obtain ⟨r_5, m_6, hc_5, hM⟩ := bd_some hM
      refine h_callVv C h (As := [.int x1, .int 100]) (rest := []) m_6 (c_X11_note hc_5 tx0) 11 rfl (by decide) tx0 im_yX11_note se_yX11_note cy_X11_note rfl ml_X11_355 ⟨by decide, by decide⟩ ⟨Nat.zero_le _, Nat.zero_le _⟩ hl.1 rfl (Nat.le_of_ble_eq_true rfl) dX11_goOn_155 (fun H locs h => ?_)
      refine lv_aload_n C.1 C.2.1 dX11_goOn_158 rfl (lv_at hl 2 rfl) ?_
      refine lv_dup C.1 C.2.1 dX11_goOn_159 rfl ?_
      refine gt_11_64 C h tx0 fl_X11_352 dX11_goOn_160 ?_
      refine lv_iconst (v := 1) C.1 C.2.1 dX11_goOn_163 (by decide) ?_
      refine lv_isub C.1 C.2.1 dX11_goOn_164 ?_
      refine pt_11_64 C h tx0 fl_X11_352 dX11_goOn_165 (fun H locs h => ?_)
      obtain ⟨rfl, rfl⟩ := so_inj hM
      exact h_vret C h dX11_goOn_168
    · have hM := ite_f q hM
      refine lv_bipush (v := 6) C.1 C.2.1 dX11_goOn_83 (by decide) ?_
      refine lv_iload_n C.1 C.2.1 dX11_goOn_85 rfl (lv_at hl 1 rfl) ?_
      refine lv_imul C.1 C.2.1 dX11_goOn_86 ?_
      refine lv_iload_n C.1 C.2.1 dX11_goOn_87 rfl (lv_at hl 0 rfl) ?_
      refine lv_iadd C.1 C.2.1 dX11_goOn_88 ?_
      refine lv_aload_n C.1 C.2.1 dX11_goOn_89 rfl (lv_at hl 2 rfl) ?_
      refine gt_11_9 C h tx0 fl_X11_25 dX11_goOn_90 ?_
      refine st_ref hb_2 ?_
      refine lv_iload_n C.1 C.2.1 dX11_goOn_93 rfl (lv_at hl 1 rfl) ?_
      obtain ⟨hi, hM⟩ := ib_some hM
      refine h_iald C h tb_2 hi dX11_goOn_94 ?_
      refine lv_isub C.1 C.2.1 dX11_goOn_95 ?_
      refine lv_istore (lv' := [(4, .int (((6 * ((8 * (gI m x0 3)) + x1)) + (gI m b_1 x1.toNatClampNeg)) - (gI m b_2 (((8 * (gI m x0 3)) + x1).toNatClampNeg)))), (3, .int (gI m b_1 x1.toNatClampNeg)), (2, .int ((8 * (gI m x0 3)) + x1)), (0, .ref x0), (1, .int x1)]) C.1 C.2.1 dX11_goOn_96 hl (by decide) rfl (fun ls hl => ?_)
      refine lv_aload_n C.1 C.2.1 dX11_goOn_98 rfl (lv_at hl 3 rfl) ?_
      refine gt_11_25 C h tx0 fl_X11_73 dX11_goOn_99 ?_
      obtain ⟨b_7, hb_7, hM⟩ := nb_some hM
      have tb_7 : Ty E G b_7 12 := (fun b hb => tyf h tx0 hb) _ hb_7
      refine st_ref hb_7 ?_
      refine lv_iload C.1 C.2.1 dX11_goOn_102 (lv_at hl 0 rfl) ?_
      obtain ⟨hi, hM⟩ := ib_some hM
      refine h_iald C h tb_7 hi dX11_goOn_104 ?_
      refine lv_if_ge (tgt := 121) C.1 C.2.1 dX11_goOn_105 (by decide) (fun q => ?_) (fun q => ?_)
      · have hM := ite_t q hM
        refine lv_aload_n C.1 C.2.1 dX11_goOn_121 rfl (lv_at hl 3 rfl) ?_
        refine lv_iload_n C.1 C.2.1 dX11_goOn_122 rfl (lv_at hl 4 rfl) ?_
        refine lv_iconst (v := 0) C.1 C.2.1 dX11_goOn_123 (by decide) ?_
        refine lv_aload_n C.1 C.2.1 dX11_goOn_124 rfl (lv_at hl 3 rfl) ?_
        refine gt_11_25 C h tx0 fl_X11_73 dX11_goOn_125 ?_
        refine st_ref hb_7 ?_
        refine lv_iload C.1 C.2.1 dX11_goOn_128 (lv_at hl 0 rfl) ?_
        obtain ⟨hi, hM⟩ := ib_some hM
        refine h_iald C h tb_7 hi dX11_goOn_130 ?_
        refine lv_aload_n C.1 C.2.1 dX11_goOn_131 rfl (lv_at hl 3 rfl) ?_
        refine gt_11_26 C h tx0 fl_X11_76 dX11_goOn_132 ?_
        obtain ⟨b_8, hb_8, hM⟩ := nb_some hM
        have tb_8 : Ty E G b_8 12 := (fun b hb => tyf h tx0 hb) _ hb_8
        refine st_ref hb_8 ?_
        refine lv_iload C.1 C.2.1 dX11_goOn_135 (lv_at hl 0 rfl) ?_
        obtain ⟨hi, hM⟩ := ib_some hM
        refine h_iald C h tb_8 hi dX11_goOn_137 ?_
        obtain ⟨r_9, m_10, hc_9, hM⟩ := bd_some hM
        refine h_callVv C h (As := [.int x1, .int 0, .int (gI m b_7 ((((6 * ((8 * (gI m x0 3)) + x1)) + (gI m b_1 x1.toNatClampNeg)) - (gI m b_2 (((8 * (gI m x0 3)) + x1).toNatClampNeg))).toNatClampNeg)), .int (gI m b_8 ((((6 * ((8 * (gI m x0 3)) + x1)) + (gI m b_1 x1.toNatClampNeg)) - (gI m b_2 (((8 * (gI m x0 3)) + x1).toNatClampNeg))).toNatClampNeg))]) (rest := []) m_10 (c_X11_pushFrame hc_9 tx0) 11 rfl (by decide) tx0 im_yX11_pushFrame se_yX11_pushFrame cy_X11_pushFrame rfl ml_X11_358 ⟨by decide, by decide⟩ ⟨Nat.zero_le _, Nat.zero_le _⟩ hl.1 rfl (Nat.le_of_ble_eq_true rfl) dX11_goOn_138 (fun H locs h => ?_)
        refine lv_goto (tgt := 168) C.1 C.2.1 dX11_goOn_141 (by decide) ?_
        obtain ⟨rfl, rfl⟩ := so_inj hM
        exact h_vret C h dX11_goOn_168
      · have hM := ite_f q hM
        refine lv_aload_n C.1 C.2.1 dX11_goOn_108 rfl (lv_at hl 3 rfl) ?_
        refine gt_11_59 C h tx0 fl_X11_147 dX11_goOn_109 ?_
        refine st_ref hb_1 ?_
        refine lv_iload_n C.1 C.2.1 dX11_goOn_112 rfl (lv_at hl 4 rfl) ?_
        refine lv_dup2_11 C.1 C.2.1 dX11_goOn_113 rfl rfl ?_
        obtain ⟨hi, hM⟩ := ib_some hM
        refine h_iald C h tb_1 hi dX11_goOn_114 ?_
        refine lv_iconst (v := 1) C.1 C.2.1 dX11_goOn_115 (by decide) ?_
        refine lv_iadd C.1 C.2.1 dX11_goOn_116 ?_
        obtain ⟨hi, hM⟩ := ib_some hM
        refine h_iast C h tb_1 hi dX11_goOn_117 (fun H locs h => ?_)
        refine lv_goto (tgt := 141) C.1 C.2.1 dX11_goOn_118 (by decide) ?_
        refine lv_goto (tgt := 168) C.1 C.2.1 dX11_goOn_141 (by decide) ?_
        obtain ⟨rfl, rfl⟩ := so_inj hM
        exact h_vret C h dX11_goOn_168
  · have hM := ite_f q hM
    refine lv_aload_n C.1 C.2.1 dX11_goOn_27 rfl (lv_at hl 2 rfl) ?_
    refine gt_11_12 C h tx0 fl_X11_34 dX11_goOn_28 ?_
    obtain ⟨b_11, hb_11, hM⟩ := nb_some hM
    have tb_11 : Ty E G b_11 12 := (fun b hb => tyf h tx0 hb) _ hb_11
    refine st_ref hb_11 ?_
    refine lv_iload_n C.1 C.2.1 dX11_goOn_31 rfl (lv_at hl 1 rfl) ?_
    obtain ⟨hi, hM⟩ := ib_some hM
    refine h_iald C h tb_11 hi dX11_goOn_32 ?_
    refine lv_if_ge (tgt := 45) C.1 C.2.1 dX11_goOn_33 (by decide) (fun q => ?_) (fun q => ?_)
    · have hM := ite_t q hM
      refine lv_aload_n C.1 C.2.1 dX11_goOn_45 rfl (lv_at hl 2 rfl) ?_
      refine lv_iload_n C.1 C.2.1 dX11_goOn_46 rfl (lv_at hl 3 rfl) ?_
      refine lv_iload_n C.1 C.2.1 dX11_goOn_47 rfl (lv_at hl 0 rfl) ?_
      refine lv_aload_n C.1 C.2.1 dX11_goOn_48 rfl (lv_at hl 2 rfl) ?_
      refine gt_11_12 C h tx0 fl_X11_34 dX11_goOn_49 ?_
      refine st_ref hb_11 ?_
      refine lv_iload_n C.1 C.2.1 dX11_goOn_52 rfl (lv_at hl 1 rfl) ?_
      obtain ⟨hi, hM⟩ := ib_some hM
      refine h_iald C h tb_11 hi dX11_goOn_53 ?_
      refine lv_aload_n C.1 C.2.1 dX11_goOn_54 rfl (lv_at hl 2 rfl) ?_
      refine gt_11_13 C h tx0 fl_X11_37 dX11_goOn_55 ?_
      obtain ⟨b_12, hb_12, hM⟩ := nb_some hM
      have tb_12 : Ty E G b_12 12 := (fun b hb => tyf h tx0 hb) _ hb_12
      refine st_ref hb_12 ?_
      refine lv_iload_n C.1 C.2.1 dX11_goOn_58 rfl (lv_at hl 1 rfl) ?_
      obtain ⟨hi, hM⟩ := ib_some hM
      refine h_iald C h tb_12 hi dX11_goOn_59 ?_
      obtain ⟨r_13, m_14, hc_13, hM⟩ := bd_some hM
      refine h_callVv C h (As := [.int x1, .int (gI m b_1 x1.toNatClampNeg), .int (gI m b_11 (((8 * (gI m x0 3)) + x1).toNatClampNeg)), .int (gI m b_12 (((8 * (gI m x0 3)) + x1).toNatClampNeg))]) (rest := []) m_14 (c_X11_pushFrame hc_13 tx0) 11 rfl (by decide) tx0 im_yX11_pushFrame se_yX11_pushFrame cy_X11_pushFrame rfl ml_X11_358 ⟨by decide, by decide⟩ ⟨Nat.zero_le _, Nat.zero_le _⟩ hl.1 rfl (Nat.le_of_ble_eq_true rfl) dX11_goOn_60 (fun H locs h => ?_)
      refine lv_goto (tgt := 168) C.1 C.2.1 dX11_goOn_63 (by decide) ?_
      obtain ⟨rfl, rfl⟩ := so_inj hM
      exact h_vret C h dX11_goOn_168
    · have hM := ite_f q hM
      refine lv_aload_n C.1 C.2.1 dX11_goOn_36 rfl (lv_at hl 2 rfl) ?_
      refine lv_iload_n C.1 C.2.1 dX11_goOn_37 rfl (lv_at hl 3 rfl) ?_
      refine lv_iconst (v := 0) C.1 C.2.1 dX11_goOn_38 (by decide) ?_
      obtain ⟨r_15, m_16, hc_15, hM⟩ := bd_some hM
      refine h_callVv C h (As := [.int x1, .int 0]) (rest := []) m_16 (c_X11_made hc_15 tx0) 11 rfl (by decide) tx0 im_yX11_made se_yX11_made cy_X11_made rfl ml_X11_377 ⟨by decide, by decide⟩ ⟨Nat.zero_le _, Nat.zero_le _⟩ hl.1 rfl (Nat.le_of_ble_eq_true rfl) dX11_goOn_39 (fun H locs h => ?_)
      refine lv_goto (tgt := 168) C.1 C.2.1 dX11_goOn_42 (by decide) ?_
      obtain ⟨rfl, rfl⟩ := so_inj hM
      exact h_vret C h dX11_goOn_168
theorem cy_X11_goOn : Cy yX11_goOn cX11_goOn 5 none 1 := ⟨cd_yX11_goOn, ii_X11, by decide, by decide, by decide +kernel⟩
set_option maxRecDepth 100000 in
theorem c_X11_goOn {l : Launch} {E : EE} {G : GG} {x0 : Nat} {x1 : Int32} {m m9 : MM} {r9 : Unit} (hM : M_X11_goOn G x0 x1 m = some (r9, m9)) (tx0 : Ty E G x0 11) : Mc l E yX11_goOn cX11_goOn 5 none rmX11_goOn [.ref x0, .int x1] G m (cQv E G m9) := M_of (by decide) (Nat.le_of_ble_eq_true rfl) (fun p e s mth below meth c C h ls hl => cM_X11_goOn C hM tx0 _ _ h ls hl)
abbrev rmX11_push : Room := { frames := 0, cells := 0, slots := 0, locals := 0 }
def M_X11_push (G : GG) (x0 : Nat) (x1 : Int32) (m : MM) : Option (Unit × MM) :=
  nb (gR m x0 69) fun b_1 =>
    ib (gI m x0 70) (G.2.2 b_1) <|
      some ((), sI (sI m b_1 ((gI m x0 70).toNatClampNeg) x1) x0 70 ((gI (sI m b_1 ((gI m x0 70).toNatClampNeg) x1) x0 70) + 1))
set_option maxRecDepth 100000 in
set_option maxHeartbeats 4000000 in
theorem cM_X11_push {p : Program} {l : Launch} {e : Env} {s : State} {mth : MethodId} {args : Array Value} {below : List Frame} {meth : Method} {c : Code} {E : EE} {G : GG} {r9 : Unit} {m9 : MM} (C : Cx E G p s mth args meth c cX11_push RX11 "push" 2 none) {x0 : Nat} {x1 : Int32} {m : MM} (hM : M_X11_push G x0 x1 m = some (r9, m9)) (tx0 : Ty E G x0 11) : ∀ (H : Heap) (locs : List Loc), Hp E G m s H locs → ∀ ls : Array Slot, lv_has ls 2 [(0, .ref x0), (1, .int x1)] → W p l e rmX11_push s mth args below meth c H locs 0 0 (MQ below (cQv E G m9) args s 0 0 (fun q => E.2.2.1 ≤ q)) (F0 mth 0 ls []) := by
  intro H locs h ls hl
  unfold M_X11_push at hM
  refine lv_aload_n C.1 C.2.1 dX11_push_0 rfl (lv_at hl 0 rfl) ?_
  refine gt_11_69 C h tx0 fl_X11_165 dX11_push_1 ?_
  obtain ⟨b_1, hb_1, hM⟩ := nb_some hM
  have tb_1 : Ty E G b_1 12 := (fun b hb => tyf h tx0 hb) _ hb_1
  refine st_ref hb_1 ?_
  refine lv_aload_n C.1 C.2.1 dX11_push_4 rfl (lv_at hl 0 rfl) ?_
  refine gt_11_70 C h tx0 fl_X11_368 dX11_push_5 ?_
  refine lv_iload_n C.1 C.2.1 dX11_push_8 rfl (lv_at hl 1 rfl) ?_
  obtain ⟨hi, hM⟩ := ib_some hM
  refine h_iast C h tb_1 hi dX11_push_9 (fun H locs h => ?_)
  refine lv_aload_n C.1 C.2.1 dX11_push_10 rfl (lv_at hl 0 rfl) ?_
  refine lv_dup C.1 C.2.1 dX11_push_11 rfl ?_
  refine gt_11_70 C h tx0 fl_X11_368 dX11_push_12 ?_
  refine lv_iconst (v := 1) C.1 C.2.1 dX11_push_15 (by decide) ?_
  refine lv_iadd C.1 C.2.1 dX11_push_16 ?_
  refine pt_11_70 C h tx0 fl_X11_368 dX11_push_17 (fun H locs h => ?_)
  obtain ⟨rfl, rfl⟩ := so_inj hM
  exact h_vret C h dX11_push_20
theorem cy_X11_push : Cy yX11_push cX11_push 2 none 1 := ⟨cd_yX11_push, ii_X11, by decide, by decide, by decide +kernel⟩
set_option maxRecDepth 100000 in
theorem c_X11_push {l : Launch} {E : EE} {G : GG} {x0 : Nat} {x1 : Int32} {m m9 : MM} {r9 : Unit} (hM : M_X11_push G x0 x1 m = some (r9, m9)) (tx0 : Ty E G x0 11) : Mc l E yX11_push cX11_push 2 none rmX11_push [.ref x0, .int x1] G m (cQv E G m9) := M_of (by decide) (Nat.le_of_ble_eq_true rfl) (fun p e s mth below meth c C h ls hl => cM_X11_push C hM tx0 _ _ h ls hl)
