abbrev rmX11_trace : Room := { frames := 1, cells := 0, slots := 0, locals := 22 }
def M_X11_trace (G : GG) (x0 : Nat) (x1 : Int32) (m : MM) : Option (Int32 × MM) :=
  bd (M_X11_in G x1 0 ((gI m x0 61) - 1) m) fun r_1 m_2 =>
    if r_1 = true then
      nb (gR m_2 x0 60) fun b_3 =>
        ib x1 (G.2.2 b_3) <|
          some (gI m_2 b_3 x1.toNatClampNeg, m_2)
    else
      some ((-1000009), m_2)
set_option maxRecDepth 100000 in
set_option maxHeartbeats 4000000 in
theorem cM_X11_trace {p : Program} {l : Launch} {e : Env} {s : State} {mth : MethodId} {args : Array Value} {below : List Frame} {meth : Method} {c : Code} {E : EE} {G : GG} {r9 : Int32} {m9 : MM} (C : Cx E G p s mth args meth c cX11_trace RX11 "trace" 2 (some .int)) {x0 : Nat} {x1 : Int32} {m : MM} (hM : M_X11_trace G x0 x1 m = some (r9, m9)) (tx0 : Ty E G x0 11) : ∀ (H : Heap) (locs : List Loc), Hp E G m s H locs → ∀ ls : Array Slot, lv_has ls 2 [(0, .ref x0), (1, .int x1)] → W p l e rmX11_trace s mth args below meth c H locs 0 0 (MQ below (cQi E r9 G m9) args s 0 0 (fun q => E.2.2.1 ≤ q)) (F0 mth 0 ls []) := by
  intro H locs h ls hl
  unfold M_X11_trace at hM
  refine lv_iload_n C.1 C.2.1 dX11_trace_0 rfl (lv_at hl 1 rfl) ?_
  refine lv_iconst (v := 0) C.1 C.2.1 dX11_trace_1 (by decide) ?_
  refine lv_aload_n C.1 C.2.1 dX11_trace_2 rfl (lv_at hl 0 rfl) ?_
  refine gt_11_61 C h tx0 fl_X11_346 dX11_trace_3 ?_
  refine lv_iconst (v := 1) C.1 C.2.1 dX11_trace_6 (by decide) ?_
  refine lv_isub C.1 C.2.1 dX11_trace_7 ?_
  obtain ⟨r_1, m_2, hc_1, hM⟩ := bd_some hM
  refine h_callSi C h (As := [.int x1, .int 0, .int ((gI m x0 61) - 1)]) (rest := []) (bz r_1) m_2 (c_X11_in hc_1 ) st_yX11_in cy_X11_in rfl ml_X11_175 ⟨by decide, by decide⟩ ⟨Nat.zero_le _, Nat.zero_le _⟩ hl.1 rfl (Nat.le_of_ble_eq_true rfl) dX11_trace_8 (fun H locs h => ?_)
  refine h_ifz (tgt := 23) C.1 C.2.1 dX11_trace_11 (by decide) (fun q => ?_) (fun q => ?_)
  · have hM := ite_f q hM
    refine lv_ldc C.1 C.2.1 C.2.2.2.1 (C.2.2.2.2.1 _ co_X11_133) dX11_trace_23 ?_
    obtain ⟨rfl, rfl⟩ := so_inj hM
    exact h_iret C h dX11_trace_25
  · have hM := ite_t q hM
    refine lv_aload_n C.1 C.2.1 dX11_trace_14 rfl (lv_at hl 0 rfl) ?_
    refine gt_11_60 C h tx0 fl_X11_150 dX11_trace_15 ?_
    obtain ⟨b_3, hb_3, hM⟩ := nb_some hM
    have tb_3 : Ty E G b_3 12 := (fun b hb => tyf h tx0 hb) _ hb_3
    refine st_ref hb_3 ?_
    refine lv_iload_n C.1 C.2.1 dX11_trace_18 rfl (lv_at hl 1 rfl) ?_
    obtain ⟨hi, hM⟩ := ib_some hM
    refine h_iald C h tb_3 hi dX11_trace_19 ?_
    refine lv_goto (tgt := 25) C.1 C.2.1 dX11_trace_20 (by decide) ?_
    obtain ⟨rfl, rfl⟩ := so_inj hM
    exact h_iret C h dX11_trace_25
theorem cy_X11_trace : Cy yX11_trace cX11_trace 2 (some .int) 1 := ⟨cd_yX11_trace, ii_X11, by decide, by decide, by decide +kernel⟩
set_option maxRecDepth 100000 in
theorem c_X11_trace {l : Launch} {E : EE} {G : GG} {x0 : Nat} {x1 : Int32} {m m9 : MM} {r9 : Int32} (hM : M_X11_trace G x0 x1 m = some (r9, m9)) (tx0 : Ty E G x0 11) : Mc l E yX11_trace cX11_trace 2 (some .int) rmX11_trace [.ref x0, .int x1] G m (cQi E r9 G m9) := M_of (by decide) (Nat.le_of_ble_eq_true rfl) (fun p e s mth below meth c C h ls hl => cM_X11_trace C hM tx0 _ _ h ls hl)
abbrev rmX11_count : Room := { frames := 0, cells := 0, slots := 0, locals := 0 }
def M_X11_count (G : GG) (x0 : Nat) (x1 : Int32) (m : MM) : Option (Int32 × MM) :=
  if x1 = 0 then
    nb (gR m x0 6) fun b_1 =>
      ib (gI m x0 3) (G.2.2 b_1) <|
        some (gI m b_1 ((gI m x0 3).toNatClampNeg), m)
  else
    if x1 = 1 then
      some (gI m x0 61, m)
    else
      if x1 = 2 then
        some (gI m x0 71, m)
      else
        if x1 = 3 then
          some (gI m x0 1, m)
        else
          if x1 = 4 then
            some (gI m x0 63, m)
          else
            some ((-1000002), m)
set_option maxRecDepth 100000 in
set_option maxHeartbeats 4000000 in
theorem cM_X11_count {p : Program} {l : Launch} {e : Env} {s : State} {mth : MethodId} {args : Array Value} {below : List Frame} {meth : Method} {c : Code} {E : EE} {G : GG} {r9 : Int32} {m9 : MM} (C : Cx E G p s mth args meth c cX11_count RX11 "count" 2 (some .int)) {x0 : Nat} {x1 : Int32} {m : MM} (hM : M_X11_count G x0 x1 m = some (r9, m9)) (tx0 : Ty E G x0 11) : ∀ (H : Heap) (locs : List Loc), Hp E G m s H locs → ∀ ls : Array Slot, lv_has ls 2 [(0, .ref x0), (1, .int x1)] → W p l e rmX11_count s mth args below meth c H locs 0 0 (MQ below (cQi E r9 G m9) args s 0 0 (fun q => E.2.2.1 ≤ q)) (F0 mth 0 ls []) := by
  intro H locs h ls hl
  unfold M_X11_count at hM
  refine lv_iload_n C.1 C.2.1 dX11_count_0 rfl (lv_at hl 1 rfl) ?_
  by_cases q0 : x1 = 0
  · have hM := ite_t q0 hM
    refine h_tabIn q0 (tgt := 36) C.1 C.2.1 dX11_count_1 (by decide) (by decide) rfl (by decide) ?_
    refine lv_aload_n C.1 C.2.1 dX11_count_36 rfl (lv_at hl 0 rfl) ?_
    refine gt_11_6 C h tx0 fl_X11_16 dX11_count_37 ?_
    obtain ⟨b_1, hb_1, hM⟩ := nb_some hM
    have tb_1 : Ty E G b_1 12 := (fun b hb => tyf h tx0 hb) _ hb_1
    refine st_ref hb_1 ?_
    refine lv_aload_n C.1 C.2.1 dX11_count_40 rfl (lv_at hl 0 rfl) ?_
    refine gt_11_3 C h tx0 fl_X11_334 dX11_count_41 ?_
    obtain ⟨hi, hM⟩ := ib_some hM
    refine h_iald C h tb_1 hi dX11_count_44 ?_
    obtain ⟨rfl, rfl⟩ := so_inj hM
    exact h_iret C h dX11_count_45
  · have hM := ite_f q0 hM
    by_cases q1 : x1 = 1
    · have hM := ite_t q1 hM
      refine h_tabIn q1 (tgt := 46) C.1 C.2.1 dX11_count_1 (by decide) (by decide) rfl (by decide) ?_
      refine lv_aload_n C.1 C.2.1 dX11_count_46 rfl (lv_at hl 0 rfl) ?_
      refine gt_11_61 C h tx0 fl_X11_346 dX11_count_47 ?_
      obtain ⟨rfl, rfl⟩ := so_inj hM
      exact h_iret C h dX11_count_50
    · have hM := ite_f q1 hM
      by_cases q2 : x1 = 2
      · have hM := ite_t q2 hM
        refine h_tabIn q2 (tgt := 51) C.1 C.2.1 dX11_count_1 (by decide) (by decide) rfl (by decide) ?_
        refine lv_aload_n C.1 C.2.1 dX11_count_51 rfl (lv_at hl 0 rfl) ?_
        refine gt_11_71 C h tx0 fl_X11_349 dX11_count_52 ?_
        obtain ⟨rfl, rfl⟩ := so_inj hM
        exact h_iret C h dX11_count_55
      · have hM := ite_f q2 hM
        by_cases q3 : x1 = 3
        · have hM := ite_t q3 hM
          refine h_tabIn q3 (tgt := 56) C.1 C.2.1 dX11_count_1 (by decide) (by decide) rfl (by decide) ?_
          refine lv_aload_n C.1 C.2.1 dX11_count_56 rfl (lv_at hl 0 rfl) ?_
          refine gt_11_1 C h tx0 fl_X11_171 dX11_count_57 ?_
          obtain ⟨rfl, rfl⟩ := so_inj hM
          exact h_iret C h dX11_count_60
        · have hM := ite_f q3 hM
          by_cases q4 : x1 = 4
          · have hM := ite_t q4 hM
            refine h_tabIn q4 (tgt := 61) C.1 C.2.1 dX11_count_1 (by decide) (by decide) rfl (by decide) ?_
            refine lv_aload_n C.1 C.2.1 dX11_count_61 rfl (lv_at hl 0 rfl) ?_
            refine gt_11_63 C h tx0 fl_X11_365 dX11_count_62 ?_
            obtain ⟨rfl, rfl⟩ := so_inj hM
            exact h_iret C h dX11_count_65
          · have hM := ite_f q4 hM
            refine h_tabOut (tgt := 66) (lo := 0) (n := 5) C.1 C.2.1 dX11_count_1 (by decide) (by decide) (by decide) (fun k hk => ?_) ?_
            · match k, hk with
              | 0, _ => exact q0
              | 1, _ => exact q1
              | 2, _ => exact q2
              | 3, _ => exact q3
              | 4, _ => exact q4
              | k + 5, hk => exact absurd hk (by omega)
            · refine lv_ldc C.1 C.2.1 C.2.2.2.1 (C.2.2.2.2.1 _ co_X11_179) dX11_count_66 ?_
              obtain ⟨rfl, rfl⟩ := so_inj hM
              exact h_iret C h dX11_count_68
theorem cy_X11_count : Cy yX11_count cX11_count 2 (some .int) 1 := ⟨cd_yX11_count, ii_X11, by decide, by decide, by decide +kernel⟩
set_option maxRecDepth 100000 in
theorem c_X11_count {l : Launch} {E : EE} {G : GG} {x0 : Nat} {x1 : Int32} {m m9 : MM} {r9 : Int32} (hM : M_X11_count G x0 x1 m = some (r9, m9)) (tx0 : Ty E G x0 11) : Mc l E yX11_count cX11_count 2 (some .int) rmX11_count [.ref x0, .int x1] G m (cQi E r9 G m9) := M_of (by decide) (Nat.le_of_ble_eq_true rfl) (fun p e s mth below meth c C h ls hl => cM_X11_count C hM tx0 _ _ h ls hl)
abbrev rmX11_clear : Room := { frames := 0, cells := 0, slots := 0, locals := 0 }
def M_X11_clear (G : GG) (x0 : Nat) (m : MM) : Option (Int32 × MM) :=
  nb (gR m x0 6) fun b_1 =>
    ib (gI m x0 3) (G.2.2 b_1) <|
      ib (gI m x0 3) (G.2.2 b_1) <|
        some (gI m b_1 ((gI m x0 3).toNatClampNeg), sI (sI (sI (sI (sI (sI (sI (sI m b_1 ((gI m x0 3).toNatClampNeg) 0) x0 1 0) x0 54 0) x0 55 (-1000009)) x0 61 0) x0 71 0) x0 62 0) x0 63 0)
set_option maxRecDepth 100000 in
set_option maxHeartbeats 4000000 in
theorem cM_X11_clear {p : Program} {l : Launch} {e : Env} {s : State} {mth : MethodId} {args : Array Value} {below : List Frame} {meth : Method} {c : Code} {E : EE} {G : GG} {r9 : Int32} {m9 : MM} (C : Cx E G p s mth args meth c cX11_clear RX11 "clear" 2 (some .int)) {x0 : Nat} {m : MM} (hM : M_X11_clear G x0 m = some (r9, m9)) (tx0 : Ty E G x0 11) : ∀ (H : Heap) (locs : List Loc), Hp E G m s H locs → ∀ ls : Array Slot, lv_has ls 2 [(0, .ref x0)] → W p l e rmX11_clear s mth args below meth c H locs 0 0 (MQ below (cQi E r9 G m9) args s 0 0 (fun q => E.2.2.1 ≤ q)) (F0 mth 0 ls []) := by
  intro H locs h ls hl
  unfold M_X11_clear at hM
  refine lv_aload_n C.1 C.2.1 dX11_clear_0 rfl (lv_at hl 0 rfl) ?_
  refine gt_11_6 C h tx0 fl_X11_16 dX11_clear_1 ?_
  obtain ⟨b_1, hb_1, hM⟩ := nb_some hM
  have tb_1 : Ty E G b_1 12 := (fun b hb => tyf h tx0 hb) _ hb_1
  refine st_ref hb_1 ?_
  refine lv_aload_n C.1 C.2.1 dX11_clear_4 rfl (lv_at hl 0 rfl) ?_
  refine gt_11_3 C h tx0 fl_X11_334 dX11_clear_5 ?_
  obtain ⟨hi, hM⟩ := ib_some hM
  refine h_iald C h tb_1 hi dX11_clear_8 ?_
  refine lv_istore_n (lv' := [(1, .int (gI m b_1 ((gI m x0 3).toNatClampNeg))), (0, .ref x0)]) C.1 C.2.1 dX11_clear_9 rfl hl (by decide) rfl (fun ls hl => ?_)
  refine lv_aload_n C.1 C.2.1 dX11_clear_10 rfl (lv_at hl 1 rfl) ?_
  refine gt_11_6 C h tx0 fl_X11_16 dX11_clear_11 ?_
  refine st_ref hb_1 ?_
  refine lv_aload_n C.1 C.2.1 dX11_clear_14 rfl (lv_at hl 1 rfl) ?_
  refine gt_11_3 C h tx0 fl_X11_334 dX11_clear_15 ?_
  refine lv_iconst (v := 0) C.1 C.2.1 dX11_clear_18 (by decide) ?_
  obtain ⟨hi, hM⟩ := ib_some hM
  refine h_iast C h tb_1 hi dX11_clear_19 (fun H locs h => ?_)
  refine lv_aload_n C.1 C.2.1 dX11_clear_20 rfl (lv_at hl 1 rfl) ?_
  refine lv_iconst (v := 0) C.1 C.2.1 dX11_clear_21 (by decide) ?_
  refine pt_11_1 C h tx0 fl_X11_171 dX11_clear_22 (fun H locs h => ?_)
  refine lv_aload_n C.1 C.2.1 dX11_clear_25 rfl (lv_at hl 1 rfl) ?_
  refine lv_iconst (v := 0) C.1 C.2.1 dX11_clear_26 (by decide) ?_
  refine pt_11_54 C h tx0 fl_X11_343 dX11_clear_27 (fun H locs h => ?_)
  refine lv_aload_n C.1 C.2.1 dX11_clear_30 rfl (lv_at hl 1 rfl) ?_
  refine lv_ldc C.1 C.2.1 C.2.2.2.1 (C.2.2.2.2.1 _ co_X11_133) dX11_clear_31 ?_
  refine pt_11_55 C h tx0 fl_X11_134 dX11_clear_33 (fun H locs h => ?_)
  refine lv_aload_n C.1 C.2.1 dX11_clear_36 rfl (lv_at hl 1 rfl) ?_
  refine lv_iconst (v := 0) C.1 C.2.1 dX11_clear_37 (by decide) ?_
  refine pt_11_61 C h tx0 fl_X11_346 dX11_clear_38 (fun H locs h => ?_)
  refine lv_aload_n C.1 C.2.1 dX11_clear_41 rfl (lv_at hl 1 rfl) ?_
  refine lv_iconst (v := 0) C.1 C.2.1 dX11_clear_42 (by decide) ?_
  refine pt_11_71 C h tx0 fl_X11_349 dX11_clear_43 (fun H locs h => ?_)
  refine lv_aload_n C.1 C.2.1 dX11_clear_46 rfl (lv_at hl 1 rfl) ?_
  refine lv_iconst (v := 0) C.1 C.2.1 dX11_clear_47 (by decide) ?_
  refine pt_11_62 C h tx0 fl_X11_362 dX11_clear_48 (fun H locs h => ?_)
  refine lv_aload_n C.1 C.2.1 dX11_clear_51 rfl (lv_at hl 1 rfl) ?_
  refine lv_iconst (v := 0) C.1 C.2.1 dX11_clear_52 (by decide) ?_
  refine pt_11_63 C h tx0 fl_X11_365 dX11_clear_53 (fun H locs h => ?_)
  refine lv_iload_n C.1 C.2.1 dX11_clear_56 rfl (lv_at hl 0 rfl) ?_
  obtain ⟨rfl, rfl⟩ := so_inj hM
  exact h_iret C h dX11_clear_57
theorem cy_X11_clear : Cy yX11_clear cX11_clear 2 (some .int) 0 := ⟨cd_yX11_clear, ii_X11, by decide, by decide, by decide +kernel⟩
set_option maxRecDepth 100000 in
theorem c_X11_clear {l : Launch} {E : EE} {G : GG} {x0 : Nat} {m m9 : MM} {r9 : Int32} (hM : M_X11_clear G x0 m = some (r9, m9)) (tx0 : Ty E G x0 11) : Mc l E yX11_clear cX11_clear 2 (some .int) rmX11_clear [.ref x0] G m (cQi E r9 G m9) := M_of (by decide) (Nat.le_of_ble_eq_true rfl) (fun p e s mth below meth c C h ls hl => cM_X11_clear C hM tx0 _ _ h ls hl)
