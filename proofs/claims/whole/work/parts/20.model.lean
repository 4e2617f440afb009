abbrev rmX11_in : Room := { frames := 0, cells := 0, slots := 0, locals := 0 }
def M_X11_in (G : GG) (x0 : Int32) (x1 : Int32) (x2 : Int32) (m : MM) : Option (Bool × MM) :=
  if x0 < x1 then
    some (false, m)
  else
    if x2 < x0 then
      some (false, m)
    else
      some (true, m)
set_option maxRecDepth 100000 in
set_option maxHeartbeats 4000000 in
theorem cM_X11_in {p : Program} {l : Launch} {e : Env} {s : State} {mth : MethodId} {args : Array Value} {below : List Frame} {meth : Method} {c : Code} {E : EE} {G : GG} {r9 : Bool} {m9 : MM} (C : Cx E G p s mth args meth c cX11_in RX11 "in" 3 (some .boolean)) {x0 : Int32} {x1 : Int32} {x2 : Int32} {m : MM} (hM : M_X11_in G x0 x1 x2 m = some (r9, m9))  : ∀ (H : Heap) (locs : List Loc), Hp E G m s H locs → ∀ ls : Array Slot, lv_has ls 3 [(0, .int x0), (1, .int x1), (2, .int x2)] → W p l e rmX11_in s mth args below meth c H locs 0 0 (MQ below (cQi E (bz r9) G m9) args s 0 0 (fun q => E.2.2.1 ≤ q)) (F0 mth 0 ls []) := by
  intro H locs h ls hl
  unfold M_X11_in at hM
  refine lv_iload_n C.1 C.2.1 dX11_in_0 rfl (lv_at hl 0 rfl) ?_
  refine lv_iload_n C.1 C.2.1 dX11_in_1 rfl (lv_at hl 1 rfl) ?_
  refine lv_icmp_lt (tgt := 14) C.1 C.2.1 dX11_in_2 (by decide) (fun q => ?_) (fun q => ?_)
  · have hM := ite_t q hM
    refine lv_iconst (v := 0) C.1 C.2.1 dX11_in_14 (by decide) ?_
    obtain ⟨rfl, rfl⟩ := so_inj hM
    exact h_zret C h (bz_ok _).1 dX11_in_15
  · have hM := ite_f q hM
    refine lv_iload_n C.1 C.2.1 dX11_in_5 rfl (lv_at hl 0 rfl) ?_
    refine lv_iload_n C.1 C.2.1 dX11_in_6 rfl (lv_at hl 2 rfl) ?_
    refine lv_icmp_gt (tgt := 14) C.1 C.2.1 dX11_in_7 (by decide) (fun q => ?_) (fun q => ?_)
    · have hM := ite_t q hM
      refine lv_iconst (v := 0) C.1 C.2.1 dX11_in_14 (by decide) ?_
      obtain ⟨rfl, rfl⟩ := so_inj hM
      exact h_zret C h (bz_ok _).1 dX11_in_15
    · have hM := ite_f q hM
      refine lv_iconst (v := 1) C.1 C.2.1 dX11_in_10 (by decide) ?_
      refine lv_goto (tgt := 15) C.1 C.2.1 dX11_in_11 (by decide) ?_
      obtain ⟨rfl, rfl⟩ := so_inj hM
      exact h_zret C h (bz_ok _).1 dX11_in_15
theorem cy_X11_in : Cy yX11_in cX11_in 3 (some .boolean) 3 := ⟨cd_yX11_in, ii_X11, by decide, by decide, by decide +kernel⟩
set_option maxRecDepth 100000 in
theorem c_X11_in {l : Launch} {E : EE} {G : GG} {x0 : Int32} {x1 : Int32} {x2 : Int32} {m m9 : MM} {r9 : Bool} (hM : M_X11_in G x0 x1 x2 m = some (r9, m9))  : Mc l E yX11_in cX11_in 3 (some .boolean) rmX11_in [.int x0, .int x1, .int x2] G m (cQi E (bz r9) G m9) := M_of (by decide) (Nat.le_of_ble_eq_true rfl) (fun p e s mth below meth c C h ls hl => cM_X11_in C hM  _ _ h ls hl)
abbrev rmX11_feed : Room := { frames := 0, cells := 0, slots := 0, locals := 0 }
def B_X11_feed_72 (G : GG) (k19 : Nat → Int32 → Int32 → Int32 → Int32 → Int32 → Int32 → MM → Option (Int32 × MM)) (x0 : Nat) (x1 : Int32) (x2 : Int32) (x3 : Int32) (x4 : Int32) (x5 : Int32) (x6 : Int32) (s0 : Int32) (m : MM) : Option (Int32 × MM) :=
  nb (gR m x0 0) fun b_1 =>
    ib (gI m x0 1) (G.2.2 b_1) <|
      k19 x0 x1 x2 x3 x4 x5 (x6 + 1) (sI (sI m b_1 ((gI m x0 1).toNatClampNeg) ((s0 >>> (24 - (8 * (x6 - x6 / 4 * 4)) &&& 31)) &&& 255)) x0 1 ((gI (sI m b_1 ((gI m x0 1).toNatClampNeg) ((s0 >>> (24 - (8 * (x6 - x6 / 4 * 4)) &&& 31)) &&& 255)) x0 1) + 1))
set_option maxRecDepth 100000 in
set_option maxHeartbeats 4000000 in
theorem cB_X11_feed_72 {p : Program} {l : Launch} {e : Env} {s : State} {mth : MethodId} {args : Array Value} {below : List Frame} {meth : Method} {c : Code} {E : EE} {G : GG} {r9 : Int32} {m9 : MM} {k19 : Nat → Int32 → Int32 → Int32 → Int32 → Int32 → Int32 → MM → Option (Int32 × MM)} (C : Cx E G p s mth args meth c cX11_feed RX11 "feed" 8 (some .int)) (hk19 : ∀ (x0 : Nat) (x1 : Int32) (x2 : Int32) (x3 : Int32) (x4 : Int32) (x5 : Int32) (x6 : Int32) (m : MM), k19 x0 x1 x2 x3 x4 x5 x6 m = some (r9, m9) → (Ty E G x0 11) → ∀ (H : Heap) (locs : List Loc), Hp E G m s H locs → ∀ ls : Array Slot, lv_has ls 8 [(0, .ref x0), (1, .int x1), (2, .int x2), (3, .int x3), (4, .int x4), (5, .int x5), (6, .int x6)] → W p l e rmX11_feed s mth args below meth c H locs 0 0 (MQ below (cQi E r9 G m9) args s 0 0 (fun q => E.2.2.1 ≤ q)) (F0 mth 19 ls [])) {x0 : Nat} {x1 : Int32} {x2 : Int32} {x3 : Int32} {x4 : Int32} {x5 : Int32} {x6 : Int32} {s0 : Int32} {m : MM} (hM : B_X11_feed_72 G k19 x0 x1 x2 x3 x4 x5 x6 s0 m = some (r9, m9)) (tx0 : Ty E G x0 11) : ∀ (H : Heap) (locs : List Loc), Hp E G m s H locs → ∀ ls : Array Slot, lv_has ls 8 [(0, .ref x0), (1, .int x1), (2, .int x2), (3, .int x3), (4, .int x4), (5, .int x5), (6, .int x6)] → W p l e rmX11_feed s mth args below meth c H locs 0 0 (MQ below (cQi E r9 G m9) args s 0 0 (fun q => E.2.2.1 ≤ q)) (F0 mth 72 ls [.int s0]) := by
  intro H locs h ls hl
  unfold B_X11_feed_72 at hM
  refine lv_istore (lv' := [(7, .int s0), (0, .ref x0), (1, .int x1), (2, .int x2), (3, .int x3), (4, .int x4), (5, .int x5), (6, .int x6)]) C.1 C.2.1 dX11_feed_72 hl (by decide) rfl (fun ls hl => ?_)
  refine lv_aload_n C.1 C.2.1 dX11_feed_74 rfl (lv_at hl 1 rfl) ?_
  refine gt_11_0 C h tx0 fl_X11_7 dX11_feed_75 ?_
  obtain ⟨b_1, hb_1, hM⟩ := nb_some hM
  have tb_1 : Ty E G b_1 12 := (fun b hb => tyf h tx0 hb) _ hb_1
  refine st_ref hb_1 ?_
  refine lv_aload_n C.1 C.2.1 dX11_feed_78 rfl (lv_at hl 1 rfl) ?_
  refine gt_11_1 C h tx0 fl_X11_171 dX11_feed_79 ?_
  refine lv_iload C.1 C.2.1 dX11_feed_82 (lv_at hl 0 rfl) ?_
  refine lv_bipush (v := 24) C.1 C.2.1 dX11_feed_84 (by decide) ?_
  refine lv_bipush (v := 8) C.1 C.2.1 dX11_feed_86 (by decide) ?_
  refine lv_iload C.1 C.2.1 dX11_feed_88 (lv_at hl 7 rfl) ?_
  refine lv_iconst (v := 4) C.1 C.2.1 dX11_feed_90 (by decide) ?_
  refine lv_irem C.1 C.2.1 dX11_feed_91 (by decide) ?_
  refine lv_imul C.1 C.2.1 dX11_feed_92 ?_
  refine lv_isub C.1 C.2.1 dX11_feed_93 ?_
  refine lv_ishr C.1 C.2.1 dX11_feed_94 ?_
  refine lv_sipush (v := 255) C.1 C.2.1 dX11_feed_95 (by decide) ?_
  refine lv_iand C.1 C.2.1 dX11_feed_98 ?_
  obtain ⟨hi, hM⟩ := ib_some hM
  refine h_iast C h tb_1 hi dX11_feed_99 (fun H locs h => ?_)
  refine lv_aload_n C.1 C.2.1 dX11_feed_100 rfl (lv_at hl 1 rfl) ?_
  refine lv_dup C.1 C.2.1 dX11_feed_101 rfl ?_
  refine gt_11_1 C h tx0 fl_X11_171 dX11_feed_102 ?_
  refine lv_iconst (v := 1) C.1 C.2.1 dX11_feed_105 (by decide) ?_
  refine lv_iadd C.1 C.2.1 dX11_feed_106 ?_
  refine pt_11_1 C h tx0 fl_X11_171 dX11_feed_107 (fun H locs h => ?_)
  refine lv_iinc (v := x6 + 1) (lv' := [(6, .int (x6 + 1)), (7, .int s0), (0, .ref x0), (1, .int x1), (2, .int x2), (3, .int x3), (4, .int x4), (5, .int x5)]) C.1 C.2.1 dX11_feed_110 hl (k := 7) rfl rfl (by decide) rfl (fun ls hl => ?_)
  refine lv_goto (tgt := 19) C.1 C.2.1 dX11_feed_113 (by decide) ?_
  exact hk19 _ _ _ _ _ _ _ _ hM tx0 _ _ h ls (lv_sub hl [2, 3, 4, 5, 6, 7, 0] rfl)
def B_X11_feed_19 (G : GG) : Nat → Nat → Int32 → Int32 → Int32 → Int32 → Int32 → Int32 → MM → Option (Int32 × MM)
  | 0, _, _, _, _, _, _, _, _ => none
  | fu + 1, x0, x1, x2, x3, x4, x5, x6, m =>
    if 20 ≤ x6 then
      some (gI m x0 1, m)
    else
      if 4 ≤ x6 then
        if 8 ≤ x6 then
          if 12 ≤ x6 then
            if 16 ≤ x6 then
              B_X11_feed_72 G (B_X11_feed_19 G fu) x0 x1 x2 x3 x4 x5 x6 x5 m
            else
              B_X11_feed_72 G (B_X11_feed_19 G fu) x0 x1 x2 x3 x4 x5 x6 x4 m
          else
            B_X11_feed_72 G (B_X11_feed_19 G fu) x0 x1 x2 x3 x4 x5 x6 x3 m
        else
          B_X11_feed_72 G (B_X11_feed_19 G fu) x0 x1 x2 x3 x4 x5 x6 x2 m
      else
        B_X11_feed_72 G (B_X11_feed_19 G fu) x0 x1 x2 x3 x4 x5 x6 x1 m
set_option maxRecDepth 100000 in
set_option maxHeartbeats 4000000 in
theorem cB_X11_feed_19 {p : Program} {l : Launch} {e : Env} {s : State} {mth : MethodId} {args : Array Value} {below : List Frame} {meth : Method} {c : Code} {E : EE} {G : GG} {r9 : Int32} {m9 : MM} (C : Cx E G p s mth args meth c cX11_feed RX11 "feed" 8 (some .int)) : ∀ (fu : Nat) (x0 : Nat) (x1 : Int32) (x2 : Int32) (x3 : Int32) (x4 : Int32) (x5 : Int32) (x6 : Int32) (m : MM), B_X11_feed_19 G fu x0 x1 x2 x3 x4 x5 x6 m = some (r9, m9) → (Ty E G x0 11) → ∀ (H : Heap) (locs : List Loc), Hp E G m s H locs → ∀ ls : Array Slot, lv_has ls 8 [(0, .ref x0), (1, .int x1), (2, .int x2), (3, .int x3), (4, .int x4), (5, .int x5), (6, .int x6)] → W p l e rmX11_feed s mth args below meth c H locs 0 0 (MQ below (cQi E r9 G m9) args s 0 0 (fun q => E.2.2.1 ≤ q)) (F0 mth 19 ls []) := by
  intro fu
  induction fu with
  | zero =>
    intro x0 x1 x2 x3 x4 x5 x6 m hM
    rw [B_X11_feed_19] at hM
    cases hM
  | succ fu ih =>
    intro x0 x1 x2 x3 x4 x5 x6 m hM tx0 H locs h ls hl
    rw [B_X11_feed_19] at hM
    refine lv_iload C.1 C.2.1 dX11_feed_19 (lv_at hl 6 rfl) ?_
    refine lv_bipush (v := 20) C.1 C.2.1 dX11_feed_21 (by decide) ?_
    refine lv_icmp_ge (tgt := 116) C.1 C.2.1 dX11_feed_23 (by decide) (fun q => ?_) (fun q => ?_)
    · have hM := ite_t q hM
      refine lv_aload_n C.1 C.2.1 dX11_feed_116 rfl (lv_at hl 0 rfl) ?_
      refine gt_11_1 C h tx0 fl_X11_171 dX11_feed_117 ?_
      obtain ⟨rfl, rfl⟩ := so_inj hM
      exact h_iret C h dX11_feed_120
    · have hM := ite_f q hM
      refine lv_iload C.1 C.2.1 dX11_feed_26 (lv_at hl 6 rfl) ?_
      refine lv_iconst (v := 4) C.1 C.2.1 dX11_feed_28 (by decide) ?_
      refine lv_icmp_ge (tgt := 36) C.1 C.2.1 dX11_feed_29 (by decide) (fun q => ?_) (fun q => ?_)
      · have hM := ite_t q hM
        refine lv_iload C.1 C.2.1 dX11_feed_36 (lv_at hl 6 rfl) ?_
        refine lv_bipush (v := 8) C.1 C.2.1 dX11_feed_38 (by decide) ?_
        refine lv_icmp_ge (tgt := 47) C.1 C.2.1 dX11_feed_40 (by decide) (fun q => ?_) (fun q => ?_)
        · have hM := ite_t q hM
          refine lv_iload C.1 C.2.1 dX11_feed_47 (lv_at hl 6 rfl) ?_
          refine lv_bipush (v := 12) C.1 C.2.1 dX11_feed_49 (by decide) ?_
          refine lv_icmp_ge (tgt := 58) C.1 C.2.1 dX11_feed_51 (by decide) (fun q => ?_) (fun q => ?_)
          · have hM := ite_t q hM
            refine lv_iload C.1 C.2.1 dX11_feed_58 (lv_at hl 6 rfl) ?_
            refine lv_bipush (v := 16) C.1 C.2.1 dX11_feed_60 (by decide) ?_
            refine lv_icmp_ge (tgt := 70) C.1 C.2.1 dX11_feed_62 (by decide) (fun q => ?_) (fun q => ?_)
            · have hM := ite_t q hM
              refine lv_iload C.1 C.2.1 dX11_feed_70 (lv_at hl 5 rfl) ?_
              exact cB_X11_feed_72 C ih hM tx0 _ _ h ls (lv_sub hl [0, 1, 2, 3, 4, 5, 6] rfl)
            · have hM := ite_f q hM
              refine lv_iload C.1 C.2.1 dX11_feed_65 (lv_at hl 4 rfl) ?_
              refine lv_goto (tgt := 72) C.1 C.2.1 dX11_feed_67 (by decide) ?_
              exact cB_X11_feed_72 C ih hM tx0 _ _ h ls (lv_sub hl [0, 1, 2, 3, 4, 5, 6] rfl)
          · have hM := ite_f q hM
            refine lv_iload_n C.1 C.2.1 dX11_feed_54 rfl (lv_at hl 3 rfl) ?_
            refine lv_goto (tgt := 72) C.1 C.2.1 dX11_feed_55 (by decide) ?_
            exact cB_X11_feed_72 C ih hM tx0 _ _ h ls (lv_sub hl [0, 1, 2, 3, 4, 5, 6] rfl)
        · have hM := ite_f q hM
          refine lv_iload_n C.1 C.2.1 dX11_feed_43 rfl (lv_at hl 2 rfl) ?_
          refine lv_goto (tgt := 72) C.1 C.2.1 dX11_feed_44 (by decide) ?_
          exact cB_X11_feed_72 C ih hM tx0 _ _ h ls (lv_sub hl [0, 1, 2, 3, 4, 5, 6] rfl)
      · have hM := ite_f q hM
        refine lv_iload_n C.1 C.2.1 dX11_feed_32 rfl (lv_at hl 1 rfl) ?_
        refine lv_goto (tgt := 72) C.1 C.2.1 dX11_feed_33 (by decide) ?_
        exact cB_X11_feed_72 C ih hM tx0 _ _ h ls (lv_sub hl [0, 1, 2, 3, 4, 5, 6] rfl)
def M_X11_feed (G : GG) (x0 : Nat) (x1 : Int32) (x2 : Int32) (x3 : Int32) (x4 : Int32) (x5 : Int32) (m : MM) : Option (Int32 × MM) :=
  if ((gI m x0 1) + 20) ≤ 2000 then
    B_X11_feed_19 G FU x0 x1 x2 x3 x4 x5 0 m
  else
    some ((-1000004), m)
set_option maxRecDepth 100000 in
set_option maxHeartbeats 4000000 in
theorem cM_X11_feed {p : Program} {l : Launch} {e : Env} {s : State} {mth : MethodId} {args : Array Value} {below : List Frame} {meth : Method} {c : Code} {E : EE} {G : GG} {r9 : Int32} {m9 : MM} (C : Cx E G p s mth args meth c cX11_feed RX11 "feed" 8 (some .int)) {x0 : Nat} {x1 : Int32} {x2 : Int32} {x3 : Int32} {x4 : Int32} {x5 : Int32} {m : MM} (hM : M_X11_feed G x0 x1 x2 x3 x4 x5 m = some (r9, m9)) (tx0 : Ty E G x0 11) : ∀ (H : Heap) (locs : List Loc), Hp E G m s H locs → ∀ ls : Array Slot, lv_has ls 8 [(0, .ref x0), (1, .int x1), (2, .int x2), (3, .int x3), (4, .int x4), (5, .int x5)] → W p l e rmX11_feed s mth args below meth c H locs 0 0 (MQ below (cQi E r9 G m9) args s 0 0 (fun q => E.2.2.1 ≤ q)) (F0 mth 0 ls []) := by
  intro H locs h ls hl
  unfold M_X11_feed at hM
  refine lv_aload_n C.1 C.2.1 dX11_feed_0 rfl (lv_at hl 0 rfl) ?_
  refine gt_11_1 C h tx0 fl_X11_171 dX11_feed_1 ?_
  refine lv_bipush (v := 20) C.1 C.2.1 dX11_feed_4 (by decide) ?_
  refine lv_iadd C.1 C.2.1 dX11_feed_6 ?_
  refine lv_sipush (v := 2000) C.1 C.2.1 dX11_feed_7 (by decide) ?_
  refine lv_icmp_le (tgt := 16) C.1 C.2.1 dX11_feed_10 (by decide) (fun q => ?_) (fun q => ?_)
  · have hM := ite_t q hM
    refine lv_iconst (v := 0) C.1 C.2.1 dX11_feed_16 (by decide) ?_
    refine lv_istore (lv' := [(6, .int 0), (0, .ref x0), (1, .int x1), (2, .int x2), (3, .int x3), (4, .int x4), (5, .int x5)]) C.1 C.2.1 dX11_feed_17 hl (by decide) rfl (fun ls hl => ?_)
    exact cB_X11_feed_19 C _ _ _ _ _ _ _ _ _ hM tx0 _ _ h ls (lv_sub hl [1, 2, 3, 4, 5, 6, 0] rfl)
  · have hM := ite_f q hM
    refine lv_ldc C.1 C.2.1 C.2.2.2.1 (C.2.2.2.2.1 _ co_X11_174) dX11_feed_13 ?_
    obtain ⟨rfl, rfl⟩ := so_inj hM
    exact h_iret C h dX11_feed_15
theorem cy_X11_feed : Cy yX11_feed cX11_feed 8 (some .int) 5 := ⟨cd_yX11_feed, ii_X11, by decide, by decide, by decide +kernel⟩
set_option maxRecDepth 100000 in
theorem c_X11_feed {l : Launch} {E : EE} {G : GG} {x0 : Nat} {x1 : Int32} {x2 : Int32} {x3 : Int32} {x4 : Int32} {x5 : Int32} {m m9 : MM} {r9 : Int32} (hM : M_X11_feed G x0 x1 x2 x3 x4 x5 m = some (r9, m9)) (tx0 : Ty E G x0 11) : Mc l E yX11_feed cX11_feed 8 (some .int) rmX11_feed [.ref x0, .int x1, .int x2, .int x3, .int x4, .int x5] G m (cQi E r9 G m9) := M_of (by decide) (Nat.le_of_ble_eq_true rfl) (fun p e s mth below meth c C h ls hl => cM_X11_feed C hM tx0 _ _ h ls hl)
abbrev rmX11_end : Room := { frames := 1, cells := 0, slots := 0, locals := 22 }
def M_X11_end (G : GG) (x0 : Nat) (x1 : Int32) (m : MM) : Option (Int32 × MM) :=
  bd (M_X11_in G x1 0 (gI m x0 1) m) fun r_1 m_2 =>
    if r_1 = true then
      some (x1, sI m_2 x0 1 x1)
    else
      some ((-1000002), m_2)
set_option maxRecDepth 100000 in
set_option maxHeartbeats 4000000 in
theorem cM_X11_end {p : Program} {l : Launch} {e : Env} {s : State} {mth : MethodId} {args : Array Value} {below : List Frame} {meth : Method} {c : Code} {E : EE} {G : GG} {r9 : Int32} {m9 : MM} (C : Cx E G p s mth args meth c cX11_end RX11 "end" 2 (some .int)) {x0 : Nat} {x1 : Int32} {m : MM} (hM : M_X11_end G x0 x1 m = some (r9, m9)) (tx0 : Ty E G x0 11) : ∀ (H : Heap) (locs : List Loc), Hp E G m s H locs → ∀ ls : Array Slot, lv_has ls 2 [(0, .ref x0), (1, .int x1)] → W p l e rmX11_end s mth args below meth c H locs 0 0 (MQ below (cQi E r9 G m9) args s 0 0 (fun q => E.2.2.1 ≤ q)) (F0 mth 0 ls []) := by
  intro H locs h ls hl
  unfold M_X11_end at hM
  refine lv_iload_n C.1 C.2.1 dX11_end_0 rfl (lv_at hl 1 rfl) ?_
  refine lv_iconst (v := 0) C.1 C.2.1 dX11_end_1 (by decide) ?_
  refine lv_aload_n C.1 C.2.1 dX11_end_2 rfl (lv_at hl 0 rfl) ?_
  refine gt_11_1 C h tx0 fl_X11_171 dX11_end_3 ?_
  obtain ⟨r_1, m_2, hc_1, hM⟩ := bd_some hM
  refine h_callSi C h (As := [.int x1, .int 0, .int (gI m x0 1)]) (rest := []) (bz r_1) m_2 (c_X11_in hc_1 ) st_yX11_in cy_X11_in rfl ml_X11_175 ⟨by decide, by decide⟩ ⟨Nat.zero_le _, Nat.zero_le _⟩ hl.1 rfl (Nat.le_of_ble_eq_true rfl) dX11_end_6 (fun H locs h => ?_)
  refine h_ifnz (tgt := 15) C.1 C.2.1 dX11_end_9 (by decide) (fun q => ?_) (fun q => ?_)
  · have hM := ite_t q hM
    refine lv_aload_n C.1 C.2.1 dX11_end_15 rfl (lv_at hl 0 rfl) ?_
    refine lv_iload_n C.1 C.2.1 dX11_end_16 rfl (lv_at hl 1 rfl) ?_
    refine pt_11_1 C h tx0 fl_X11_171 dX11_end_17 (fun H locs h => ?_)
    refine lv_iload_n C.1 C.2.1 dX11_end_20 rfl (lv_at hl 1 rfl) ?_
    obtain ⟨rfl, rfl⟩ := so_inj hM
    exact h_iret C h dX11_end_21
  · have hM := ite_f q hM
    refine lv_ldc C.1 C.2.1 C.2.2.2.1 (C.2.2.2.2.1 _ co_X11_179) dX11_end_12 ?_
    obtain ⟨rfl, rfl⟩ := so_inj hM
    exact h_iret C h dX11_end_14
theorem cy_X11_end : Cy yX11_end cX11_end 2 (some .int) 1 := ⟨cd_yX11_end, ii_X11, by decide, by decide, by decide +kernel⟩
set_option maxRecDepth 100000 in
theorem c_X11_end {l : Launch} {E : EE} {G : GG} {x0 : Nat} {x1 : Int32} {m m9 : MM} {r9 : Int32} (hM : M_X11_end G x0 x1 m = some (r9, m9)) (tx0 : Ty E G x0 11) : Mc l E yX11_end cX11_end 2 (some .int) rmX11_end [.ref x0, .int x1] G m (cQi E r9 G m9) := M_of (by decide) (Nat.le_of_ble_eq_true rfl) (fun p e s mth below meth c C h ls hl => cM_X11_end C hM tx0 _ _ h ls hl)
abbrev rmX11_byteAt : Room := { frames := 0, cells := 0, slots := 0, locals := 0 }
def M_X11_byteAt (G : GG) (x0 : Nat) (x1 : Int32) (m : MM) : Option (Int32 × MM) :=
  if (gI m x0 5) ≤ x1 then
    some ((-1), m)
  else
    nb (gR m x0 2) fun b_1 =>
      ib ((2000 * (gI m x0 4)) + x1) (G.2.2 b_1) <|
        some (gI m b_1 (((2000 * (gI m x0 4)) + x1).toNatClampNeg), m)
set_option maxRecDepth 100000 in
set_option maxHeartbeats 4000000 in
theorem cM_X11_byteAt {p : Program} {l : Launch} {e : Env} {s : State} {mth : MethodId} {args : Array Value} {below : List Frame} {meth : Method} {c : Code} {E : EE} {G : GG} {r9 : Int32} {m9 : MM} (C : Cx E G p s mth args meth c cX11_byteAt RX11 "byteAt" 2 (some .int)) {x0 : Nat} {x1 : Int32} {m : MM} (hM : M_X11_byteAt G x0 x1 m = some (r9, m9)) (tx0 : Ty E G x0 11) : ∀ (H : Heap) (locs : List Loc), Hp E G m s H locs → ∀ ls : Array Slot, lv_has ls 2 [(0, .ref x0), (1, .int x1)] → W p l e rmX11_byteAt s mth args below meth c H locs 0 0 (MQ below (cQi E r9 G m9) args s 0 0 (fun q => E.2.2.1 ≤ q)) (F0 mth 0 ls []) := by
  intro H locs h ls hl
  unfold M_X11_byteAt at hM
  refine lv_iload_n C.1 C.2.1 dX11_byteAt_0 rfl (lv_at hl 1 rfl) ?_
  refine lv_aload_n C.1 C.2.1 dX11_byteAt_1 rfl (lv_at hl 0 rfl) ?_
  refine gt_11_5 C h tx0 fl_X11_180 dX11_byteAt_2 ?_
  refine lv_icmp_ge (tgt := 26) C.1 C.2.1 dX11_byteAt_5 (by decide) (fun q => ?_) (fun q => ?_)
  · have hM := ite_t q hM
    refine lv_iconst (v := (-1)) C.1 C.2.1 dX11_byteAt_26 (by decide) ?_
    obtain ⟨rfl, rfl⟩ := so_inj hM
    exact h_iret C h dX11_byteAt_27
  · have hM := ite_f q hM
    refine lv_aload_n C.1 C.2.1 dX11_byteAt_8 rfl (lv_at hl 0 rfl) ?_
    refine gt_11_2 C h tx0 fl_X11_13 dX11_byteAt_9 ?_
    obtain ⟨b_1, hb_1, hM⟩ := nb_some hM
    have tb_1 : Ty E G b_1 12 := (fun b hb => tyf h tx0 hb) _ hb_1
    refine st_ref hb_1 ?_
    refine lv_sipush (v := 2000) C.1 C.2.1 dX11_byteAt_12 (by decide) ?_
    refine lv_aload_n C.1 C.2.1 dX11_byteAt_15 rfl (lv_at hl 0 rfl) ?_
    refine gt_11_4 C h tx0 fl_X11_183 dX11_byteAt_16 ?_
    refine lv_imul C.1 C.2.1 dX11_byteAt_19 ?_
    refine lv_iload_n C.1 C.2.1 dX11_byteAt_20 rfl (lv_at hl 1 rfl) ?_
    refine lv_iadd C.1 C.2.1 dX11_byteAt_21 ?_
    obtain ⟨hi, hM⟩ := ib_some hM
    refine h_iald C h tb_1 hi dX11_byteAt_22 ?_
    refine lv_goto (tgt := 27) C.1 C.2.1 dX11_byteAt_23 (by decide) ?_
    obtain ⟨rfl, rfl⟩ := so_inj hM
    exact h_iret C h dX11_byteAt_27
theorem cy_X11_byteAt : Cy yX11_byteAt cX11_byteAt 2 (some .int) 1 := ⟨cd_yX11_byteAt, ii_X11, by decide, by decide, by decide +kernel⟩
set_option maxRecDepth 100000 in
theorem c_X11_byteAt {l : Launch} {E : EE} {G : GG} {x0 : Nat} {x1 : Int32} {m m9 : MM} {r9 : Int32} (hM : M_X11_byteAt G x0 x1 m = some (r9, m9)) (tx0 : Ty E G x0 11) : Mc l E yX11_byteAt cX11_byteAt 2 (some .int) rmX11_byteAt [.ref x0, .int x1] G m (cQi E r9 G m9) := M_of (by decide) (Nat.le_of_ble_eq_true rfl) (fun p e s mth below meth c C h ls hl => cM_X11_byteAt C hM tx0 _ _ h ls hl)
abbrev rmX11_isLetter : Room := { frames := 0, cells := 0, slots := 0, locals := 0 }
def B_X11_isLetter_12 (G : GG) (x0 : Int32) (m : MM) : Option (Bool × MM) :=
  if x0 < 65 then
    some (false, m)
  else
    if 90 < x0 then
      some (false, m)
    else
      some (true, m)
set_option maxRecDepth 100000 in
set_option maxHeartbeats 4000000 in
theorem cB_X11_isLetter_12 {p : Program} {l : Launch} {e : Env} {s : State} {mth : MethodId} {args : Array Value} {below : List Frame} {meth : Method} {c : Code} {E : EE} {G : GG} {r9 : Bool} {m9 : MM} (C : Cx E G p s mth args meth c cX11_isLetter RX11 "isLetter" 1 (some .boolean)) {x0 : Int32} {m : MM} (hM : B_X11_isLetter_12 G x0 m = some (r9, m9))  : ∀ (H : Heap) (locs : List Loc), Hp E G m s H locs → ∀ ls : Array Slot, lv_has ls 1 [(0, .int x0)] → W p l e rmX11_isLetter s mth args below meth c H locs 0 0 (MQ below (cQi E (bz r9) G m9) args s 0 0 (fun q => E.2.2.1 ≤ q)) (F0 mth 12 ls []) := by
  intro H locs h ls hl
  unfold B_X11_isLetter_12 at hM
  refine lv_iload_n C.1 C.2.1 dX11_isLetter_12 rfl (lv_at hl 0 rfl) ?_
  refine lv_bipush (v := 65) C.1 C.2.1 dX11_isLetter_13 (by decide) ?_
  refine lv_icmp_lt (tgt := 28) C.1 C.2.1 dX11_isLetter_15 (by decide) (fun q => ?_) (fun q => ?_)
  · have hM := ite_t q hM
    refine lv_iconst (v := 0) C.1 C.2.1 dX11_isLetter_28 (by decide) ?_
    obtain ⟨rfl, rfl⟩ := so_inj hM
    exact h_zret C h (bz_ok _).1 dX11_isLetter_29
  · have hM := ite_f q hM
    refine lv_iload_n C.1 C.2.1 dX11_isLetter_18 rfl (lv_at hl 0 rfl) ?_
    refine lv_bipush (v := 90) C.1 C.2.1 dX11_isLetter_19 (by decide) ?_
    refine lv_icmp_gt (tgt := 28) C.1 C.2.1 dX11_isLetter_21 (by decide) (fun q => ?_) (fun q => ?_)
    · have hM := ite_t q hM
      refine lv_iconst (v := 0) C.1 C.2.1 dX11_isLetter_28 (by decide) ?_
      obtain ⟨rfl, rfl⟩ := so_inj hM
      exact h_zret C h (bz_ok _).1 dX11_isLetter_29
    · have hM := ite_f q hM
      refine lv_iconst (v := 1) C.1 C.2.1 dX11_isLetter_24 (by decide) ?_
      refine lv_goto (tgt := 29) C.1 C.2.1 dX11_isLetter_25 (by decide) ?_
      obtain ⟨rfl, rfl⟩ := so_inj hM
      exact h_zret C h (bz_ok _).1 dX11_isLetter_29
def M_X11_isLetter (G : GG) (x0 : Int32) (m : MM) : Option (Bool × MM) :=
  if x0 < 97 then
    B_X11_isLetter_12 G x0 m
  else
    if x0 ≤ 122 then
      some (true, m)
    else
      B_X11_isLetter_12 G x0 m
set_option maxRecDepth 100000 in
set_option maxHeartbeats 4000000 in
theorem cM_X11_isLetter {p : Program} {l : Launch} {e : Env} {s : State} {mth : MethodId} {args : Array Value} {below : List Frame} {meth : Method} {c : Code} {E : EE} {G : GG} {r9 : Bool} {m9 : MM} (C : Cx E G p s mth args meth c cX11_isLetter RX11 "isLetter" 1 (some .boolean)) {x0 : Int32} {m : MM} (hM : M_X11_isLetter G x0 m = some (r9, m9))  : ∀ (H : Heap) (locs : List Loc), Hp E G m s H locs → ∀ ls : Array Slot, lv_has ls 1 [(0, .int x0)] → W p l e rmX11_isLetter s mth args below meth c H locs 0 0 (MQ below (cQi E (bz r9) G m9) args s 0 0 (fun q => E.2.2.1 ≤ q)) (F0 mth 0 ls []) := by
  intro H locs h ls hl
  unfold M_X11_isLetter at hM
  refine lv_iload_n C.1 C.2.1 dX11_isLetter_0 rfl (lv_at hl 0 rfl) ?_
  refine lv_bipush (v := 97) C.1 C.2.1 dX11_isLetter_1 (by decide) ?_
  refine lv_icmp_lt (tgt := 12) C.1 C.2.1 dX11_isLetter_3 (by decide) (fun q => ?_) (fun q => ?_)
  · have hM := ite_t q hM
    exact cB_X11_isLetter_12 C hM  _ _ h ls (lv_sub hl [0] rfl)
  · have hM := ite_f q hM
    refine lv_iload_n C.1 C.2.1 dX11_isLetter_6 rfl (lv_at hl 0 rfl) ?_
    refine lv_bipush (v := 122) C.1 C.2.1 dX11_isLetter_7 (by decide) ?_
    refine lv_icmp_le (tgt := 24) C.1 C.2.1 dX11_isLetter_9 (by decide) (fun q => ?_) (fun q => ?_)
    · have hM := ite_t q hM
      refine lv_iconst (v := 1) C.1 C.2.1 dX11_isLetter_24 (by decide) ?_
      refine lv_goto (tgt := 29) C.1 C.2.1 dX11_isLetter_25 (by decide) ?_
      obtain ⟨rfl, rfl⟩ := so_inj hM
      exact h_zret C h (bz_ok _).1 dX11_isLetter_29
    · have hM := ite_f q hM
      exact cB_X11_isLetter_12 C hM  _ _ h ls (lv_sub hl [0] rfl)
theorem cy_X11_isLetter : Cy yX11_isLetter cX11_isLetter 1 (some .boolean) 1 := ⟨cd_yX11_isLetter, ii_X11, by decide, by decide, by decide +kernel⟩
set_option maxRecDepth 100000 in
theorem c_X11_isLetter {l : Launch} {E : EE} {G : GG} {x0 : Int32} {m m9 : MM} {r9 : Bool} (hM : M_X11_isLetter G x0 m = some (r9, m9))  : Mc l E yX11_isLetter cX11_isLetter 1 (some .boolean) rmX11_isLetter [.int x0] G m (cQi E (bz r9) G m9) := M_of (by decide) (Nat.le_of_ble_eq_true rfl) (fun p e s mth below meth c C h ls hl => cM_X11_isLetter C hM  _ _ h ls hl)
abbrev rmX11_isDigit : Room := { frames := 0, cells := 0, slots := 0, locals := 0 }
def M_X11_isDigit (G : GG) (x0 : Int32) (m : MM) : Option (Bool × MM) :=
  if x0 < 48 then
    some (false, m)
  else
    if 57 < x0 then
      some (false, m)
    else
      some (true, m)
set_option maxRecDepth 100000 in
set_option maxHeartbeats 4000000 in
theorem cM_X11_isDigit {p : Program} {l : Launch} {e : Env} {s : State} {mth : MethodId} {args : Array Value} {below : List Frame} {meth : Method} {c : Code} {E : EE} {G : GG} {r9 : Bool} {m9 : MM} (C : Cx E G p s mth args meth c cX11_isDigit RX11 "isDigit" 1 (some .boolean)) {x0 : Int32} {m : MM} (hM : M_X11_isDigit G x0 m = some (r9, m9))  : ∀ (H : Heap) (locs : List Loc), Hp E G m s H locs → ∀ ls : Array Slot, lv_has ls 1 [(0, .int x0)] → W p l e rmX11_isDigit s mth args below meth c H locs 0 0 (MQ below (cQi E (bz r9) G m9) args s 0 0 (fun q => E.2.2.1 ≤ q)) (F0 mth 0 ls []) := by
  intro H locs h ls hl
  unfold M_X11_isDigit at hM
  refine lv_iload_n C.1 C.2.1 dX11_isDigit_0 rfl (lv_at hl 0 rfl) ?_
  refine lv_bipush (v := 48) C.1 C.2.1 dX11_isDigit_1 (by decide) ?_
  refine lv_icmp_lt (tgt := 16) C.1 C.2.1 dX11_isDigit_3 (by decide) (fun q => ?_) (fun q => ?_)
  · have hM := ite_t q hM
    refine lv_iconst (v := 0) C.1 C.2.1 dX11_isDigit_16 (by decide) ?_
    obtain ⟨rfl, rfl⟩ := so_inj hM
    exact h_zret C h (bz_ok _).1 dX11_isDigit_17
  · have hM := ite_f q hM
    refine lv_iload_n C.1 C.2.1 dX11_isDigit_6 rfl (lv_at hl 0 rfl) ?_
    refine lv_bipush (v := 57) C.1 C.2.1 dX11_isDigit_7 (by decide) ?_
    refine lv_icmp_gt (tgt := 16) C.1 C.2.1 dX11_isDigit_9 (by decide) (fun q => ?_) (fun q => ?_)
    · have hM := ite_t q hM
      refine lv_iconst (v := 0) C.1 C.2.1 dX11_isDigit_16 (by decide) ?_
      obtain ⟨rfl, rfl⟩ := so_inj hM
      exact h_zret C h (bz_ok _).1 dX11_isDigit_17
    · have hM := ite_f q hM
      refine lv_iconst (v := 1) C.1 C.2.1 dX11_isDigit_12 (by decide) ?_
      refine lv_goto (tgt := 17) C.1 C.2.1 dX11_isDigit_13 (by decide) ?_
      obtain ⟨rfl, rfl⟩ := so_inj hM
      exact h_zret C h (bz_ok _).1 dX11_isDigit_17
theorem cy_X11_isDigit : Cy yX11_isDigit cX11_isDigit 1 (some .boolean) 1 := ⟨cd_yX11_isDigit, ii_X11, by decide, by decide, by decide +kernel⟩
set_option maxRecDepth 100000 in
theorem c_X11_isDigit {l : Launch} {E : EE} {G : GG} {x0 : Int32} {m m9 : MM} {r9 : Bool} (hM : M_X11_isDigit G x0 m = some (r9, m9))  : Mc l E yX11_isDigit cX11_isDigit 1 (some .boolean) rmX11_isDigit [.int x0] G m (cQi E (bz r9) G m9) := M_of (by decide) (Nat.le_of_ble_eq_true rfl) (fun p e s mth below meth c C h ls hl => cM_X11_isDigit C hM  _ _ h ls hl)
abbrev rmX11_isSign : Room := { frames := 0, cells := 0, slots := 0, locals := 0 }
def M_X11_isSign (G : GG) (x0 : Int32) (m : MM) : Option (Bool × MM) :=
  if x0 = 123 then
    some (true, m)
  else
    if x0 = 125 then
      some (true, m)
    else
      if x0 = 40 then
        some (true, m)
      else
        if x0 = 41 then
          some (true, m)
        else
          if x0 = 44 then
            some (true, m)
          else
            if x0 = 59 then
              some (true, m)
            else
              if x0 = 61 then
                some (true, m)
              else
                if x0 = 43 then
                  some (true, m)
                else
                  if x0 = 45 then
                    some (true, m)
                  else
                    if x0 = 42 then
                      some (true, m)
                    else
                      if x0 = 47 then
                        some (true, m)
                      else
                        if x0 = 46 then
                          some (true, m)
                        else
                          some (false, m)
set_option maxRecDepth 100000 in
set_option maxHeartbeats 4000000 in
theorem cM_X11_isSign {p : Program} {l : Launch} {e : Env} {s : State} {mth : MethodId} {args : Array Value} {below : List Frame} {meth : Method} {c : Code} {E : EE} {G : GG} {r9 : Bool} {m9 : MM} (C : Cx E G p s mth args meth c cX11_isSign RX11 "isSign" 1 (some .boolean)) {x0 : Int32} {m : MM} (hM : M_X11_isSign G x0 m = some (r9, m9))  : ∀ (H : Heap) (locs : List Loc), Hp E G m s H locs → ∀ ls : Array Slot, lv_has ls 1 [(0, .int x0)] → W p l e rmX11_isSign s mth args below meth c H locs 0 0 (MQ below (cQi E (bz r9) G m9) args s 0 0 (fun q => E.2.2.1 ≤ q)) (F0 mth 0 ls []) := by
  intro H locs h ls hl
  unfold M_X11_isSign at hM
  refine lv_iload_n C.1 C.2.1 dX11_isSign_0 rfl (lv_at hl 0 rfl) ?_
  refine lv_bipush (v := 123) C.1 C.2.1 dX11_isSign_1 (by decide) ?_
  refine lv_icmp_eq (tgt := 72) C.1 C.2.1 dX11_isSign_3 (by decide) (fun q => ?_) (fun q => ?_)
  · have hM := ite_t q hM
    refine lv_iconst (v := 1) C.1 C.2.1 dX11_isSign_72 (by decide) ?_
    refine lv_goto (tgt := 77) C.1 C.2.1 dX11_isSign_73 (by decide) ?_
    obtain ⟨rfl, rfl⟩ := so_inj hM
    exact h_zret C h (bz_ok _).1 dX11_isSign_77
  · have hM := ite_f q hM
    refine lv_iload_n C.1 C.2.1 dX11_isSign_6 rfl (lv_at hl 0 rfl) ?_
    refine lv_bipush (v := 125) C.1 C.2.1 dX11_isSign_7 (by decide) ?_
    refine lv_icmp_eq (tgt := 72) C.1 C.2.1 dX11_isSign_9 (by decide) (fun q => ?_) (fun q => ?_)
    · have hM := ite_t q hM
      refine lv_iconst (v := 1) C.1 C.2.1 dX11_isSign_72 (by decide) ?_
      refine lv_goto (tgt := 77) C.1 C.2.1 dX11_isSign_73 (by decide) ?_
      obtain ⟨rfl, rfl⟩ := so_inj hM
      exact h_zret C h (bz_ok _).1 dX11_isSign_77
    · have hM := ite_f q hM
      refine lv_iload_n C.1 C.2.1 dX11_isSign_12 rfl (lv_at hl 0 rfl) ?_
      refine lv_bipush (v := 40) C.1 C.2.1 dX11_isSign_13 (by decide) ?_
      refine lv_icmp_eq (tgt := 72) C.1 C.2.1 dX11_isSign_15 (by decide) (fun q => ?_) (fun q => ?_)
      · have hM := ite_t q hM
        refine lv_iconst (v := 1) C.1 C.2.1 dX11_isSign_72 (by decide) ?_
        refine lv_goto (tgt := 77) C.1 C.2.1 dX11_isSign_73 (by decide) ?_
        obtain ⟨rfl, rfl⟩ := so_inj hM
        exact h_zret C h (bz_ok _).1 dX11_isSign_77
      · have hM := ite_f q hM
        refine lv_iload_n C.1 C.2.1 dX11_isSign_18 rfl (lv_at hl 0 rfl) ?_
        refine lv_bipush (v := 41) C.1 C.2.1 dX11_isSign_19 (by decide) ?_
        refine lv_icmp_eq (tgt := 72) C.1 C.2.1 dX11_isSign_21 (by decide) (fun q => ?_) (fun q => ?_)
        · have hM := ite_t q hM
          refine lv_iconst (v := 1) C.1 C.2.1 dX11_isSign_72 (by decide) ?_
          refine lv_goto (tgt := 77) C.1 C.2.1 dX11_isSign_73 (by decide) ?_
          obtain ⟨rfl, rfl⟩ := so_inj hM
          exact h_zret C h (bz_ok _).1 dX11_isSign_77
        · have hM := ite_f q hM
          refine lv_iload_n C.1 C.2.1 dX11_isSign_24 rfl (lv_at hl 0 rfl) ?_
          refine lv_bipush (v := 44) C.1 C.2.1 dX11_isSign_25 (by decide) ?_
          refine lv_icmp_eq (tgt := 72) C.1 C.2.1 dX11_isSign_27 (by decide) (fun q => ?_) (fun q => ?_)
          · have hM := ite_t q hM
            refine lv_iconst (v := 1) C.1 C.2.1 dX11_isSign_72 (by decide) ?_
            refine lv_goto (tgt := 77) C.1 C.2.1 dX11_isSign_73 (by decide) ?_
            obtain ⟨rfl, rfl⟩ := so_inj hM
            exact h_zret C h (bz_ok _).1 dX11_isSign_77
          · have hM := ite_f q hM
            refine lv_iload_n C.1 C.2.1 dX11_isSign_30 rfl (lv_at hl 0 rfl) ?_
            refine lv_bipush (v := 59) C.1 C.2.1 dX11_isSign_31 (by decide) ?_
            refine lv_icmp_eq (tgt := 72) C.1 C.2.1 dX11_isSign_33 (by decide) (fun q => ?_) (fun q => ?_)
            · have hM := ite_t q hM
              refine lv_iconst (v := 1) C.1 C.2.1 dX11_isSign_72 (by decide) ?_
              refine lv_goto (tgt := 77) C.1 C.2.1 dX11_isSign_73 (by decide) ?_
              obtain ⟨rfl, rfl⟩ := so_inj hM
              exact h_zret C h (bz_ok _).1 dX11_isSign_77
            · have hM := ite_f q hM
              refine lv_iload_n C.1 C.2.1 dX11_isSign_36 rfl (lv_at hl 0 rfl) ?_
              refine lv_bipush (v := 61) C.1 C.2.1 dX11_isSign_37 (by decide) ?_
              refine lv_icmp_eq (tgt := 72) C.1 C.2.1 dX11_isSign_39 (by decide) (fun q => ?_) (fun q => ?_)
              · have hM := ite_t q hM
                refine lv_iconst (v := 1) C.1 C.2.1 dX11_isSign_72 (by decide) ?_
                refine lv_goto (tgt := 77) C.1 C.2.1 dX11_isSign_73 (by decide) ?_
                obtain ⟨rfl, rfl⟩ := so_inj hM
                exact h_zret C h (bz_ok _).1 dX11_isSign_77
              · have hM := ite_f q hM
                refine lv_iload_n C.1 C.2.1 dX11_isSign_42 rfl (lv_at hl 0 rfl) ?_
                refine lv_bipush (v := 43) C.1 C.2.1 dX11_isSign_43 (by decide) ?_
                refine lv_icmp_eq (tgt := 72) C.1 C.2.1 dX11_isSign_45 (by decide) (fun q => ?_) (fun q => ?_)
                · have hM := ite_t q hM
                  refine lv_iconst (v := 1) C.1 C.2.1 dX11_isSign_72 (by decide) ?_
                  refine lv_goto (tgt := 77) C.1 C.2.1 dX11_isSign_73 (by decide) ?_
                  obtain ⟨rfl, rfl⟩ := so_inj hM
                  exact h_zret C h (bz_ok _).1 dX11_isSign_77
                · have hM := ite_f q hM
                  refine lv_iload_n C.1 C.2.1 dX11_isSign_48 rfl (lv_at hl 0 rfl) ?_
                  refine lv_bipush (v := 45) C.1 C.2.1 dX11_isSign_49 (by decide) ?_
                  refine lv_icmp_eq (tgt := 72) C.1 C.2.1 dX11_isSign_51 (by decide) (fun q => ?_) (fun q => ?_)
                  · have hM := ite_t q hM
                    refine lv_iconst (v := 1) C.1 C.2.1 dX11_isSign_72 (by decide) ?_
                    refine lv_goto (tgt := 77) C.1 C.2.1 dX11_isSign_73 (by decide) ?_
                    obtain ⟨rfl, rfl⟩ := so_inj hM
                    exact h_zret C h (bz_ok _).1 dX11_isSign_77
                  · have hM := ite_f q hM
                    refine lv_iload_n C.1 C.2.1 dX11_isSign_54 rfl (lv_at hl 0 rfl) ?_
                    refine lv_bipush (v := 42) C.1 C.2.1 dX11_isSign_55 (by decide) ?_
                    refine lv_icmp_eq (tgt := 72) C.1 C.2.1 dX11_isSign_57 (by decide) (fun q => ?_) (fun q => ?_)
                    · have hM := ite_t q hM
                      refine lv_iconst (v := 1) C.1 C.2.1 dX11_isSign_72 (by decide) ?_
                      refine lv_goto (tgt := 77) C.1 C.2.1 dX11_isSign_73 (by decide) ?_
                      obtain ⟨rfl, rfl⟩ := so_inj hM
                      exact h_zret C h (bz_ok _).1 dX11_isSign_77
                    · have hM := ite_f q hM
                      refine lv_iload_n C.1 C.2.1 dX11_isSign_60 rfl (lv_at hl 0 rfl) ?_
                      refine lv_bipush (v := 47) C.1 C.2.1 dX11_isSign_61 (by decide) ?_
                      refine lv_icmp_eq (tgt := 72) C.1 C.2.1 dX11_isSign_63 (by decide) (fun q => ?_) (fun q => ?_)
                      · have hM := ite_t q hM
                        refine lv_iconst (v := 1) C.1 C.2.1 dX11_isSign_72 (by decide) ?_
                        refine lv_goto (tgt := 77) C.1 C.2.1 dX11_isSign_73 (by decide) ?_
                        obtain ⟨rfl, rfl⟩ := so_inj hM
                        exact h_zret C h (bz_ok _).1 dX11_isSign_77
                      · have hM := ite_f q hM
                        refine lv_iload_n C.1 C.2.1 dX11_isSign_66 rfl (lv_at hl 0 rfl) ?_
                        refine lv_bipush (v := 46) C.1 C.2.1 dX11_isSign_67 (by decide) ?_
                        refine lv_icmp_ne (tgt := 76) C.1 C.2.1 dX11_isSign_69 (by decide) (fun q => ?_) (fun q => ?_)
                        · have hM := ite_f q hM
                          refine lv_iconst (v := 0) C.1 C.2.1 dX11_isSign_76 (by decide) ?_
                          obtain ⟨rfl, rfl⟩ := so_inj hM
                          exact h_zret C h (bz_ok _).1 dX11_isSign_77
                        · have hM := ite_t q hM
                          refine lv_iconst (v := 1) C.1 C.2.1 dX11_isSign_72 (by decide) ?_
                          refine lv_goto (tgt := 77) C.1 C.2.1 dX11_isSign_73 (by decide) ?_
                          obtain ⟨rfl, rfl⟩ := so_inj hM
                          exact h_zret C h (bz_ok _).1 dX11_isSign_77
theorem cy_X11_isSign : Cy yX11_isSign cX11_isSign 1 (some .boolean) 1 := ⟨cd_yX11_isSign, ii_X11, by decide, by decide, by decide +kernel⟩
set_option maxRecDepth 100000 in
theorem c_X11_isSign {l : Launch} {E : EE} {G : GG} {x0 : Int32} {m m9 : MM} {r9 : Bool} (hM : M_X11_isSign G x0 m = some (r9, m9))  : Mc l E yX11_isSign cX11_isSign 1 (some .boolean) rmX11_isSign [.int x0] G m (cQi E (bz r9) G m9) := M_of (by decide) (Nat.le_of_ble_eq_true rfl) (fun p e s mth below meth c C h ls hl => cM_X11_isSign C hM  _ _ h ls hl)
abbrev rmX11_spells : Room := { frames := 1, cells := 0, slots := 0, locals := 21 }
def B_X11_spells_18 (G : GG) : Nat → Nat → Int64 → Int32 → Bool → Int32 → MM → Option (Bool × MM)
  | 0, _, _, _, _, _, _ => none
  | fu + 1, x0, x1, x3, x4, x5, m =>
    if x3 ≤ x5 then
      some (x4, m)
    else
      if x4 = true then
        bd (M_X11_byteAt G x0 ((gI m x0 42) + x5) m) fun r_1 m_2 =>
          if r_1 = (((x1 >>> ((8 * ((x3 - 1) - x5)).toInt64 &&& 63)) &&& 255).toInt32) then
            B_X11_spells_18 G fu x0 x1 x3 true (x5 + 1) m_2
          else
            B_X11_spells_18 G fu x0 x1 x3 false (x5 + 1) m_2
      else
        some (x4, m)
set_option maxRecDepth 100000 in
set_option maxHeartbeats 4000000 in
theorem cB_X11_spells_18 {p : Program} {l : Launch} {e : Env} {s : State} {mth : MethodId} {args : Array Value} {below : List Frame} {meth : Method} {c : Code} {E : EE} {G : GG} {r9 : Bool} {m9 : MM} (C : Cx E G p s mth args meth c cX11_spells RX11 "spells" 6 (some .boolean)) : ∀ (fu : Nat) (x0 : Nat) (x1 : Int64) (x3 : Int32) (x4 : Bool) (x5 : Int32) (m : MM), B_X11_spells_18 G fu x0 x1 x3 x4 x5 m = some (r9, m9) → (Ty E G x0 11) → ∀ (H : Heap) (locs : List Loc), Hp E G m s H locs → ∀ ls : Array Slot, lv_has ls 6 [(0, .ref x0), (1, .long x1), (3, .int x3), (4, .int (bz x4)), (5, .int x5)] → W p l e rmX11_spells s mth args below meth c H locs 0 0 (MQ below (cQi E (bz r9) G m9) args s 0 0 (fun q => E.2.2.1 ≤ q)) (F0 mth 18 ls []) := by
  intro fu
  induction fu with
  | zero =>
    intro x0 x1 x3 x4 x5 m hM
    rw [B_X11_spells_18] at hM
    cases hM
  | succ fu ih =>
    intro x0 x1 x3 x4 x5 m hM tx0 H locs h ls hl
    rw [B_X11_spells_18] at hM
    refine lv_iload C.1 C.2.1 dX11_spells_18 (lv_at hl 4 rfl) ?_
    refine lv_iload_n C.1 C.2.1 dX11_spells_20 rfl (lv_at hl 2 rfl) ?_
    refine lv_icmp_ge (tgt := 72) C.1 C.2.1 dX11_spells_21 (by decide) (fun q => ?_) (fun q => ?_)
    · have hM := ite_t q hM
      refine lv_iload C.1 C.2.1 dX11_spells_72 (lv_at hl 3 rfl) ?_
      obtain ⟨rfl, rfl⟩ := so_inj hM
      exact h_zret C h (bz_ok _).1 dX11_spells_74
    · have hM := ite_f q hM
      refine lv_iload C.1 C.2.1 dX11_spells_24 (lv_at hl 3 rfl) ?_
      refine h_ifz (tgt := 72) C.1 C.2.1 dX11_spells_26 (by decide) (fun q => ?_) (fun q => ?_)
      · have hM := ite_f q hM
        refine lv_iload C.1 C.2.1 dX11_spells_72 (lv_at hl 3 rfl) ?_
        obtain ⟨rfl, rfl⟩ := so_inj hM
        exact h_zret C h (bz_ok _).1 dX11_spells_74
      · have hM := ite_t q hM
        refine lv_aload_n C.1 C.2.1 dX11_spells_29 rfl (lv_at hl 0 rfl) ?_
        refine lv_aload_n C.1 C.2.1 dX11_spells_30 rfl (lv_at hl 0 rfl) ?_
        refine gt_11_42 C h tx0 fl_X11_193 dX11_spells_31 ?_
        refine lv_iload C.1 C.2.1 dX11_spells_34 (lv_at hl 4 rfl) ?_
        refine lv_iadd C.1 C.2.1 dX11_spells_36 ?_
        obtain ⟨r_1, m_2, hc_1, hM⟩ := bd_some hM
        refine h_callVi C h (As := [.int ((gI m x0 42) + x5)]) (rest := []) r_1 m_2 (c_X11_byteAt hc_1 tx0) 11 rfl (by decide) tx0 im_yX11_byteAt se_yX11_byteAt cy_X11_byteAt rfl ml_X11_189 ⟨by decide, by decide⟩ ⟨Nat.zero_le _, Nat.zero_le _⟩ hl.1 rfl (Nat.le_of_ble_eq_true rfl) dX11_spells_37 (fun H locs h => ?_)
        refine lv_lload_n C.1 C.2.1 dX11_spells_40 rfl (lv_at hl 1 rfl) ?_
        refine lv_bipush (v := 8) C.1 C.2.1 dX11_spells_41 (by decide) ?_
        refine lv_iload_n C.1 C.2.1 dX11_spells_43 rfl (lv_at hl 2 rfl) ?_
        refine lv_iconst (v := 1) C.1 C.2.1 dX11_spells_44 (by decide) ?_
        refine lv_isub C.1 C.2.1 dX11_spells_45 ?_
        refine lv_iload C.1 C.2.1 dX11_spells_46 (lv_at hl 4 rfl) ?_
        refine lv_isub C.1 C.2.1 dX11_spells_48 ?_
        refine lv_imul C.1 C.2.1 dX11_spells_49 ?_
        refine lv_lshr (v := x1 >>> ((8 * ((x3 - 1) - x5)).toInt64 &&& 63)) C.1 C.2.1 dX11_spells_50 rfl ?_
        refine lv_ldc2 C.1 C.2.1 C.2.2.2.1 (C.2.2.2.2.1 _ cj_X11_219) dX11_spells_51 ?_
        refine lv_land C.1 C.2.1 dX11_spells_54 ?_
        refine lv_l2i (v := ((x1 >>> ((8 * ((x3 - 1) - x5)).toInt64 &&& 63)) &&& 255).toInt32) C.1 C.2.1 dX11_spells_55 rfl ?_
        refine lv_icmp_ne (tgt := 63) C.1 C.2.1 dX11_spells_56 (by decide) (fun q => ?_) (fun q => ?_)
        · have hM := ite_f q hM
          refine lv_iconst (v := 0) C.1 C.2.1 dX11_spells_63 (by decide) ?_
          refine lv_istore (lv' := [(4, .int 0), (0, .ref x0), (1, .long x1), (3, .int x3), (5, .int x5)]) C.1 C.2.1 dX11_spells_64 hl (by decide) rfl (fun ls hl => ?_)
          refine lv_iinc (v := x5 + 1) (lv' := [(5, .int (x5 + 1)), (4, .int 0), (0, .ref x0), (1, .long x1), (3, .int x3)]) C.1 C.2.1 dX11_spells_66 hl (k := 4) rfl rfl (by decide) rfl (fun ls hl => ?_)
          refine lv_goto (tgt := 18) C.1 C.2.1 dX11_spells_69 (by decide) ?_
          exact ih _ _ _ _ _ _ hM tx0 _ _ h ls (lv_sub hl [2, 3, 4, 1, 0] rfl)
        · have hM := ite_t q hM
          refine lv_iconst (v := 1) C.1 C.2.1 dX11_spells_59 (by decide) ?_
          refine lv_goto (tgt := 64) C.1 C.2.1 dX11_spells_60 (by decide) ?_
          refine lv_istore (lv' := [(4, .int 1), (0, .ref x0), (1, .long x1), (3, .int x3), (5, .int x5)]) C.1 C.2.1 dX11_spells_64 hl (by decide) rfl (fun ls hl => ?_)
          refine lv_iinc (v := x5 + 1) (lv' := [(5, .int (x5 + 1)), (4, .int 1), (0, .ref x0), (1, .long x1), (3, .int x3)]) C.1 C.2.1 dX11_spells_66 hl (k := 4) rfl rfl (by decide) rfl (fun ls hl => ?_)
          refine lv_goto (tgt := 18) C.1 C.2.1 dX11_spells_69 (by decide) ?_
          exact ih _ _ _ _ _ _ hM tx0 _ _ h ls (lv_sub hl [2, 3, 4, 1, 0] rfl)
def M_X11_spells (G : GG) (x0 : Nat) (x1 : Int64) (x3 : Int32) (m : MM) : Option (Bool × MM) :=
  if (gI m x0 43) = x3 then
    B_X11_spells_18 G FU x0 x1 x3 true 0 m
  else
    B_X11_spells_18 G FU x0 x1 x3 false 0 m
set_option maxRecDepth 100000 in
set_option maxHeartbeats 4000000 in
theorem cM_X11_spells {p : Program} {l : Launch} {e : Env} {s : State} {mth : MethodId} {args : Array Value} {below : List Frame} {meth : Method} {c : Code} {E : EE} {G : GG} {r9 : Bool} {m9 : MM} (C : Cx E G p s mth args meth c cX11_spells RX11 "spells" 6 (some .boolean)) {x0 : Nat} {x1 : Int64} {x3 : Int32} {m : MM} (hM : M_X11_spells G x0 x1 x3 m = some (r9, m9)) (tx0 : Ty E G x0 11) : ∀ (H : Heap) (locs : List Loc), Hp E G m s H locs → ∀ ls : Array Slot, lv_has ls 6 [(0, .ref x0), (1, .long x1), (3, .int x3)] → W p l e rmX11_spells s mth args below meth c H locs 0 0 (MQ below (cQi E (bz r9) G m9) args s 0 0 (fun q => E.2.2.1 ≤ q)) (F0 mth 0 ls []) := by
  intro H locs h ls hl
  unfold M_X11_spells at hM
  refine lv_aload_n C.1 C.2.1 dX11_spells_0 rfl (lv_at hl 0 rfl) ?_
  refine gt_11_43 C h tx0 fl_X11_206 dX11_spells_1 ?_
  refine lv_iload_n C.1 C.2.1 dX11_spells_4 rfl (lv_at hl 2 rfl) ?_
  refine lv_icmp_ne (tgt := 12) C.1 C.2.1 dX11_spells_5 (by decide) (fun q => ?_) (fun q => ?_)
  · have hM := ite_f q hM
    refine lv_iconst (v := 0) C.1 C.2.1 dX11_spells_12 (by decide) ?_
    refine lv_istore (lv' := [(4, .int 0), (0, .ref x0), (1, .long x1), (3, .int x3)]) C.1 C.2.1 dX11_spells_13 hl (by decide) rfl (fun ls hl => ?_)
    refine lv_iconst (v := 0) C.1 C.2.1 dX11_spells_15 (by decide) ?_
    refine lv_istore (lv' := [(5, .int 0), (4, .int 0), (0, .ref x0), (1, .long x1), (3, .int x3)]) C.1 C.2.1 dX11_spells_16 hl (by decide) rfl (fun ls hl => ?_)
    exact cB_X11_spells_18 C _ _ _ _ _ _ _ hM tx0 _ _ h ls (lv_sub hl [2, 3, 4, 1, 0] rfl)
  · have hM := ite_t q hM
    refine lv_iconst (v := 1) C.1 C.2.1 dX11_spells_8 (by decide) ?_
    refine lv_goto (tgt := 13) C.1 C.2.1 dX11_spells_9 (by decide) ?_
    refine lv_istore (lv' := [(4, .int 1), (0, .ref x0), (1, .long x1), (3, .int x3)]) C.1 C.2.1 dX11_spells_13 hl (by decide) rfl (fun ls hl => ?_)
    refine lv_iconst (v := 0) C.1 C.2.1 dX11_spells_15 (by decide) ?_
    refine lv_istore (lv' := [(5, .int 0), (4, .int 1), (0, .ref x0), (1, .long x1), (3, .int x3)]) C.1 C.2.1 dX11_spells_16 hl (by decide) rfl (fun ls hl => ?_)
    exact cB_X11_spells_18 C _ _ _ _ _ _ _ hM tx0 _ _ h ls (lv_sub hl [2, 3, 4, 1, 0] rfl)
theorem cy_X11_spells : Cy yX11_spells cX11_spells 6 (some .boolean) 2 := ⟨cd_yX11_spells, ii_X11, by decide, by decide, by decide +kernel⟩
set_option maxRecDepth 100000 in
theorem c_X11_spells {l : Launch} {E : EE} {G : GG} {x0 : Nat} {x1 : Int64} {x3 : Int32} {m m9 : MM} {r9 : Bool} (hM : M_X11_spells G x0 x1 x3 m = some (r9, m9)) (tx0 : Ty E G x0 11) : Mc l E yX11_spells cX11_spells 6 (some .boolean) rmX11_spells [.ref x0, .long x1, .int x3] G m (cQi E (bz r9) G m9) := M_of (by decide) (Nat.le_of_ble_eq_true rfl) (fun p e s mth below meth c C h ls hl => cM_X11_spells C hM tx0 _ _ h ls hl)
abbrev rmX11_wordAt : Room := { frames := 2, cells := 0, slots := 0, locals := 46 }
def M_X11_wordAt (G : GG) (x0 : Nat) (m : MM) : Option (Int32 × MM) :=
  bd (M_X11_spells G x0 1701737837 4 m) fun r_1 m_2 =>
    if r_1 = true then
      some (20, m_2)
    else
      bd (M_X11_spells G x0 7017298113369039732 8 m_2) fun r_3 m_4 =>
        if r_3 = true then
          some (21, m_4)
        else
          bd (M_X11_spells G x0 6579558 3 m_4) fun r_5 m_6 =>
            if r_5 = true then
              some (22, m_6)
            else
              bd (M_X11_spells G x0 439854918756 5 m_6) fun r_7 m_8 =>
                if r_7 = true then
                  some (23, m_8)
                else
                  bd (M_X11_spells G x0 427071271796 5 m_8) fun r_9 m_10 =>
                    if r_9 = true then
                      some (24, m_10)
                    else
                      bd (M_X11_spells G x0 469785863538 5 m_10) fun r_11 m_12 =>
                        if r_11 = true then
                          some (25, m_12)
                        else
                          bd (M_X11_spells G x0 6386279 3 m_12) fun r_13 m_14 =>
                            if r_13 = true then
                              some (26, m_14)
                            else
                              bd (M_X11_spells G x0 7758188 3 m_14) fun r_15 m_16 =>
                                if r_15 = true then
                                  some (27, m_16)
                                else
                                  bd (M_X11_spells G x0 482854658917 5 m_16) fun r_17 m_18 =>
                                    if r_17 = true then
                                      some (28, m_18)
                                    else
                                      some (1, m_18)
set_option maxRecDepth 100000 in
set_option maxHeartbeats 4000000 in
theorem cM_X11_wordAt {p : Program} {l : Launch} {e : Env} {s : State} {mth : MethodId} {args : Array Value} {below : List Frame} {meth : Method} {c : Code} {E : EE} {G : GG} {r9 : Int32} {m9 : MM} (C : Cx E G p s mth args meth c cX11_wordAt RX11 "wordAt" 1 (some .int)) {x0 : Nat} {m : MM} (hM : M_X11_wordAt G x0 m = some (r9, m9)) (tx0 : Ty E G x0 11) : ∀ (H : Heap) (locs : List Loc), Hp E G m s H locs → ∀ ls : Array Slot, lv_has ls 1 [(0, .ref x0)] → W p l e rmX11_wordAt s mth args below meth c H locs 0 0 (MQ below (cQi E r9 G m9) args s 0 0 (fun q => E.2.2.1 ≤ q)) (F0 mth 0 ls []) := by
  intro H locs h ls hl
  unfold M_X11_wordAt at hM
  refine lv_aload_n C.1 C.2.1 dX11_wordAt_0 rfl (lv_at hl 0 rfl) ?_
  refine lv_ldc2 C.1 C.2.1 C.2.2.2.1 (C.2.2.2.2.1 _ cj_X11_221) dX11_wordAt_1 ?_
  refine lv_iconst (v := 4) C.1 C.2.1 dX11_wordAt_4 (by decide) ?_
  obtain ⟨r_1, m_2, hc_1, hM⟩ := bd_some hM
  refine h_callVi C h (As := [.long 1701737837, .int 4]) (rest := []) (bz r_1) m_2 (c_X11_spells hc_1 tx0) 11 rfl (by decide) tx0 im_yX11_spells se_yX11_spells cy_X11_spells rfl ml_X11_223 ⟨by decide, by decide⟩ ⟨Nat.zero_le _, Nat.zero_le _⟩ hl.1 rfl (Nat.le_of_ble_eq_true rfl) dX11_wordAt_5 (fun H locs h => ?_)
  refine h_ifz (tgt := 16) C.1 C.2.1 dX11_wordAt_8 (by decide) (fun q => ?_) (fun q => ?_)
  · have hM := ite_f q hM
    refine lv_aload_n C.1 C.2.1 dX11_wordAt_16 rfl (lv_at hl 0 rfl) ?_
    refine lv_ldc2 C.1 C.2.1 C.2.2.2.1 (C.2.2.2.2.1 _ cj_X11_227) dX11_wordAt_17 ?_
    refine lv_bipush (v := 8) C.1 C.2.1 dX11_wordAt_20 (by decide) ?_
    obtain ⟨r_3, m_4, hc_3, hM⟩ := bd_some hM
    refine h_callVi C h (As := [.long 7017298113369039732, .int 8]) (rest := []) (bz r_3) m_4 (c_X11_spells hc_3 tx0) 11 rfl (by decide) tx0 im_yX11_spells se_yX11_spells cy_X11_spells rfl ml_X11_223 ⟨by decide, by decide⟩ ⟨Nat.zero_le _, Nat.zero_le _⟩ hl.1 rfl (Nat.le_of_ble_eq_true rfl) dX11_wordAt_22 (fun H locs h => ?_)
    refine h_ifz (tgt := 33) C.1 C.2.1 dX11_wordAt_25 (by decide) (fun q => ?_) (fun q => ?_)
    · have hM := ite_f q hM
      refine lv_aload_n C.1 C.2.1 dX11_wordAt_33 rfl (lv_at hl 0 rfl) ?_
      refine lv_ldc2 C.1 C.2.1 C.2.2.2.1 (C.2.2.2.2.1 _ cj_X11_229) dX11_wordAt_34 ?_
      refine lv_iconst (v := 3) C.1 C.2.1 dX11_wordAt_37 (by decide) ?_
      obtain ⟨r_5, m_6, hc_5, hM⟩ := bd_some hM
      refine h_callVi C h (As := [.long 6579558, .int 3]) (rest := []) (bz r_5) m_6 (c_X11_spells hc_5 tx0) 11 rfl (by decide) tx0 im_yX11_spells se_yX11_spells cy_X11_spells rfl ml_X11_223 ⟨by decide, by decide⟩ ⟨Nat.zero_le _, Nat.zero_le _⟩ hl.1 rfl (Nat.le_of_ble_eq_true rfl) dX11_wordAt_38 (fun H locs h => ?_)
      refine h_ifz (tgt := 49) C.1 C.2.1 dX11_wordAt_41 (by decide) (fun q => ?_) (fun q => ?_)
      · have hM := ite_f q hM
        refine lv_aload_n C.1 C.2.1 dX11_wordAt_49 rfl (lv_at hl 0 rfl) ?_
        refine lv_ldc2 C.1 C.2.1 C.2.2.2.1 (C.2.2.2.2.1 _ cj_X11_231) dX11_wordAt_50 ?_
        refine lv_iconst (v := 5) C.1 C.2.1 dX11_wordAt_53 (by decide) ?_
        obtain ⟨r_7, m_8, hc_7, hM⟩ := bd_some hM
        refine h_callVi C h (As := [.long 439854918756, .int 5]) (rest := []) (bz r_7) m_8 (c_X11_spells hc_7 tx0) 11 rfl (by decide) tx0 im_yX11_spells se_yX11_spells cy_X11_spells rfl ml_X11_223 ⟨by decide, by decide⟩ ⟨Nat.zero_le _, Nat.zero_le _⟩ hl.1 rfl (Nat.le_of_ble_eq_true rfl) dX11_wordAt_54 (fun H locs h => ?_)
        refine h_ifz (tgt := 65) C.1 C.2.1 dX11_wordAt_57 (by decide) (fun q => ?_) (fun q => ?_)
        · have hM := ite_f q hM
          refine lv_aload_n C.1 C.2.1 dX11_wordAt_65 rfl (lv_at hl 0 rfl) ?_
          refine lv_ldc2 C.1 C.2.1 C.2.2.2.1 (C.2.2.2.2.1 _ cj_X11_233) dX11_wordAt_66 ?_
          refine lv_iconst (v := 5) C.1 C.2.1 dX11_wordAt_69 (by decide) ?_
          obtain ⟨r_9, m_10, hc_9, hM⟩ := bd_some hM
          refine h_callVi C h (As := [.long 427071271796, .int 5]) (rest := []) (bz r_9) m_10 (c_X11_spells hc_9 tx0) 11 rfl (by decide) tx0 im_yX11_spells se_yX11_spells cy_X11_spells rfl ml_X11_223 ⟨by decide, by decide⟩ ⟨Nat.zero_le _, Nat.zero_le _⟩ hl.1 rfl (Nat.le_of_ble_eq_true rfl) dX11_wordAt_70 (fun H locs h => ?_)
          refine h_ifz (tgt := 81) C.1 C.2.1 dX11_wordAt_73 (by decide) (fun q => ?_) (fun q => ?_)
          · have hM := ite_f q hM
            refine lv_aload_n C.1 C.2.1 dX11_wordAt_81 rfl (lv_at hl 0 rfl) ?_
            refine lv_ldc2 C.1 C.2.1 C.2.2.2.1 (C.2.2.2.2.1 _ cj_X11_235) dX11_wordAt_82 ?_
            refine lv_iconst (v := 5) C.1 C.2.1 dX11_wordAt_85 (by decide) ?_
            obtain ⟨r_11, m_12, hc_11, hM⟩ := bd_some hM
            refine h_callVi C h (As := [.long 469785863538, .int 5]) (rest := []) (bz r_11) m_12 (c_X11_spells hc_11 tx0) 11 rfl (by decide) tx0 im_yX11_spells se_yX11_spells cy_X11_spells rfl ml_X11_223 ⟨by decide, by decide⟩ ⟨Nat.zero_le _, Nat.zero_le _⟩ hl.1 rfl (Nat.le_of_ble_eq_true rfl) dX11_wordAt_86 (fun H locs h => ?_)
            refine h_ifz (tgt := 97) C.1 C.2.1 dX11_wordAt_89 (by decide) (fun q => ?_) (fun q => ?_)
            · have hM := ite_f q hM
              refine lv_aload_n C.1 C.2.1 dX11_wordAt_97 rfl (lv_at hl 0 rfl) ?_
              refine lv_ldc2 C.1 C.2.1 C.2.2.2.1 (C.2.2.2.2.1 _ cj_X11_237) dX11_wordAt_98 ?_
              refine lv_iconst (v := 3) C.1 C.2.1 dX11_wordAt_101 (by decide) ?_
              obtain ⟨r_13, m_14, hc_13, hM⟩ := bd_some hM
              refine h_callVi C h (As := [.long 6386279, .int 3]) (rest := []) (bz r_13) m_14 (c_X11_spells hc_13 tx0) 11 rfl (by decide) tx0 im_yX11_spells se_yX11_spells cy_X11_spells rfl ml_X11_223 ⟨by decide, by decide⟩ ⟨Nat.zero_le _, Nat.zero_le _⟩ hl.1 rfl (Nat.le_of_ble_eq_true rfl) dX11_wordAt_102 (fun H locs h => ?_)
              refine h_ifz (tgt := 113) C.1 C.2.1 dX11_wordAt_105 (by decide) (fun q => ?_) (fun q => ?_)
              · have hM := ite_f q hM
                refine lv_aload_n C.1 C.2.1 dX11_wordAt_113 rfl (lv_at hl 0 rfl) ?_
                refine lv_ldc2 C.1 C.2.1 C.2.2.2.1 (C.2.2.2.2.1 _ cj_X11_239) dX11_wordAt_114 ?_
                refine lv_iconst (v := 3) C.1 C.2.1 dX11_wordAt_117 (by decide) ?_
                obtain ⟨r_15, m_16, hc_15, hM⟩ := bd_some hM
                refine h_callVi C h (As := [.long 7758188, .int 3]) (rest := []) (bz r_15) m_16 (c_X11_spells hc_15 tx0) 11 rfl (by decide) tx0 im_yX11_spells se_yX11_spells cy_X11_spells rfl ml_X11_223 ⟨by decide, by decide⟩ ⟨Nat.zero_le _, Nat.zero_le _⟩ hl.1 rfl (Nat.le_of_ble_eq_true rfl) dX11_wordAt_118 (fun H locs h => ?_)
                refine h_ifz (tgt := 129) C.1 C.2.1 dX11_wordAt_121 (by decide) (fun q => ?_) (fun q => ?_)
                · have hM := ite_f q hM
                  refine lv_aload_n C.1 C.2.1 dX11_wordAt_129 rfl (lv_at hl 0 rfl) ?_
                  refine lv_ldc2 C.1 C.2.1 C.2.2.2.1 (C.2.2.2.2.1 _ cj_X11_241) dX11_wordAt_130 ?_
                  refine lv_iconst (v := 5) C.1 C.2.1 dX11_wordAt_133 (by decide) ?_
                  obtain ⟨r_17, m_18, hc_17, hM⟩ := bd_some hM
                  refine h_callVi C h (As := [.long 482854658917, .int 5]) (rest := []) (bz r_17) m_18 (c_X11_spells hc_17 tx0) 11 rfl (by decide) tx0 im_yX11_spells se_yX11_spells cy_X11_spells rfl ml_X11_223 ⟨by decide, by decide⟩ ⟨Nat.zero_le _, Nat.zero_le _⟩ hl.1 rfl (Nat.le_of_ble_eq_true rfl) dX11_wordAt_134 (fun H locs h => ?_)
                  refine h_ifz (tgt := 145) C.1 C.2.1 dX11_wordAt_137 (by decide) (fun q => ?_) (fun q => ?_)
                  · have hM := ite_f q hM
                    refine lv_iconst (v := 1) C.1 C.2.1 dX11_wordAt_145 (by decide) ?_
                    obtain ⟨rfl, rfl⟩ := so_inj hM
                    exact h_iret C h dX11_wordAt_146
                  · have hM := ite_t q hM
                    refine lv_bipush (v := 28) C.1 C.2.1 dX11_wordAt_140 (by decide) ?_
                    refine lv_goto (tgt := 146) C.1 C.2.1 dX11_wordAt_142 (by decide) ?_
                    obtain ⟨rfl, rfl⟩ := so_inj hM
                    exact h_iret C h dX11_wordAt_146
                · have hM := ite_t q hM
                  refine lv_bipush (v := 27) C.1 C.2.1 dX11_wordAt_124 (by decide) ?_
                  refine lv_goto (tgt := 146) C.1 C.2.1 dX11_wordAt_126 (by decide) ?_
                  obtain ⟨rfl, rfl⟩ := so_inj hM
                  exact h_iret C h dX11_wordAt_146
              · have hM := ite_t q hM
                refine lv_bipush (v := 26) C.1 C.2.1 dX11_wordAt_108 (by decide) ?_
                refine lv_goto (tgt := 146) C.1 C.2.1 dX11_wordAt_110 (by decide) ?_
                obtain ⟨rfl, rfl⟩ := so_inj hM
                exact h_iret C h dX11_wordAt_146
            · have hM := ite_t q hM
              refine lv_bipush (v := 25) C.1 C.2.1 dX11_wordAt_92 (by decide) ?_
              refine lv_goto (tgt := 146) C.1 C.2.1 dX11_wordAt_94 (by decide) ?_
              obtain ⟨rfl, rfl⟩ := so_inj hM
              exact h_iret C h dX11_wordAt_146
          · have hM := ite_t q hM
            refine lv_bipush (v := 24) C.1 C.2.1 dX11_wordAt_76 (by decide) ?_
            refine lv_goto (tgt := 146) C.1 C.2.1 dX11_wordAt_78 (by decide) ?_
            obtain ⟨rfl, rfl⟩ := so_inj hM
            exact h_iret C h dX11_wordAt_146
        · have hM := ite_t q hM
          refine lv_bipush (v := 23) C.1 C.2.1 dX11_wordAt_60 (by decide) ?_
          refine lv_goto (tgt := 146) C.1 C.2.1 dX11_wordAt_62 (by decide) ?_
          obtain ⟨rfl, rfl⟩ := so_inj hM
          exact h_iret C h dX11_wordAt_146
      · have hM := ite_t q hM
        refine lv_bipush (v := 22) C.1 C.2.1 dX11_wordAt_44 (by decide) ?_
        refine lv_goto (tgt := 146) C.1 C.2.1 dX11_wordAt_46 (by decide) ?_
        obtain ⟨rfl, rfl⟩ := so_inj hM
        exact h_iret C h dX11_wordAt_146
    · have hM := ite_t q hM
      refine lv_bipush (v := 21) C.1 C.2.1 dX11_wordAt_28 (by decide) ?_
      refine lv_goto (tgt := 146) C.1 C.2.1 dX11_wordAt_30 (by decide) ?_
      obtain ⟨rfl, rfl⟩ := so_inj hM
      exact h_iret C h dX11_wordAt_146
  · have hM := ite_t q hM
    refine lv_bipush (v := 20) C.1 C.2.1 dX11_wordAt_11 (by decide) ?_
    refine lv_goto (tgt := 146) C.1 C.2.1 dX11_wordAt_13 (by decide) ?_
    obtain ⟨rfl, rfl⟩ := so_inj hM
    exact h_iret C h dX11_wordAt_146
theorem cy_X11_wordAt : Cy yX11_wordAt cX11_wordAt 1 (some .int) 0 := ⟨cd_yX11_wordAt, ii_X11, by decide, by decide, by decide +kernel⟩
set_option maxRecDepth 100000 in
theorem c_X11_wordAt {l : Launch} {E : EE} {G : GG} {x0 : Nat} {m m9 : MM} {r9 : Int32} (hM : M_X11_wordAt G x0 m = some (r9, m9)) (tx0 : Ty E G x0 11) : Mc l E yX11_wordAt cX11_wordAt 1 (some .int) rmX11_wordAt [.ref x0] G m (cQi E r9 G m9) := M_of (by decide) (Nat.le_of_ble_eq_true rfl) (fun p e s mth below meth c C h ls hl => cM_X11_wordAt C hM tx0 _ _ h ls hl)
abbrev rmX11_next : Room := { frames := 3, cells := 0, slots := 0, locals := 66 }
def B_X11_next_165 (G : GG) : Nat → Nat → MM → Option (Unit × MM)
  | 0, _, _ => none
  | fu + 1, x0, m =>
    bd (M_X11_byteAt G x0 (gI m x0 41) m) fun r_1 m_2 =>
      bd (M_X11_isDigit G r_1 m_2) fun r_3 m_4 =>
        if r_3 = true then
          if 9 ≤ ((gI m_4 x0 41) - (gI m_4 x0 42)) then
            some ((), sI m_4 x0 44 2)
          else
            bd (M_X11_byteAt G x0 (gI m_4 x0 41) m_4) fun r_5 m_6 =>
              B_X11_next_165 G fu x0 (sI (sI m_6 x0 45 (((10 * (gI m_4 x0 45)) + r_5) - 48)) x0 41 ((gI (sI m_6 x0 45 (((10 * (gI m_4 x0 45)) + r_5) - 48)) x0 41) + 1))
        else
          some ((), sI m_4 x0 44 2)
set_option maxRecDepth 100000 in
set_option maxHeartbeats 4000000 in
theorem cB_X11_next_165 {p : Program} {l : Launch} {e : Env} {s : State} {mth : MethodId} {args : Array Value} {below : List Frame} {meth : Method} {c : Code} {E : EE} {G : GG} {r9 : Unit} {m9 : MM} (C : Cx E G p s mth args meth c cX11_next RX11 "next" 2 none) : ∀ (fu : Nat) (x0 : Nat) (m : MM), B_X11_next_165 G fu x0 m = some (r9, m9) → (Ty E G x0 11) → ∀ (H : Heap) (locs : List Loc), Hp E G m s H locs → ∀ ls : Array Slot, lv_has ls 2 [(0, .ref x0)] → W p l e rmX11_next s mth args below meth c H locs 0 0 (MQ below (cQv E G m9) args s 0 0 (fun q => E.2.2.1 ≤ q)) (F0 mth 165 ls []) := by
  intro fu
  induction fu with
  | zero =>
    intro x0 m hM
    rw [B_X11_next_165] at hM
    cases hM
  | succ fu ih =>
    intro x0 m hM tx0 H locs h ls hl
    rw [B_X11_next_165] at hM
    refine lv_aload_n C.1 C.2.1 dX11_next_165 rfl (lv_at hl 0 rfl) ?_
    refine lv_aload_n C.1 C.2.1 dX11_next_166 rfl (lv_at hl 0 rfl) ?_
    refine gt_11_41 C h tx0 fl_X11_186 dX11_next_167 ?_
    obtain ⟨r_1, m_2, hc_1, hM⟩ := bd_some hM
    refine h_callVi C h (As := [.int (gI m x0 41)]) (rest := []) r_1 m_2 (c_X11_byteAt hc_1 tx0) 11 rfl (by decide) tx0 im_yX11_byteAt se_yX11_byteAt cy_X11_byteAt rfl ml_X11_189 ⟨by decide, by decide⟩ ⟨Nat.zero_le _, Nat.zero_le _⟩ hl.1 rfl (Nat.le_of_ble_eq_true rfl) dX11_next_170 (fun H locs h => ?_)
    obtain ⟨r_3, m_4, hc_3, hM⟩ := bd_some hM
    refine h_callSi C h (As := [.int r_1]) (rest := []) (bz r_3) m_4 (c_X11_isDigit hc_3 ) st_yX11_isDigit cy_X11_isDigit rfl ml_X11_203 ⟨by decide, by decide⟩ ⟨Nat.zero_le _, Nat.zero_le _⟩ hl.1 rfl (Nat.le_of_ble_eq_true rfl) dX11_next_173 (fun H locs h => ?_)
    refine h_ifz (tgt := 229) C.1 C.2.1 dX11_next_176 (by decide) (fun q => ?_) (fun q => ?_)
    · have hM := ite_f q hM
      refine lv_aload_n C.1 C.2.1 dX11_next_229 rfl (lv_at hl 0 rfl) ?_
      refine lv_iconst (v := 2) C.1 C.2.1 dX11_next_230 (by decide) ?_
      refine pt_11_44 C h tx0 fl_X11_196 dX11_next_231 (fun H locs h => ?_)
      refine lv_goto (tgt := 268) C.1 C.2.1 dX11_next_234 (by decide) ?_
      obtain ⟨rfl, rfl⟩ := so_inj hM
      exact h_vret C h dX11_next_268
    · have hM := ite_t q hM
      refine lv_aload_n C.1 C.2.1 dX11_next_179 rfl (lv_at hl 0 rfl) ?_
      refine gt_11_41 C h tx0 fl_X11_186 dX11_next_180 ?_
      refine lv_aload_n C.1 C.2.1 dX11_next_183 rfl (lv_at hl 0 rfl) ?_
      refine gt_11_42 C h tx0 fl_X11_193 dX11_next_184 ?_
      refine lv_isub C.1 C.2.1 dX11_next_187 ?_
      refine lv_bipush (v := 9) C.1 C.2.1 dX11_next_188 (by decide) ?_
      refine lv_icmp_ge (tgt := 229) C.1 C.2.1 dX11_next_190 (by decide) (fun q => ?_) (fun q => ?_)
      · have hM := ite_t q hM
        refine lv_aload_n C.1 C.2.1 dX11_next_229 rfl (lv_at hl 0 rfl) ?_
        refine lv_iconst (v := 2) C.1 C.2.1 dX11_next_230 (by decide) ?_
        refine pt_11_44 C h tx0 fl_X11_196 dX11_next_231 (fun H locs h => ?_)
        refine lv_goto (tgt := 268) C.1 C.2.1 dX11_next_234 (by decide) ?_
        obtain ⟨rfl, rfl⟩ := so_inj hM
        exact h_vret C h dX11_next_268
      · have hM := ite_f q hM
        refine lv_aload_n C.1 C.2.1 dX11_next_193 rfl (lv_at hl 0 rfl) ?_
        refine lv_bipush (v := 10) C.1 C.2.1 dX11_next_194 (by decide) ?_
        refine lv_aload_n C.1 C.2.1 dX11_next_196 rfl (lv_at hl 0 rfl) ?_
        refine gt_11_45 C h tx0 fl_X11_213 dX11_next_197 ?_
        refine lv_imul C.1 C.2.1 dX11_next_200 ?_
        refine lv_aload_n C.1 C.2.1 dX11_next_201 rfl (lv_at hl 0 rfl) ?_
        refine lv_aload_n C.1 C.2.1 dX11_next_202 rfl (lv_at hl 0 rfl) ?_
        refine gt_11_41 C h tx0 fl_X11_186 dX11_next_203 ?_
        obtain ⟨r_5, m_6, hc_5, hM⟩ := bd_some hM
        refine h_callVi C h (As := [.int (gI m_4 x0 41)]) (rest := [.int (10 * (gI m_4 x0 45)), .ref x0]) r_5 m_6 (c_X11_byteAt hc_5 tx0) 11 rfl (by decide) tx0 im_yX11_byteAt se_yX11_byteAt cy_X11_byteAt rfl ml_X11_189 ⟨by decide, by decide⟩ ⟨Nat.zero_le _, Nat.zero_le _⟩ hl.1 rfl (Nat.le_of_ble_eq_true rfl) dX11_next_206 (fun H locs h => ?_)
        refine lv_iadd C.1 C.2.1 dX11_next_209 ?_
        refine lv_bipush (v := 48) C.1 C.2.1 dX11_next_210 (by decide) ?_
        refine lv_isub C.1 C.2.1 dX11_next_212 ?_
        refine pt_11_45 C h tx0 fl_X11_213 dX11_next_213 (fun H locs h => ?_)
        refine lv_aload_n C.1 C.2.1 dX11_next_216 rfl (lv_at hl 0 rfl) ?_
        refine lv_dup C.1 C.2.1 dX11_next_217 rfl ?_
        refine gt_11_41 C h tx0 fl_X11_186 dX11_next_218 ?_
        refine lv_iconst (v := 1) C.1 C.2.1 dX11_next_221 (by decide) ?_
        refine lv_iadd C.1 C.2.1 dX11_next_222 ?_
        refine pt_11_41 C h tx0 fl_X11_186 dX11_next_223 (fun H locs h => ?_)
        refine lv_goto (tgt := 165) C.1 C.2.1 dX11_next_226 (by decide) ?_
        exact ih _ _ hM tx0 _ _ h ls (lv_sub hl [0] rfl)
def B_X11_next_75 (G : GG) : Nat → Nat → MM → Option (Unit × MM)
  | 0, _, _ => none
  | fu + 1, x0, m =>
    bd (M_X11_byteAt G x0 (gI m x0 41) m) fun r_7 m_8 =>
      bd (M_X11_isLetter G r_7 m_8) fun r_9 m_10 =>
        if r_9 = true then
          B_X11_next_75 G fu x0 (sI m_10 x0 41 ((gI m_10 x0 41) + 1))
        else
          bd (M_X11_byteAt G x0 (gI m_10 x0 41) m_10) fun r_11 m_12 =>
            bd (M_X11_isDigit G r_11 m_12) fun r_13 m_14 =>
              if r_13 = true then
                B_X11_next_75 G fu x0 (sI m_14 x0 41 ((gI m_14 x0 41) + 1))
              else
                if (gI (sI m_14 x0 43 ((gI m_14 x0 41) - (gI m_14 x0 42))) x0 43) ≤ 12 then
                  bd (M_X11_wordAt G x0 (sI m_14 x0 43 ((gI m_14 x0 41) - (gI m_14 x0 42)))) fun r_15 m_16 =>
                    some ((), sI m_16 x0 44 r_15)
                else
                  some ((), sI (sI m_14 x0 43 ((gI m_14 x0 41) - (gI m_14 x0 42))) x0 44 4)
set_option maxRecDepth 100000 in
set_option maxHeartbeats 4000000 in
theorem cB_X11_next_75 {p : Program} {l : Launch} {e : Env} {s : State} {mth : MethodId} {args : Array Value} {below : List Frame} {meth : Method} {c : Code} {E : EE} {G : GG} {r9 : Unit} {m9 : MM} (C : Cx E G p s mth args meth c cX11_next RX11 "next" 2 none) : ∀ (fu : Nat) (x0 : Nat) (m : MM), B_X11_next_75 G fu x0 m = some (r9, m9) → (Ty E G x0 11) → ∀ (H : Heap) (locs : List Loc), Hp E G m s H locs → ∀ ls : Array Slot, lv_has ls 2 [(0, .ref x0)] → W p l e rmX11_next s mth args below meth c H locs 0 0 (MQ below (cQv E G m9) args s 0 0 (fun q => E.2.2.1 ≤ q)) (F0 mth 75 ls []) := by
  intro fu
  induction fu with
  | zero =>
    intro x0 m hM
    rw [B_X11_next_75] at hM
    cases hM
  | succ fu ih =>
    intro x0 m hM tx0 H locs h ls hl
    rw [B_X11_next_75] at hM
    refine lv_aload_n C.1 C.2.1 dX11_next_75 rfl (lv_at hl 0 rfl) ?_
    refine lv_aload_n C.1 C.2.1 dX11_next_76 rfl (lv_at hl 0 rfl) ?_
    refine gt_11_41 C h tx0 fl_X11_186 dX11_next_77 ?_
    obtain ⟨r_7, m_8, hc_7, hM⟩ := bd_some hM
    refine h_callVi C h (As := [.int (gI m x0 41)]) (rest := []) r_7 m_8 (c_X11_byteAt hc_7 tx0) 11 rfl (by decide) tx0 im_yX11_byteAt se_yX11_byteAt cy_X11_byteAt rfl ml_X11_189 ⟨by decide, by decide⟩ ⟨Nat.zero_le _, Nat.zero_le _⟩ hl.1 rfl (Nat.le_of_ble_eq_true rfl) dX11_next_80 (fun H locs h => ?_)
    obtain ⟨r_9, m_10, hc_9, hM⟩ := bd_some hM
    refine h_callSi C h (As := [.int r_7]) (rest := []) (bz r_9) m_10 (c_X11_isLetter hc_9 ) st_yX11_isLetter cy_X11_isLetter rfl ml_X11_199 ⟨by decide, by decide⟩ ⟨Nat.zero_le _, Nat.zero_le _⟩ hl.1 rfl (Nat.le_of_ble_eq_true rfl) dX11_next_83 (fun H locs h => ?_)
    refine h_ifnz (tgt := 103) C.1 C.2.1 dX11_next_86 (by decide) (fun q => ?_) (fun q => ?_)
    · have hM := ite_t q hM
      refine lv_aload_n C.1 C.2.1 dX11_next_103 rfl (lv_at hl 0 rfl) ?_
      refine lv_dup C.1 C.2.1 dX11_next_104 rfl ?_
      refine gt_11_41 C h tx0 fl_X11_186 dX11_next_105 ?_
      refine lv_iconst (v := 1) C.1 C.2.1 dX11_next_108 (by decide) ?_
      refine lv_iadd C.1 C.2.1 dX11_next_109 ?_
      refine pt_11_41 C h tx0 fl_X11_186 dX11_next_110 (fun H locs h => ?_)
      refine lv_goto (tgt := 75) C.1 C.2.1 dX11_next_113 (by decide) ?_
      exact ih _ _ hM tx0 _ _ h ls (lv_sub hl [0] rfl)
    · have hM := ite_f q hM
      refine lv_aload_n C.1 C.2.1 dX11_next_89 rfl (lv_at hl 0 rfl) ?_
      refine lv_aload_n C.1 C.2.1 dX11_next_90 rfl (lv_at hl 0 rfl) ?_
      refine gt_11_41 C h tx0 fl_X11_186 dX11_next_91 ?_
      obtain ⟨r_11, m_12, hc_11, hM⟩ := bd_some hM
      refine h_callVi C h (As := [.int (gI m_10 x0 41)]) (rest := []) r_11 m_12 (c_X11_byteAt hc_11 tx0) 11 rfl (by decide) tx0 im_yX11_byteAt se_yX11_byteAt cy_X11_byteAt rfl ml_X11_189 ⟨by decide, by decide⟩ ⟨Nat.zero_le _, Nat.zero_le _⟩ hl.1 rfl (Nat.le_of_ble_eq_true rfl) dX11_next_94 (fun H locs h => ?_)
      obtain ⟨r_13, m_14, hc_13, hM⟩ := bd_some hM
      refine h_callSi C h (As := [.int r_11]) (rest := []) (bz r_13) m_14 (c_X11_isDigit hc_13 ) st_yX11_isDigit cy_X11_isDigit rfl ml_X11_203 ⟨by decide, by decide⟩ ⟨Nat.zero_le _, Nat.zero_le _⟩ hl.1 rfl (Nat.le_of_ble_eq_true rfl) dX11_next_97 (fun H locs h => ?_)
      refine h_ifz (tgt := 116) C.1 C.2.1 dX11_next_100 (by decide) (fun q => ?_) (fun q => ?_)
      · have hM := ite_f q hM
        refine lv_aload_n C.1 C.2.1 dX11_next_116 rfl (lv_at hl 0 rfl) ?_
        refine lv_aload_n C.1 C.2.1 dX11_next_117 rfl (lv_at hl 0 rfl) ?_
        refine gt_11_41 C h tx0 fl_X11_186 dX11_next_118 ?_
        refine lv_aload_n C.1 C.2.1 dX11_next_121 rfl (lv_at hl 0 rfl) ?_
        refine gt_11_42 C h tx0 fl_X11_193 dX11_next_122 ?_
        refine lv_isub C.1 C.2.1 dX11_next_125 ?_
        refine pt_11_43 C h tx0 fl_X11_206 dX11_next_126 (fun H locs h => ?_)
        refine lv_aload_n C.1 C.2.1 dX11_next_129 rfl (lv_at hl 0 rfl) ?_
        refine lv_aload_n C.1 C.2.1 dX11_next_130 rfl (lv_at hl 0 rfl) ?_
        refine gt_11_43 C h tx0 fl_X11_206 dX11_next_131 ?_
        refine lv_bipush (v := 12) C.1 C.2.1 dX11_next_134 (by decide) ?_
        refine lv_icmp_le (tgt := 143) C.1 C.2.1 dX11_next_136 (by decide) (fun q => ?_) (fun q => ?_)
        · have hM := ite_t q hM
          refine lv_aload_n C.1 C.2.1 dX11_next_143 rfl (lv_at hl 0 rfl) ?_
          obtain ⟨r_15, m_16, hc_15, hM⟩ := bd_some hM
          refine h_callVi C h (As := []) (rest := [.ref x0]) r_15 m_16 (c_X11_wordAt hc_15 tx0) 11 rfl (by decide) tx0 im_yX11_wordAt se_yX11_wordAt cy_X11_wordAt rfl ml_X11_209 ⟨by decide, by decide⟩ ⟨Nat.zero_le _, Nat.zero_le _⟩ hl.1 rfl (Nat.le_of_ble_eq_true rfl) dX11_next_144 (fun H locs h => ?_)
          refine pt_11_44 C h tx0 fl_X11_196 dX11_next_147 (fun H locs h => ?_)
          refine lv_goto (tgt := 268) C.1 C.2.1 dX11_next_150 (by decide) ?_
          obtain ⟨rfl, rfl⟩ := so_inj hM
          exact h_vret C h dX11_next_268
        · have hM := ite_f q hM
          refine lv_iconst (v := 4) C.1 C.2.1 dX11_next_139 (by decide) ?_
          refine lv_goto (tgt := 147) C.1 C.2.1 dX11_next_140 (by decide) ?_
          refine pt_11_44 C h tx0 fl_X11_196 dX11_next_147 (fun H locs h => ?_)
          refine lv_goto (tgt := 268) C.1 C.2.1 dX11_next_150 (by decide) ?_
          obtain ⟨rfl, rfl⟩ := so_inj hM
          exact h_vret C h dX11_next_268
      · have hM := ite_t q hM
        refine lv_aload_n C.1 C.2.1 dX11_next_103 rfl (lv_at hl 0 rfl) ?_
        refine lv_dup C.1 C.2.1 dX11_next_104 rfl ?_
        refine gt_11_41 C h tx0 fl_X11_186 dX11_next_105 ?_
        refine lv_iconst (v := 1) C.1 C.2.1 dX11_next_108 (by decide) ?_
        refine lv_iadd C.1 C.2.1 dX11_next_109 ?_
        refine pt_11_41 C h tx0 fl_X11_186 dX11_next_110 (fun H locs h => ?_)
        refine lv_goto (tgt := 75) C.1 C.2.1 dX11_next_113 (by decide) ?_
        exact ih _ _ hM tx0 _ _ h ls (lv_sub hl [0] rfl)
def B_X11_next_0 (G : GG) : Nat → Nat → MM → Option (Unit × MM)
  | 0, _, _ => none
  | fu + 1, x0, m =>
    bd (M_X11_byteAt G x0 (gI m x0 41) m) fun r_17 m_18 =>
      if r_17 = 32 then
        B_X11_next_0 G fu x0 (sI m_18 x0 41 ((gI m_18 x0 41) + 1))
      else
        bd (M_X11_byteAt G x0 (gI m_18 x0 41) m_18) fun r_19 m_20 =>
          if r_19 = 10 then
            B_X11_next_0 G fu x0 (sI m_20 x0 41 ((gI m_20 x0 41) + 1))
          else
            bd (M_X11_byteAt G x0 (gI (sI m_20 x0 42 (gI m_20 x0 41)) x0 41) (sI m_20 x0 42 (gI m_20 x0 41))) fun r_21 m_22 =>
              if 0 ≤ r_21 then
                bd (M_X11_isLetter G r_21 m_22) fun r_23 m_24 =>
                  if r_23 = true then
                    B_X11_next_75 G FU x0 m_24
                  else
                    bd (M_X11_isDigit G r_21 m_24) fun r_25 m_26 =>
                      if r_25 = true then
                        B_X11_next_165 G FU x0 (sI m_26 x0 45 0)
                      else
                        bd (M_X11_isSign G r_21 m_26) fun r_27 m_28 =>
                          if r_27 = true then
                            some ((), sI (sI (sI m_28 x0 44 3) x0 45 r_21) x0 41 ((gI (sI (sI m_28 x0 44 3) x0 45 r_21) x0 41) + 1))
                          else
                            some ((), sI (sI (sI m_28 x0 44 4) x0 45 r_21) x0 41 ((gI (sI (sI m_28 x0 44 4) x0 45 r_21) x0 41) + 1))
              else
                some ((), sI m_22 x0 44 0)
set_option maxRecDepth 100000 in
set_option maxHeartbeats 4000000 in
theorem cB_X11_next_0 {p : Program} {l : Launch} {e : Env} {s : State} {mth : MethodId} {args : Array Value} {below : List Frame} {meth : Method} {c : Code} {E : EE} {G : GG} {r9 : Unit} {m9 : MM} (C : Cx E G p s mth args meth c cX11_next RX11 "next" 2 none) : ∀ (fu : Nat) (x0 : Nat) (m : MM), B_X11_next_0 G fu x0 m = some (r9, m9) → (Ty E G x0 11) → ∀ (H : Heap) (locs : List Loc), Hp E G m s H locs → ∀ ls : Array Slot, lv_has ls 2 [(0, .ref x0)] → W p l e rmX11_next s mth args below meth c H locs 0 0 (MQ below (cQv E G m9) args s 0 0 (fun q => E.2.2.1 ≤ q)) (F0 mth 0 ls []) := by
  intro fu
  induction fu with
  | zero =>
    intro x0 m hM
    rw [B_X11_next_0] at hM
    cases hM
  | succ fu ih =>
    intro x0 m hM tx0 H locs h ls hl
    rw [B_X11_next_0] at hM
    refine lv_aload_n C.1 C.2.1 dX11_next_0 rfl (lv_at hl 0 rfl) ?_
    refine lv_aload_n C.1 C.2.1 dX11_next_1 rfl (lv_at hl 0 rfl) ?_
    refine gt_11_41 C h tx0 fl_X11_186 dX11_next_2 ?_
    obtain ⟨r_17, m_18, hc_17, hM⟩ := bd_some hM
    refine h_callVi C h (As := [.int (gI m x0 41)]) (rest := []) r_17 m_18 (c_X11_byteAt hc_17 tx0) 11 rfl (by decide) tx0 im_yX11_byteAt se_yX11_byteAt cy_X11_byteAt rfl ml_X11_189 ⟨by decide, by decide⟩ ⟨Nat.zero_le _, Nat.zero_le _⟩ hl.1 rfl (Nat.le_of_ble_eq_true rfl) dX11_next_5 (fun H locs h => ?_)
    refine lv_bipush (v := 32) C.1 C.2.1 dX11_next_8 (by decide) ?_
    refine lv_icmp_eq (tgt := 26) C.1 C.2.1 dX11_next_10 (by decide) (fun q => ?_) (fun q => ?_)
    · have hM := ite_t q hM
      refine lv_aload_n C.1 C.2.1 dX11_next_26 rfl (lv_at hl 0 rfl) ?_
      refine lv_dup C.1 C.2.1 dX11_next_27 rfl ?_
      refine gt_11_41 C h tx0 fl_X11_186 dX11_next_28 ?_
      refine lv_iconst (v := 1) C.1 C.2.1 dX11_next_31 (by decide) ?_
      refine lv_iadd C.1 C.2.1 dX11_next_32 ?_
      refine pt_11_41 C h tx0 fl_X11_186 dX11_next_33 (fun H locs h => ?_)
      refine lv_goto (tgt := 0) C.1 C.2.1 dX11_next_36 (by decide) ?_
      exact ih _ _ hM tx0 _ _ h ls (lv_sub hl [0] rfl)
    · have hM := ite_f q hM
      refine lv_aload_n C.1 C.2.1 dX11_next_13 rfl (lv_at hl 0 rfl) ?_
      refine lv_aload_n C.1 C.2.1 dX11_next_14 rfl (lv_at hl 0 rfl) ?_
      refine gt_11_41 C h tx0 fl_X11_186 dX11_next_15 ?_
      obtain ⟨r_19, m_20, hc_19, hM⟩ := bd_some hM
      refine h_callVi C h (As := [.int (gI m_18 x0 41)]) (rest := []) r_19 m_20 (c_X11_byteAt hc_19 tx0) 11 rfl (by decide) tx0 im_yX11_byteAt se_yX11_byteAt cy_X11_byteAt rfl ml_X11_189 ⟨by decide, by decide⟩ ⟨Nat.zero_le _, Nat.zero_le _⟩ hl.1 rfl (Nat.le_of_ble_eq_true rfl) dX11_next_18 (fun H locs h => ?_)
      refine lv_bipush (v := 10) C.1 C.2.1 dX11_next_21 (by decide) ?_
      refine lv_icmp_ne (tgt := 39) C.1 C.2.1 dX11_next_23 (by decide) (fun q => ?_) (fun q => ?_)
      · have hM := ite_f q hM
        refine lv_aload_n C.1 C.2.1 dX11_next_39 rfl (lv_at hl 0 rfl) ?_
        refine lv_aload_n C.1 C.2.1 dX11_next_40 rfl (lv_at hl 0 rfl) ?_
        refine gt_11_41 C h tx0 fl_X11_186 dX11_next_41 ?_
        refine pt_11_42 C h tx0 fl_X11_193 dX11_next_44 (fun H locs h => ?_)
        refine lv_aload_n C.1 C.2.1 dX11_next_47 rfl (lv_at hl 0 rfl) ?_
        refine lv_aload_n C.1 C.2.1 dX11_next_48 rfl (lv_at hl 0 rfl) ?_
        refine gt_11_41 C h tx0 fl_X11_186 dX11_next_49 ?_
        obtain ⟨r_21, m_22, hc_21, hM⟩ := bd_some hM
        refine h_callVi C h (As := [.int (gI (sI m_20 x0 42 (gI m_20 x0 41)) x0 41)]) (rest := []) r_21 m_22 (c_X11_byteAt hc_21 tx0) 11 rfl (by decide) tx0 im_yX11_byteAt se_yX11_byteAt cy_X11_byteAt rfl ml_X11_189 ⟨by decide, by decide⟩ ⟨Nat.zero_le _, Nat.zero_le _⟩ hl.1 rfl (Nat.le_of_ble_eq_true rfl) dX11_next_52 (fun H locs h => ?_)
        refine lv_istore_n (lv' := [(1, .int r_21), (0, .ref x0)]) C.1 C.2.1 dX11_next_55 rfl hl (by decide) rfl (fun ls hl => ?_)
        refine lv_iload_n C.1 C.2.1 dX11_next_56 rfl (lv_at hl 0 rfl) ?_
        refine lv_if_ge (tgt := 68) C.1 C.2.1 dX11_next_57 (by decide) (fun q => ?_) (fun q => ?_)
        · have hM := ite_t q hM
          refine lv_iload_n C.1 C.2.1 dX11_next_68 rfl (lv_at hl 0 rfl) ?_
          obtain ⟨r_23, m_24, hc_23, hM⟩ := bd_some hM
          refine h_callSi C h (As := [.int r_21]) (rest := []) (bz r_23) m_24 (c_X11_isLetter hc_23 ) st_yX11_isLetter cy_X11_isLetter rfl ml_X11_199 ⟨by decide, by decide⟩ ⟨Nat.zero_le _, Nat.zero_le _⟩ hl.1 rfl (Nat.le_of_ble_eq_true rfl) dX11_next_69 (fun H locs h => ?_)
          refine h_ifz (tgt := 153) C.1 C.2.1 dX11_next_72 (by decide) (fun q => ?_) (fun q => ?_)
          · have hM := ite_f q hM
            refine lv_iload_n C.1 C.2.1 dX11_next_153 rfl (lv_at hl 0 rfl) ?_
            obtain ⟨r_25, m_26, hc_25, hM⟩ := bd_some hM
            refine h_callSi C h (As := [.int r_21]) (rest := []) (bz r_25) m_26 (c_X11_isDigit hc_25 ) st_yX11_isDigit cy_X11_isDigit rfl ml_X11_203 ⟨by decide, by decide⟩ ⟨Nat.zero_le _, Nat.zero_le _⟩ hl.1 rfl (Nat.le_of_ble_eq_true rfl) dX11_next_154 (fun H locs h => ?_)
            refine h_ifz (tgt := 237) C.1 C.2.1 dX11_next_157 (by decide) (fun q => ?_) (fun q => ?_)
            · have hM := ite_f q hM
              refine lv_aload_n C.1 C.2.1 dX11_next_237 rfl (lv_at hl 1 rfl) ?_
              refine lv_iload_n C.1 C.2.1 dX11_next_238 rfl (lv_at hl 0 rfl) ?_
              obtain ⟨r_27, m_28, hc_27, hM⟩ := bd_some hM
              refine h_callSi C h (As := [.int r_21]) (rest := [.ref x0]) (bz r_27) m_28 (c_X11_isSign hc_27 ) st_yX11_isSign cy_X11_isSign rfl ml_X11_216 ⟨by decide, by decide⟩ ⟨Nat.zero_le _, Nat.zero_le _⟩ hl.1 rfl (Nat.le_of_ble_eq_true rfl) dX11_next_239 (fun H locs h => ?_)
              refine h_ifz (tgt := 249) C.1 C.2.1 dX11_next_242 (by decide) (fun q => ?_) (fun q => ?_)
              · have hM := ite_f q hM
                refine lv_iconst (v := 4) C.1 C.2.1 dX11_next_249 (by decide) ?_
                refine pt_11_44 C h tx0 fl_X11_196 dX11_next_250 (fun H locs h => ?_)
                refine lv_aload_n C.1 C.2.1 dX11_next_253 rfl (lv_at hl 1 rfl) ?_
                refine lv_iload_n C.1 C.2.1 dX11_next_254 rfl (lv_at hl 0 rfl) ?_
                refine pt_11_45 C h tx0 fl_X11_213 dX11_next_255 (fun H locs h => ?_)
                refine lv_aload_n C.1 C.2.1 dX11_next_258 rfl (lv_at hl 1 rfl) ?_
                refine lv_dup C.1 C.2.1 dX11_next_259 rfl ?_
                refine gt_11_41 C h tx0 fl_X11_186 dX11_next_260 ?_
                refine lv_iconst (v := 1) C.1 C.2.1 dX11_next_263 (by decide) ?_
                refine lv_iadd C.1 C.2.1 dX11_next_264 ?_
                refine pt_11_41 C h tx0 fl_X11_186 dX11_next_265 (fun H locs h => ?_)
                obtain ⟨rfl, rfl⟩ := so_inj hM
                exact h_vret C h dX11_next_268
              · have hM := ite_t q hM
                refine lv_iconst (v := 3) C.1 C.2.1 dX11_next_245 (by decide) ?_
                refine lv_goto (tgt := 250) C.1 C.2.1 dX11_next_246 (by decide) ?_
                refine pt_11_44 C h tx0 fl_X11_196 dX11_next_250 (fun H locs h => ?_)
                refine lv_aload_n C.1 C.2.1 dX11_next_253 rfl (lv_at hl 1 rfl) ?_
                refine lv_iload_n C.1 C.2.1 dX11_next_254 rfl (lv_at hl 0 rfl) ?_
                refine pt_11_45 C h tx0 fl_X11_213 dX11_next_255 (fun H locs h => ?_)
                refine lv_aload_n C.1 C.2.1 dX11_next_258 rfl (lv_at hl 1 rfl) ?_
                refine lv_dup C.1 C.2.1 dX11_next_259 rfl ?_
                refine gt_11_41 C h tx0 fl_X11_186 dX11_next_260 ?_
                refine lv_iconst (v := 1) C.1 C.2.1 dX11_next_263 (by decide) ?_
                refine lv_iadd C.1 C.2.1 dX11_next_264 ?_
                refine pt_11_41 C h tx0 fl_X11_186 dX11_next_265 (fun H locs h => ?_)
                obtain ⟨rfl, rfl⟩ := so_inj hM
                exact h_vret C h dX11_next_268
            · have hM := ite_t q hM
              refine lv_aload_n C.1 C.2.1 dX11_next_160 rfl (lv_at hl 1 rfl) ?_
              refine lv_iconst (v := 0) C.1 C.2.1 dX11_next_161 (by decide) ?_
              refine pt_11_45 C h tx0 fl_X11_213 dX11_next_162 (fun H locs h => ?_)
              exact cB_X11_next_165 C _ _ _ hM tx0 _ _ h ls (lv_sub hl [1] rfl)
          · have hM := ite_t q hM
            exact cB_X11_next_75 C _ _ _ hM tx0 _ _ h ls (lv_sub hl [1] rfl)
        · have hM := ite_f q hM
          refine lv_aload_n C.1 C.2.1 dX11_next_60 rfl (lv_at hl 1 rfl) ?_
          refine lv_iconst (v := 0) C.1 C.2.1 dX11_next_61 (by decide) ?_
          refine pt_11_44 C h tx0 fl_X11_196 dX11_next_62 (fun H locs h => ?_)
          refine lv_goto (tgt := 268) C.1 C.2.1 dX11_next_65 (by decide) ?_
          obtain ⟨rfl, rfl⟩ := so_inj hM
          exact h_vret C h dX11_next_268
      · have hM := ite_t q hM
        refine lv_aload_n C.1 C.2.1 dX11_next_26 rfl (lv_at hl 0 rfl) ?_
        refine lv_dup C.1 C.2.1 dX11_next_27 rfl ?_
        refine gt_11_41 C h tx0 fl_X11_186 dX11_next_28 ?_
        refine lv_iconst (v := 1) C.1 C.2.1 dX11_next_31 (by decide) ?_
        refine lv_iadd C.1 C.2.1 dX11_next_32 ?_
        refine pt_11_41 C h tx0 fl_X11_186 dX11_next_33 (fun H locs h => ?_)
        refine lv_goto (tgt := 0) C.1 C.2.1 dX11_next_36 (by decide) ?_
        exact ih _ _ hM tx0 _ _ h ls (lv_sub hl [0] rfl)
def M_X11_next (G : GG) (x0 : Nat) (m : MM) : Option (Unit × MM) := B_X11_next_0 G FU x0 m
theorem cM_X11_next {p : Program} {l : Launch} {e : Env} {s : State} {mth : MethodId} {args : Array Value} {below : List Frame} {meth : Method} {c : Code} {E : EE} {G : GG} {r9 : Unit} {m9 : MM} (C : Cx E G p s mth args meth c cX11_next RX11 "next" 2 none) {x0 : Nat} {m : MM} (hM : M_X11_next G x0 m = some (r9, m9)) (tx0 : Ty E G x0 11) : ∀ (H : Heap) (locs : List Loc), Hp E G m s H locs → ∀ ls : Array Slot, lv_has ls 2 [(0, .ref x0)] → W p l e rmX11_next s mth args below meth c H locs 0 0 (MQ below (cQv E G m9) args s 0 0 (fun q => E.2.2.1 ≤ q)) (F0 mth 0 ls []) := fun H locs h ls hl => cB_X11_next_0 C FU x0 m hM tx0 H locs h ls hl
theorem cy_X11_next : Cy yX11_next cX11_next 2 none 0 := ⟨cd_yX11_next, ii_X11, by decide, by decide, by decide +kernel⟩
set_option maxRecDepth 100000 in
theorem c_X11_next {l : Launch} {E : EE} {G : GG} {x0 : Nat} {m m9 : MM} {r9 : Unit} (hM : M_X11_next G x0 m = some (r9, m9)) (tx0 : Ty E G x0 11) : Mc l E yX11_next cX11_next 2 none rmX11_next [.ref x0] G m (cQv E G m9) := M_of (by decide) (Nat.le_of_ble_eq_true rfl) (fun p e s mth below meth c C h ls hl => cM_X11_next C hM tx0 _ _ h ls hl)
abbrev rmX11_isAt : Room := { frames := 0, cells := 0, slots := 0, locals := 0 }
def M_X11_isAt (G : GG) (x0 : Nat) (x1 : Int32) (m : MM) : Option (Bool × MM) :=
  if (gI m x0 44) = 3 then
    if (gI m x0 45) = x1 then
      some (true, m)
    else
      some (false, m)
  else
    some (false, m)
set_option maxRecDepth 100000 in
set_option maxHeartbeats 4000000 in
theorem cM_X11_isAt {p : Program} {l : Launch} {e : Env} {s : State} {mth : MethodId} {args : Array Value} {below : List Frame} {meth : Method} {c : Code} {E : EE} {G : GG} {r9 : Bool} {m9 : MM} (C : Cx E G p s mth args meth c cX11_isAt RX11 "isAt" 2 (some .boolean)) {x0 : Nat} {x1 : Int32} {m : MM} (hM : M_X11_isAt G x0 x1 m = some (r9, m9)) (tx0 : Ty E G x0 11) : ∀ (H : Heap) (locs : List Loc), Hp E G m s H locs → ∀ ls : Array Slot, lv_has ls 2 [(0, .ref x0), (1, .int x1)] → W p l e rmX11_isAt s mth args below meth c H locs 0 0 (MQ below (cQi E (bz r9) G m9) args s 0 0 (fun q => E.2.2.1 ≤ q)) (F0 mth 0 ls []) := by
  intro H locs h ls hl
  unfold M_X11_isAt at hM
  refine lv_aload_n C.1 C.2.1 dX11_isAt_0 rfl (lv_at hl 0 rfl) ?_
  refine gt_11_44 C h tx0 fl_X11_196 dX11_isAt_1 ?_
  refine lv_iconst (v := 3) C.1 C.2.1 dX11_isAt_4 (by decide) ?_
  refine lv_icmp_ne (tgt := 20) C.1 C.2.1 dX11_isAt_5 (by decide) (fun q => ?_) (fun q => ?_)
  · have hM := ite_f q hM
    refine lv_iconst (v := 0) C.1 C.2.1 dX11_isAt_20 (by decide) ?_
    obtain ⟨rfl, rfl⟩ := so_inj hM
    exact h_zret C h (bz_ok _).1 dX11_isAt_21
  · have hM := ite_t q hM
    refine lv_aload_n C.1 C.2.1 dX11_isAt_8 rfl (lv_at hl 0 rfl) ?_
    refine gt_11_45 C h tx0 fl_X11_213 dX11_isAt_9 ?_
    refine lv_iload_n C.1 C.2.1 dX11_isAt_12 rfl (lv_at hl 1 rfl) ?_
    refine lv_icmp_ne (tgt := 20) C.1 C.2.1 dX11_isAt_13 (by decide) (fun q => ?_) (fun q => ?_)
    · have hM := ite_f q hM
      refine lv_iconst (v := 0) C.1 C.2.1 dX11_isAt_20 (by decide) ?_
      obtain ⟨rfl, rfl⟩ := so_inj hM
      exact h_zret C h (bz_ok _).1 dX11_isAt_21
    · have hM := ite_t q hM
      refine lv_iconst (v := 1) C.1 C.2.1 dX11_isAt_16 (by decide) ?_
      refine lv_goto (tgt := 21) C.1 C.2.1 dX11_isAt_17 (by decide) ?_
      obtain ⟨rfl, rfl⟩ := so_inj hM
      exact h_zret C h (bz_ok _).1 dX11_isAt_21
theorem cy_X11_isAt : Cy yX11_isAt cX11_isAt 2 (some .boolean) 1 := ⟨cd_yX11_isAt, ii_X11, by decide, by decide, by decide +kernel⟩
set_option maxRecDepth 100000 in
theorem c_X11_isAt {l : Launch} {E : EE} {G : GG} {x0 : Nat} {x1 : Int32} {m m9 : MM} {r9 : Bool} (hM : M_X11_isAt G x0 x1 m = some (r9, m9)) (tx0 : Ty E G x0 11) : Mc l E yX11_isAt cX11_isAt 2 (some .boolean) rmX11_isAt [.ref x0, .int x1] G m (cQi E (bz r9) G m9) := M_of (by decide) (Nat.le_of_ble_eq_true rfl) (fun p e s mth below meth c C h ls hl => cM_X11_isAt C hM tx0 _ _ h ls hl)
abbrev rmX11_wrong : Room := { frames := 0, cells := 0, slots := 0, locals := 0 }
def M_X11_wrong (G : GG) (x0 : Nat) (x1 : Int32) (x2 : Int32) (m : MM) : Option (Unit × MM) :=
  if (gI m x0 46) = 0 then
    some ((), sI (sI m x0 46 x1) x0 47 x2)
  else
    if x2 < (gI m x0 47) then
      some ((), sI (sI m x0 46 x1) x0 47 x2)
    else
      if x2 = (gI m x0 47) then
        if (gI m x0 46) ≤ x1 then
          some ((), m)
        else
          some ((), sI (sI m x0 46 x1) x0 47 x2)
      else
        some ((), m)
set_option maxRecDepth 100000 in
set_option maxHeartbeats 4000000 in
theorem cM_X11_wrong {p : Program} {l : Launch} {e : Env} {s : State} {mth : MethodId} {args : Array Value} {below : List Frame} {meth : Method} {c : Code} {E : EE} {G : GG} {r9 : Unit} {m9 : MM} (C : Cx E G p s mth args meth c cX11_wrong RX11 "wrong" 3 none) {x0 : Nat} {x1 : Int32} {x2 : Int32} {m : MM} (hM : M_X11_wrong G x0 x1 x2 m = some (r9, m9)) (tx0 : Ty E G x0 11) : ∀ (H : Heap) (locs : List Loc), Hp E G m s H locs → ∀ ls : Array Slot, lv_has ls 3 [(0, .ref x0), (1, .int x1), (2, .int x2)] → W p l e rmX11_wrong s mth args below meth c H locs 0 0 (MQ below (cQv E G m9) args s 0 0 (fun q => E.2.2.1 ≤ q)) (F0 mth 0 ls []) := by
  intro H locs h ls hl
  unfold M_X11_wrong at hM
  refine lv_aload_n C.1 C.2.1 dX11_wrong_0 rfl (lv_at hl 0 rfl) ?_
  refine gt_11_46 C h tx0 fl_X11_243 dX11_wrong_1 ?_
  refine lv_if_eq (tgt := 31) C.1 C.2.1 dX11_wrong_4 (by decide) (fun q => ?_) (fun q => ?_)
  · have hM := ite_t q hM
    refine lv_aload_n C.1 C.2.1 dX11_wrong_31 rfl (lv_at hl 0 rfl) ?_
    refine lv_iload_n C.1 C.2.1 dX11_wrong_32 rfl (lv_at hl 1 rfl) ?_
    refine pt_11_46 C h tx0 fl_X11_243 dX11_wrong_33 (fun H locs h => ?_)
    refine lv_aload_n C.1 C.2.1 dX11_wrong_36 rfl (lv_at hl 0 rfl) ?_
    refine lv_iload_n C.1 C.2.1 dX11_wrong_37 rfl (lv_at hl 2 rfl) ?_
    refine pt_11_47 C h tx0 fl_X11_246 dX11_wrong_38 (fun H locs h => ?_)
    obtain ⟨rfl, rfl⟩ := so_inj hM
    exact h_vret C h dX11_wrong_41
  · have hM := ite_f q hM
    refine lv_iload_n C.1 C.2.1 dX11_wrong_7 rfl (lv_at hl 2 rfl) ?_
    refine lv_aload_n C.1 C.2.1 dX11_wrong_8 rfl (lv_at hl 0 rfl) ?_
    refine gt_11_47 C h tx0 fl_X11_246 dX11_wrong_9 ?_
    refine lv_icmp_lt (tgt := 31) C.1 C.2.1 dX11_wrong_12 (by decide) (fun q => ?_) (fun q => ?_)
    · have hM := ite_t q hM
      refine lv_aload_n C.1 C.2.1 dX11_wrong_31 rfl (lv_at hl 0 rfl) ?_
      refine lv_iload_n C.1 C.2.1 dX11_wrong_32 rfl (lv_at hl 1 rfl) ?_
      refine pt_11_46 C h tx0 fl_X11_243 dX11_wrong_33 (fun H locs h => ?_)
      refine lv_aload_n C.1 C.2.1 dX11_wrong_36 rfl (lv_at hl 0 rfl) ?_
      refine lv_iload_n C.1 C.2.1 dX11_wrong_37 rfl (lv_at hl 2 rfl) ?_
      refine pt_11_47 C h tx0 fl_X11_246 dX11_wrong_38 (fun H locs h => ?_)
      obtain ⟨rfl, rfl⟩ := so_inj hM
      exact h_vret C h dX11_wrong_41
    · have hM := ite_f q hM
      refine lv_iload_n C.1 C.2.1 dX11_wrong_15 rfl (lv_at hl 2 rfl) ?_
      refine lv_aload_n C.1 C.2.1 dX11_wrong_16 rfl (lv_at hl 0 rfl) ?_
      refine gt_11_47 C h tx0 fl_X11_246 dX11_wrong_17 ?_
      refine lv_icmp_ne (tgt := 41) C.1 C.2.1 dX11_wrong_20 (by decide) (fun q => ?_) (fun q => ?_)
      · have hM := ite_f q hM
        obtain ⟨rfl, rfl⟩ := so_inj hM
        exact h_vret C h dX11_wrong_41
      · have hM := ite_t q hM
        refine lv_iload_n C.1 C.2.1 dX11_wrong_23 rfl (lv_at hl 1 rfl) ?_
        refine lv_aload_n C.1 C.2.1 dX11_wrong_24 rfl (lv_at hl 0 rfl) ?_
        refine gt_11_46 C h tx0 fl_X11_243 dX11_wrong_25 ?_
        refine lv_icmp_ge (tgt := 41) C.1 C.2.1 dX11_wrong_28 (by decide) (fun q => ?_) (fun q => ?_)
        · have hM := ite_t q hM
          obtain ⟨rfl, rfl⟩ := so_inj hM
          exact h_vret C h dX11_wrong_41
        · have hM := ite_f q hM
          refine lv_aload_n C.1 C.2.1 dX11_wrong_31 rfl (lv_at hl 0 rfl) ?_
          refine lv_iload_n C.1 C.2.1 dX11_wrong_32 rfl (lv_at hl 1 rfl) ?_
          refine pt_11_46 C h tx0 fl_X11_243 dX11_wrong_33 (fun H locs h => ?_)
          refine lv_aload_n C.1 C.2.1 dX11_wrong_36 rfl (lv_at hl 0 rfl) ?_
          refine lv_iload_n C.1 C.2.1 dX11_wrong_37 rfl (lv_at hl 2 rfl) ?_
          refine pt_11_47 C h tx0 fl_X11_246 dX11_wrong_38 (fun H locs h => ?_)
          obtain ⟨rfl, rfl⟩ := so_inj hM
          exact h_vret C h dX11_wrong_41
theorem cy_X11_wrong : Cy yX11_wrong cX11_wrong 3 none 2 := ⟨cd_yX11_wrong, ii_X11, by decide, by decide, by decide +kernel⟩
set_option maxRecDepth 100000 in
theorem c_X11_wrong {l : Launch} {E : EE} {G : GG} {x0 : Nat} {x1 : Int32} {x2 : Int32} {m m9 : MM} {r9 : Unit} (hM : M_X11_wrong G x0 x1 x2 m = some (r9, m9)) (tx0 : Ty E G x0 11) : Mc l E yX11_wrong cX11_wrong 3 none rmX11_wrong [.ref x0, .int x1, .int x2] G m (cQv E G m9) := M_of (by decide) (Nat.le_of_ble_eq_true rfl) (fun p e s mth below meth c C h ls hl => cM_X11_wrong C hM tx0 _ _ h ls hl)
abbrev rmX11_isGood : Room := { frames := 0, cells := 0, slots := 0, locals := 0 }
def M_X11_isGood (G : GG) (x0 : Nat) (m : MM) : Option (Bool × MM) :=
  if (gI m x0 46) = 1 then
    some (false, m)
  else
    some (true, m)
set_option maxRecDepth 100000 in
set_option maxHeartbeats 4000000 in
theorem cM_X11_isGood {p : Program} {l : Launch} {e : Env} {s : State} {mth : MethodId} {args : Array Value} {below : List Frame} {meth : Method} {c : Code} {E : EE} {G : GG} {r9 : Bool} {m9 : MM} (C : Cx E G p s mth args meth c cX11_isGood RX11 "isGood" 1 (some .boolean)) {x0 : Nat} {m : MM} (hM : M_X11_isGood G x0 m = some (r9, m9)) (tx0 : Ty E G x0 11) : ∀ (H : Heap) (locs : List Loc), Hp E G m s H locs → ∀ ls : Array Slot, lv_has ls 1 [(0, .ref x0)] → W p l e rmX11_isGood s mth args below meth c H locs 0 0 (MQ below (cQi E (bz r9) G m9) args s 0 0 (fun q => E.2.2.1 ≤ q)) (F0 mth 0 ls []) := by
  intro H locs h ls hl
  unfold M_X11_isGood at hM
  refine lv_aload_n C.1 C.2.1 dX11_isGood_0 rfl (lv_at hl 0 rfl) ?_
  refine gt_11_46 C h tx0 fl_X11_243 dX11_isGood_1 ?_
  refine lv_iconst (v := 1) C.1 C.2.1 dX11_isGood_4 (by decide) ?_
  refine lv_icmp_eq (tgt := 12) C.1 C.2.1 dX11_isGood_5 (by decide) (fun q => ?_) (fun q => ?_)
  · have hM := ite_t q hM
    refine lv_iconst (v := 0) C.1 C.2.1 dX11_isGood_12 (by decide) ?_
    obtain ⟨rfl, rfl⟩ := so_inj hM
    exact h_zret C h (bz_ok _).1 dX11_isGood_13
  · have hM := ite_f q hM
    refine lv_iconst (v := 1) C.1 C.2.1 dX11_isGood_8 (by decide) ?_
    refine lv_goto (tgt := 13) C.1 C.2.1 dX11_isGood_9 (by decide) ?_
    obtain ⟨rfl, rfl⟩ := so_inj hM
    exact h_zret C h (bz_ok _).1 dX11_isGood_13
theorem cy_X11_isGood : Cy yX11_isGood cX11_isGood 1 (some .boolean) 0 := ⟨cd_yX11_isGood, ii_X11, by decide, by decide, by decide +kernel⟩
set_option maxRecDepth 100000 in
theorem c_X11_isGood {l : Launch} {E : EE} {G : GG} {x0 : Nat} {m m9 : MM} {r9 : Bool} (hM : M_X11_isGood G x0 m = some (r9, m9)) (tx0 : Ty E G x0 11) : Mc l E yX11_isGood cX11_isGood 1 (some .boolean) rmX11_isGood [.ref x0] G m (cQi E (bz r9) G m9) := M_of (by decide) (Nat.le_of_ble_eq_true rfl) (fun p e s mth below meth c C h ls hl => cM_X11_isGood C hM tx0 _ _ h ls hl)
abbrev rmX11_stop : Room := { frames := 1, cells := 0, slots := 0, locals := 20 }
def M_X11_stop (G : GG) (x0 : Nat) (m : MM) : Option (Unit × MM) :=
  bd (M_X11_isGood G x0 m) fun r_1 m_2 =>
    if r_1 = true then
      some ((), sI (sI m_2 x0 46 1) x0 47 (gI (sI m_2 x0 46 1) x0 42))
    else
      some ((), m_2)
set_option maxRecDepth 100000 in
set_option maxHeartbeats 4000000 in
theorem cM_X11_stop {p : Program} {l : Launch} {e : Env} {s : State} {mth : MethodId} {args : Array Value} {below : List Frame} {meth : Method} {c : Code} {E : EE} {G : GG} {r9 : Unit} {m9 : MM} (C : Cx E G p s mth args meth c cX11_stop RX11 "stop" 1 none) {x0 : Nat} {m : MM} (hM : M_X11_stop G x0 m = some (r9, m9)) (tx0 : Ty E G x0 11) : ∀ (H : Heap) (locs : List Loc), Hp E G m s H locs → ∀ ls : Array Slot, lv_has ls 1 [(0, .ref x0)] → W p l e rmX11_stop s mth args below meth c H locs 0 0 (MQ below (cQv E G m9) args s 0 0 (fun q => E.2.2.1 ≤ q)) (F0 mth 0 ls []) := by
  intro H locs h ls hl
  unfold M_X11_stop at hM
  refine lv_aload_n C.1 C.2.1 dX11_stop_0 rfl (lv_at hl 0 rfl) ?_
  obtain ⟨r_1, m_2, hc_1, hM⟩ := bd_some hM
  refine h_callVi C h (As := []) (rest := []) (bz r_1) m_2 (c_X11_isGood hc_1 tx0) 11 rfl (by decide) tx0 im_yX11_isGood se_yX11_isGood cy_X11_isGood rfl ml_X11_249 ⟨by decide, by decide⟩ ⟨Nat.zero_le _, Nat.zero_le _⟩ hl.1 rfl (Nat.le_of_ble_eq_true rfl) dX11_stop_1 (fun H locs h => ?_)
  refine h_ifz (tgt := 20) C.1 C.2.1 dX11_stop_4 (by decide) (fun q => ?_) (fun q => ?_)
  · have hM := ite_f q hM
    obtain ⟨rfl, rfl⟩ := so_inj hM
    exact h_vret C h dX11_stop_20
  · have hM := ite_t q hM
    refine lv_aload_n C.1 C.2.1 dX11_stop_7 rfl (lv_at hl 0 rfl) ?_
    refine lv_iconst (v := 1) C.1 C.2.1 dX11_stop_8 (by decide) ?_
    refine pt_11_46 C h tx0 fl_X11_243 dX11_stop_9 (fun H locs h => ?_)
    refine lv_aload_n C.1 C.2.1 dX11_stop_12 rfl (lv_at hl 0 rfl) ?_
    refine lv_aload_n C.1 C.2.1 dX11_stop_13 rfl (lv_at hl 0 rfl) ?_
    refine gt_11_42 C h tx0 fl_X11_193 dX11_stop_14 ?_
    refine pt_11_47 C h tx0 fl_X11_246 dX11_stop_17 (fun H locs h => ?_)
    obtain ⟨rfl, rfl⟩ := so_inj hM
    exact h_vret C h dX11_stop_20
theorem cy_X11_stop : Cy yX11_stop cX11_stop 1 none 0 := ⟨cd_yX11_stop, ii_X11, by decide, by decide, by decide +kernel⟩
set_option maxRecDepth 100000 in
theorem c_X11_stop {l : Launch} {E : EE} {G : GG} {x0 : Nat} {m m9 : MM} {r9 : Unit} (hM : M_X11_stop G x0 m = some (r9, m9)) (tx0 : Ty E G x0 11) : Mc l E yX11_stop cX11_stop 1 none rmX11_stop [.ref x0] G m (cQv E G m9) := M_of (by decide) (Nat.le_of_ble_eq_true rfl) (fun p e s mth below meth c C h ls hl => cM_X11_stop C hM tx0 _ _ h ls hl)
abbrev rmX11_need : Room := { frames := 4, cells := 0, slots := 0, locals := 87 }
def M_X11_need (G : GG) (x0 : Nat) (x1 : Int32) (m : MM) : Option (Unit × MM) :=
  bd (M_X11_isGood G x0 m) fun r_1 m_2 =>
    if r_1 = true then
      bd (M_X11_isAt G x0 x1 m_2) fun r_5 m_6 =>
        if r_5 = true then
          bd (M_X11_next G x0 m_6) fun _ m_10 =>
            some ((), m_10)
        else
          bd (M_X11_stop G x0 m_6) fun _ m_8 =>
            some ((), m_8)
    else
      bd (M_X11_stop G x0 m_2) fun _ m_4 =>
        some ((), m_4)
set_option maxRecDepth 100000 in
set_option maxHeartbeats 4000000 in
theorem cM_X11_need {p : Program} {l : Launch} {e : Env} {s : State} {mth : MethodId} {args : Array Value} {below : List Frame} {meth : Method} {c : Code} {E : EE} {G : GG} {r9 : Unit} {m9 : MM} (C : Cx E G p s mth args meth c cX11_need RX11 "need" 2 none) {x0 : Nat} {x1 : Int32} {m : MM} (hM : M_X11_need G x0 x1 m = some (r9, m9)) (tx0 : Ty E G x0 11) : ∀ (H : Heap) (locs : List Loc), Hp E G m s H locs → ∀ ls : Array Slot, lv_has ls 2 [(0, .ref x0), (1, .int x1)] → W p l e rmX11_need s mth args below meth c H locs 0 0 (MQ below (cQv E G m9) args s 0 0 (fun q => E.2.2.1 ≤ q)) (F0 mth 0 ls []) := by
  intro H locs h ls hl
  unfold M_X11_need at hM
  refine lv_aload_n C.1 C.2.1 dX11_need_0 rfl (lv_at hl 0 rfl) ?_
  obtain ⟨r_1, m_2, hc_1, hM⟩ := bd_some hM
  refine h_callVi C h (As := []) (rest := []) (bz r_1) m_2 (c_X11_isGood hc_1 tx0) 11 rfl (by decide) tx0 im_yX11_isGood se_yX11_isGood cy_X11_isGood rfl ml_X11_249 ⟨by decide, by decide⟩ ⟨Nat.zero_le _, Nat.zero_le _⟩ hl.1 rfl (Nat.le_of_ble_eq_true rfl) dX11_need_1 (fun H locs h => ?_)
  refine h_ifz (tgt := 22) C.1 C.2.1 dX11_need_4 (by decide) (fun q => ?_) (fun q => ?_)
  · have hM := ite_f q hM
    refine lv_aload_n C.1 C.2.1 dX11_need_22 rfl (lv_at hl 0 rfl) ?_
    obtain ⟨r_3, m_4, hc_3, hM⟩ := bd_some hM
    refine h_callVv C h (As := []) (rest := []) m_4 (c_X11_stop hc_3 tx0) 11 rfl (by decide) tx0 im_yX11_stop se_yX11_stop cy_X11_stop rfl ml_X11_259 ⟨by decide, by decide⟩ ⟨Nat.zero_le _, Nat.zero_le _⟩ hl.1 rfl (Nat.le_of_ble_eq_true rfl) dX11_need_23 (fun H locs h => ?_)
    obtain ⟨rfl, rfl⟩ := so_inj hM
    exact h_vret C h dX11_need_26
  · have hM := ite_t q hM
    refine lv_aload_n C.1 C.2.1 dX11_need_7 rfl (lv_at hl 0 rfl) ?_
    refine lv_iload_n C.1 C.2.1 dX11_need_8 rfl (lv_at hl 1 rfl) ?_
    obtain ⟨r_5, m_6, hc_5, hM⟩ := bd_some hM
    refine h_callVi C h (As := [.int x1]) (rest := []) (bz r_5) m_6 (c_X11_isAt hc_5 tx0) 11 rfl (by decide) tx0 im_yX11_isAt se_yX11_isAt cy_X11_isAt rfl ml_X11_253 ⟨by decide, by decide⟩ ⟨Nat.zero_le _, Nat.zero_le _⟩ hl.1 rfl (Nat.le_of_ble_eq_true rfl) dX11_need_9 (fun H locs h => ?_)
    refine h_ifz (tgt := 22) C.1 C.2.1 dX11_need_12 (by decide) (fun q => ?_) (fun q => ?_)
    · have hM := ite_f q hM
      refine lv_aload_n C.1 C.2.1 dX11_need_22 rfl (lv_at hl 0 rfl) ?_
      obtain ⟨r_7, m_8, hc_7, hM⟩ := bd_some hM
      refine h_callVv C h (As := []) (rest := []) m_8 (c_X11_stop hc_7 tx0) 11 rfl (by decide) tx0 im_yX11_stop se_yX11_stop cy_X11_stop rfl ml_X11_259 ⟨by decide, by decide⟩ ⟨Nat.zero_le _, Nat.zero_le _⟩ hl.1 rfl (Nat.le_of_ble_eq_true rfl) dX11_need_23 (fun H locs h => ?_)
      obtain ⟨rfl, rfl⟩ := so_inj hM
      exact h_vret C h dX11_need_26
    · have hM := ite_t q hM
      refine lv_aload_n C.1 C.2.1 dX11_need_15 rfl (lv_at hl 0 rfl) ?_
      obtain ⟨r_9, m_10, hc_9, hM⟩ := bd_some hM
      refine h_callVv C h (As := []) (rest := []) m_10 (c_X11_next hc_9 tx0) 11 rfl (by decide) tx0 im_yX11_next se_yX11_next cy_X11_next rfl ml_X11_256 ⟨by decide, by decide⟩ ⟨Nat.zero_le _, Nat.zero_le _⟩ hl.1 rfl (Nat.le_of_ble_eq_true rfl) dX11_need_16 (fun H locs h => ?_)
      refine lv_goto (tgt := 26) C.1 C.2.1 dX11_need_19 (by decide) ?_
      obtain ⟨rfl, rfl⟩ := so_inj hM
      exact h_vret C h dX11_need_26
theorem cy_X11_need : Cy yX11_need cX11_need 2 none 1 := ⟨cd_yX11_need, ii_X11, by decide, by decide, by decide +kernel⟩
set_option maxRecDepth 100000 in
theorem c_X11_need {l : Launch} {E : EE} {G : GG} {x0 : Nat} {x1 : Int32} {m m9 : MM} {r9 : Unit} (hM : M_X11_need G x0 x1 m = some (r9, m9)) (tx0 : Ty E G x0 11) : Mc l E yX11_need cX11_need 2 none rmX11_need [.ref x0, .int x1] G m (cQv E G m9) := M_of (by decide) (Nat.le_of_ble_eq_true rfl) (fun p e s mth below meth c C h ls hl => cM_X11_need C hM tx0 _ _ h ls hl)
abbrev rmX11_isSame : Room := { frames := 0, cells := 0, slots := 0, locals := 0 }
def B_X11_isSame_16 (G : GG) : Nat → Nat → Int32 → Int32 → Int32 → Bool → Int32 → MM → Option (Bool × MM)
  | 0, _, _, _, _, _, _, _ => none
  | fu + 1, x0, x1, x2, x3, x5, x6, m =>
    if x2 ≤ x6 then
      some (x5, m)
    else
      if x5 = true then
        nb (gR m x0 2) fun b_1 =>
          ib (((2000 * (gI m x0 4)) + x1) + x6) (G.2.2 b_1) <|
            ib (((2000 * (gI m x0 4)) + x3) + x6) (G.2.2 b_1) <|
              if (gI m b_1 ((((2000 * (gI m x0 4)) + x1) + x6).toNatClampNeg)) = (gI m b_1 ((((2000 * (gI m x0 4)) + x3) + x6).toNatClampNeg)) then
                B_X11_isSame_16 G fu x0 x1 x2 x3 true (x6 + 1) m
              else
                B_X11_isSame_16 G fu x0 x1 x2 x3 false (x6 + 1) m
      else
        some (x5, m)
set_option maxRecDepth 100000 in
set_option maxHeartbeats 4000000 in
theorem cB_X11_isSame_16 {p : Program} {l : Launch} {e : Env} {s : State} {mth : MethodId} {args : Array Value} {below : List Frame} {meth : Method} {c : Code} {E : EE} {G : GG} {r9 : Bool} {m9 : MM} (C : Cx E G p s mth args meth c cX11_isSame RX11 "isSame" 7 (some .boolean)) : ∀ (fu : Nat) (x0 : Nat) (x1 : Int32) (x2 : Int32) (x3 : Int32) (x5 : Bool) (x6 : Int32) (m : MM), B_X11_isSame_16 G fu x0 x1 x2 x3 x5 x6 m = some (r9, m9) → (Ty E G x0 11) → ∀ (H : Heap) (locs : List Loc), Hp E G m s H locs → ∀ ls : Array Slot, lv_has ls 7 [(0, .ref x0), (1, .int x1), (2, .int x2), (3, .int x3), (5, .int (bz x5)), (6, .int x6)] → W p l e rmX11_isSame s mth args below meth c H locs 0 0 (MQ below (cQi E (bz r9) G m9) args s 0 0 (fun q => E.2.2.1 ≤ q)) (F0 mth 16 ls []) := by
  intro fu
  induction fu with
  | zero =>
    intro x0 x1 x2 x3 x5 x6 m hM
    rw [B_X11_isSame_16] at hM
    cases hM
  | succ fu ih =>
    intro x0 x1 x2 x3 x5 x6 m hM tx0 H locs h ls hl
    rw [B_X11_isSame_16] at hM
    refine lv_iload C.1 C.2.1 dX11_isSame_16 (lv_at hl 5 rfl) ?_
    refine lv_iload_n C.1 C.2.1 dX11_isSame_18 rfl (lv_at hl 2 rfl) ?_
    refine lv_icmp_ge (tgt := 79) C.1 C.2.1 dX11_isSame_19 (by decide) (fun q => ?_) (fun q => ?_)
    · have hM := ite_t q hM
      refine lv_iload C.1 C.2.1 dX11_isSame_79 (lv_at hl 4 rfl) ?_
      obtain ⟨rfl, rfl⟩ := so_inj hM
      exact h_zret C h (bz_ok _).1 dX11_isSame_81
    · have hM := ite_f q hM
      refine lv_iload C.1 C.2.1 dX11_isSame_22 (lv_at hl 4 rfl) ?_
      refine h_ifz (tgt := 79) C.1 C.2.1 dX11_isSame_24 (by decide) (fun q => ?_) (fun q => ?_)
      · have hM := ite_f q hM
        refine lv_iload C.1 C.2.1 dX11_isSame_79 (lv_at hl 4 rfl) ?_
        obtain ⟨rfl, rfl⟩ := so_inj hM
        exact h_zret C h (bz_ok _).1 dX11_isSame_81
      · have hM := ite_t q hM
        refine lv_aload_n C.1 C.2.1 dX11_isSame_27 rfl (lv_at hl 0 rfl) ?_
        refine gt_11_2 C h tx0 fl_X11_13 dX11_isSame_28 ?_
        obtain ⟨b_1, hb_1, hM⟩ := nb_some hM
        have tb_1 : Ty E G b_1 12 := (fun b hb => tyf h tx0 hb) _ hb_1
        refine st_ref hb_1 ?_
        refine lv_sipush (v := 2000) C.1 C.2.1 dX11_isSame_31 (by decide) ?_
        refine lv_aload_n C.1 C.2.1 dX11_isSame_34 rfl (lv_at hl 0 rfl) ?_
        refine gt_11_4 C h tx0 fl_X11_183 dX11_isSame_35 ?_
        refine lv_imul C.1 C.2.1 dX11_isSame_38 ?_
        refine lv_iload_n C.1 C.2.1 dX11_isSame_39 rfl (lv_at hl 1 rfl) ?_
        refine lv_iadd C.1 C.2.1 dX11_isSame_40 ?_
        refine lv_iload C.1 C.2.1 dX11_isSame_41 (lv_at hl 5 rfl) ?_
        refine lv_iadd C.1 C.2.1 dX11_isSame_43 ?_
        obtain ⟨hi, hM⟩ := ib_some hM
        refine h_iald C h tb_1 hi dX11_isSame_44 ?_
        refine lv_aload_n C.1 C.2.1 dX11_isSame_45 rfl (lv_at hl 0 rfl) ?_
        refine gt_11_2 C h tx0 fl_X11_13 dX11_isSame_46 ?_
        refine st_ref hb_1 ?_
        refine lv_sipush (v := 2000) C.1 C.2.1 dX11_isSame_49 (by decide) ?_
        refine lv_aload_n C.1 C.2.1 dX11_isSame_52 rfl (lv_at hl 0 rfl) ?_
        refine gt_11_4 C h tx0 fl_X11_183 dX11_isSame_53 ?_
        refine lv_imul C.1 C.2.1 dX11_isSame_56 ?_
        refine lv_iload_n C.1 C.2.1 dX11_isSame_57 rfl (lv_at hl 3 rfl) ?_
        refine lv_iadd C.1 C.2.1 dX11_isSame_58 ?_
        refine lv_iload C.1 C.2.1 dX11_isSame_59 (lv_at hl 5 rfl) ?_
        refine lv_iadd C.1 C.2.1 dX11_isSame_61 ?_
        obtain ⟨hi, hM⟩ := ib_some hM
        refine h_iald C h tb_1 hi dX11_isSame_62 ?_
        refine lv_icmp_ne (tgt := 70) C.1 C.2.1 dX11_isSame_63 (by decide) (fun q => ?_) (fun q => ?_)
        · have hM := ite_f q hM
          refine lv_iconst (v := 0) C.1 C.2.1 dX11_isSame_70 (by decide) ?_
          refine lv_istore (lv' := [(5, .int 0), (0, .ref x0), (1, .int x1), (2, .int x2), (3, .int x3), (6, .int x6)]) C.1 C.2.1 dX11_isSame_71 hl (by decide) rfl (fun ls hl => ?_)
          refine lv_iinc (v := x6 + 1) (lv' := [(6, .int (x6 + 1)), (5, .int 0), (0, .ref x0), (1, .int x1), (2, .int x2), (3, .int x3)]) C.1 C.2.1 dX11_isSame_73 hl (k := 5) rfl rfl (by decide) rfl (fun ls hl => ?_)
          refine lv_goto (tgt := 16) C.1 C.2.1 dX11_isSame_76 (by decide) ?_
          exact ih _ _ _ _ _ _ _ hM tx0 _ _ h ls (lv_sub hl [2, 3, 4, 5, 1, 0] rfl)
        · have hM := ite_t q hM
          refine lv_iconst (v := 1) C.1 C.2.1 dX11_isSame_66 (by decide) ?_
          refine lv_goto (tgt := 71) C.1 C.2.1 dX11_isSame_67 (by decide) ?_
          refine lv_istore (lv' := [(5, .int 1), (0, .ref x0), (1, .int x1), (2, .int x2), (3, .int x3), (6, .int x6)]) C.1 C.2.1 dX11_isSame_71 hl (by decide) rfl (fun ls hl => ?_)
          refine lv_iinc (v := x6 + 1) (lv' := [(6, .int (x6 + 1)), (5, .int 1), (0, .ref x0), (1, .int x1), (2, .int x2), (3, .int x3)]) C.1 C.2.1 dX11_isSame_73 hl (k := 5) rfl rfl (by decide) rfl (fun ls hl => ?_)
          refine lv_goto (tgt := 16) C.1 C.2.1 dX11_isSame_76 (by decide) ?_
          exact ih _ _ _ _ _ _ _ hM tx0 _ _ h ls (lv_sub hl [2, 3, 4, 5, 1, 0] rfl)
def M_X11_isSame (G : GG) (x0 : Nat) (x1 : Int32) (x2 : Int32) (x3 : Int32) (x4 : Int32) (m : MM) : Option (Bool × MM) :=
  if x2 = x4 then
    B_X11_isSame_16 G FU x0 x1 x2 x3 true 0 m
  else
    B_X11_isSame_16 G FU x0 x1 x2 x3 false 0 m
set_option maxRecDepth 100000 in
set_option maxHeartbeats 4000000 in
theorem cM_X11_isSame {p : Program} {l : Launch} {e : Env} {s : State} {mth : MethodId} {args : Array Value} {below : List Frame} {meth : Method} {c : Code} {E : EE} {G : GG} {r9 : Bool} {m9 : MM} (C : Cx E G p s mth args meth c cX11_isSame RX11 "isSame" 7 (some .boolean)) {x0 : Nat} {x1 : Int32} {x2 : Int32} {x3 : Int32} {x4 : Int32} {m : MM} (hM : M_X11_isSame G x0 x1 x2 x3 x4 m = some (r9, m9)) (tx0 : Ty E G x0 11) : ∀ (H : Heap) (locs : List Loc), Hp E G m s H locs → ∀ ls : Array Slot, lv_has ls 7 [(0, .ref x0), (1, .int x1), (2, .int x2), (3, .int x3), (4, .int x4)] → W p l e rmX11_isSame s mth args below meth c H locs 0 0 (MQ below (cQi E (bz r9) G m9) args s 0 0 (fun q => E.2.2.1 ≤ q)) (F0 mth 0 ls []) := by
  intro H locs h ls hl
  unfold M_X11_isSame at hM
  refine lv_iload_n C.1 C.2.1 dX11_isSame_0 rfl (lv_at hl 2 rfl) ?_
  refine lv_iload C.1 C.2.1 dX11_isSame_1 (lv_at hl 4 rfl) ?_
  refine lv_icmp_ne (tgt := 10) C.1 C.2.1 dX11_isSame_3 (by decide) (fun q => ?_) (fun q => ?_)
  · have hM := ite_f q hM
    refine lv_iconst (v := 0) C.1 C.2.1 dX11_isSame_10 (by decide) ?_
    refine lv_istore (lv' := [(5, .int 0), (0, .ref x0), (1, .int x1), (2, .int x2), (3, .int x3), (4, .int x4)]) C.1 C.2.1 dX11_isSame_11 hl (by decide) rfl (fun ls hl => ?_)
    refine lv_iconst (v := 0) C.1 C.2.1 dX11_isSame_13 (by decide) ?_
    refine lv_istore (lv' := [(6, .int 0), (5, .int 0), (0, .ref x0), (1, .int x1), (2, .int x2), (3, .int x3), (4, .int x4)]) C.1 C.2.1 dX11_isSame_14 hl (by decide) rfl (fun ls hl => ?_)
    exact cB_X11_isSame_16 C _ _ _ _ _ _ _ _ hM tx0 _ _ h ls (lv_sub hl [2, 3, 4, 5, 1, 0] rfl)
  · have hM := ite_t q hM
    refine lv_iconst (v := 1) C.1 C.2.1 dX11_isSame_6 (by decide) ?_
    refine lv_goto (tgt := 11) C.1 C.2.1 dX11_isSame_7 (by decide) ?_
    refine lv_istore (lv' := [(5, .int 1), (0, .ref x0), (1, .int x1), (2, .int x2), (3, .int x3), (4, .int x4)]) C.1 C.2.1 dX11_isSame_11 hl (by decide) rfl (fun ls hl => ?_)
    refine lv_iconst (v := 0) C.1 C.2.1 dX11_isSame_13 (by decide) ?_
    refine lv_istore (lv' := [(6, .int 0), (5, .int 1), (0, .ref x0), (1, .int x1), (2, .int x2), (3, .int x3), (4, .int x4)]) C.1 C.2.1 dX11_isSame_14 hl (by decide) rfl (fun ls hl => ?_)
    exact cB_X11_isSame_16 C _ _ _ _ _ _ _ _ hM tx0 _ _ h ls (lv_sub hl [2, 3, 4, 5, 1, 0] rfl)
theorem cy_X11_isSame : Cy yX11_isSame cX11_isSame 7 (some .boolean) 4 := ⟨cd_yX11_isSame, ii_X11, by decide, by decide, by decide +kernel⟩
set_option maxRecDepth 100000 in
theorem c_X11_isSame {l : Launch} {E : EE} {G : GG} {x0 : Nat} {x1 : Int32} {x2 : Int32} {x3 : Int32} {x4 : Int32} {m m9 : MM} {r9 : Bool} (hM : M_X11_isSame G x0 x1 x2 x3 x4 m = some (r9, m9)) (tx0 : Ty E G x0 11) : Mc l E yX11_isSame cX11_isSame 7 (some .boolean) rmX11_isSame [.ref x0, .int x1, .int x2, .int x3, .int x4] G m (cQi E (bz r9) G m9) := M_of (by decide) (Nat.le_of_ble_eq_true rfl) (fun p e s mth below meth c C h ls hl => cM_X11_isSame C hM tx0 _ _ h ls hl)
abbrev rmX11_emit : Room := { frames := 0, cells := 0, slots := 0, locals := 0 }
def M_X11_emit (G : GG) (x0 : Nat) (x1 : Int32) (x2 : Int32) (m : MM) : Option (Unit × MM) :=
  nb (gR m x0 33) fun b_1 =>
    ib (gI m x0 4) (G.2.2 b_1) <|
      nb (gR m x0 34) fun b_2 =>
        ib ((2100 * (gI m x0 4)) + (gI m b_1 ((gI m x0 4).toNatClampNeg))) (G.2.2 b_2) <|
          nb (gR (sI m b_2 (((2100 * (gI m x0 4)) + (gI m b_1 ((gI m x0 4).toNatClampNeg))).toNatClampNeg) x1) x0 35) fun b_3 =>
            ib ((2100 * (gI m x0 4)) + (gI m b_1 ((gI m x0 4).toNatClampNeg))) (G.2.2 b_3) <|
              nb (gR (sI (sI m b_2 (((2100 * (gI m x0 4)) + (gI m b_1 ((gI m x0 4).toNatClampNeg))).toNatClampNeg) x1) b_3 (((2100 * (gI m x0 4)) + (gI m b_1 ((gI m x0 4).toNatClampNeg))).toNatClampNeg) x2) x0 37) fun b_4 =>
                ib ((2100 * (gI m x0 4)) + (gI m b_1 ((gI m x0 4).toNatClampNeg))) (G.2.2 b_4) <|
                  nb (gR (sI (sI (sI m b_2 (((2100 * (gI m x0 4)) + (gI m b_1 ((gI m x0 4).toNatClampNeg))).toNatClampNeg) x1) b_3 (((2100 * (gI m x0 4)) + (gI m b_1 ((gI m x0 4).toNatClampNeg))).toNatClampNeg) x2) b_4 (((2100 * (gI m x0 4)) + (gI m b_1 ((gI m x0 4).toNatClampNeg))).toNatClampNeg) (gI (sI (sI m b_2 (((2100 * (gI m x0 4)) + (gI m b_1 ((gI m x0 4).toNatClampNeg))).toNatClampNeg) x1) b_3 (((2100 * (gI m x0 4)) + (gI m b_1 ((gI m x0 4).toNatClampNeg))).toNatClampNeg) x2) x0 42)) x0 50) fun b_5 =>
                    ib ((2100 * (gI m x0 4)) + (gI m b_1 ((gI m x0 4).toNatClampNeg))) (G.2.2 b_5) <|
                      nb (gR (sI (sI (sI (sI m b_2 (((2100 * (gI m x0 4)) + (gI m b_1 ((gI m x0 4).toNatClampNeg))).toNatClampNeg) x1) b_3 (((2100 * (gI m x0 4)) + (gI m b_1 ((gI m x0 4).toNatClampNeg))).toNatClampNeg) x2) b_4 (((2100 * (gI m x0 4)) + (gI m b_1 ((gI m x0 4).toNatClampNeg))).toNatClampNeg) (gI (sI (sI m b_2 (((2100 * (gI m x0 4)) + (gI m b_1 ((gI m x0 4).toNatClampNeg))).toNatClampNeg) x1) b_3 (((2100 * (gI m x0 4)) + (gI m b_1 ((gI m x0 4).toNatClampNeg))).toNatClampNeg) x2) x0 42)) b_5 (((2100 * (gI m x0 4)) + (gI m b_1 ((gI m x0 4).toNatClampNeg))).toNatClampNeg) 0) x0 51) fun b_6 =>
                        ib ((2100 * (gI m x0 4)) + (gI m b_1 ((gI m x0 4).toNatClampNeg))) (G.2.2 b_6) <|
                          nb (gR (sI (sI (sI (sI (sI m b_2 (((2100 * (gI m x0 4)) + (gI m b_1 ((gI m x0 4).toNatClampNeg))).toNatClampNeg) x1) b_3 (((2100 * (gI m x0 4)) + (gI m b_1 ((gI m x0 4).toNatClampNeg))).toNatClampNeg) x2) b_4 (((2100 * (gI m x0 4)) + (gI m b_1 ((gI m x0 4).toNatClampNeg))).toNatClampNeg) (gI (sI (sI m b_2 (((2100 * (gI m x0 4)) + (gI m b_1 ((gI m x0 4).toNatClampNeg))).toNatClampNeg) x1) b_3 (((2100 * (gI m x0 4)) + (gI m b_1 ((gI m x0 4).toNatClampNeg))).toNatClampNeg) x2) x0 42)) b_5 (((2100 * (gI m x0 4)) + (gI m b_1 ((gI m x0 4).toNatClampNeg))).toNatClampNeg) 0) b_6 (((2100 * (gI m x0 4)) + (gI m b_1 ((gI m x0 4).toNatClampNeg))).toNatClampNeg) (gI (sI (sI (sI (sI m b_2 (((2100 * (gI m x0 4)) + (gI m b_1 ((gI m x0 4).toNatClampNeg))).toNatClampNeg) x1) b_3 (((2100 * (gI m x0 4)) + (gI m b_1 ((gI m x0 4).toNatClampNeg))).toNatClampNeg) x2) b_4 (((2100 * (gI m x0 4)) + (gI m b_1 ((gI m x0 4).toNatClampNeg))).toNatClampNeg) (gI (sI (sI m b_2 (((2100 * (gI m x0 4)) + (gI m b_1 ((gI m x0 4).toNatClampNeg))).toNatClampNeg) x1) b_3 (((2100 * (gI m x0 4)) + (gI m b_1 ((gI m x0 4).toNatClampNeg))).toNatClampNeg) x2) x0 42)) b_5 (((2100 * (gI m x0 4)) + (gI m b_1 ((gI m x0 4).toNatClampNeg))).toNatClampNeg) 0) x0 48)) x0 33) fun b_7 =>
                            ib (gI (sI (sI (sI (sI (sI m b_2 (((2100 * (gI m x0 4)) + (gI m b_1 ((gI m x0 4).toNatClampNeg))).toNatClampNeg) x1) b_3 (((2100 * (gI m x0 4)) + (gI m b_1 ((gI m x0 4).toNatClampNeg))).toNatClampNeg) x2) b_4 (((2100 * (gI m x0 4)) + (gI m b_1 ((gI m x0 4).toNatClampNeg))).toNatClampNeg) (gI (sI (sI m b_2 (((2100 * (gI m x0 4)) + (gI m b_1 ((gI m x0 4).toNatClampNeg))).toNatClampNeg) x1) b_3 (((2100 * (gI m x0 4)) + (gI m b_1 ((gI m x0 4).toNatClampNeg))).toNatClampNeg) x2) x0 42)) b_5 (((2100 * (gI m x0 4)) + (gI m b_1 ((gI m x0 4).toNatClampNeg))).toNatClampNeg) 0) b_6 (((2100 * (gI m x0 4)) + (gI m b_1 ((gI m x0 4).toNatClampNeg))).toNatClampNeg) (gI (sI (sI (sI (sI m b_2 (((2100 * (gI m x0 4)) + (gI m b_1 ((gI m x0 4).toNatClampNeg))).toNatClampNeg) x1) b_3 (((2100 * (gI m x0 4)) + (gI m b_1 ((gI m x0 4).toNatClampNeg))).toNatClampNeg) x2) b_4 (((2100 * (gI m x0 4)) + (gI m b_1 ((gI m x0 4).toNatClampNeg))).toNatClampNeg) (gI (sI (sI m b_2 (((2100 * (gI m x0 4)) + (gI m b_1 ((gI m x0 4).toNatClampNeg))).toNatClampNeg) x1) b_3 (((2100 * (gI m x0 4)) + (gI m b_1 ((gI m x0 4).toNatClampNeg))).toNatClampNeg) x2) x0 42)) b_5 (((2100 * (gI m x0 4)) + (gI m b_1 ((gI m x0 4).toNatClampNeg))).toNatClampNeg) 0) x0 48)) x0 4) (G.2.2 b_7) <|
                              ib (gI (sI (sI (sI (sI (sI m b_2 (((2100 * (gI m x0 4)) + (gI m b_1 ((gI m x0 4).toNatClampNeg))).toNatClampNeg) x1) b_3 (((2100 * (gI m x0 4)) + (gI m b_1 ((gI m x0 4).toNatClampNeg))).toNatClampNeg) x2) b_4 (((2100 * (gI m x0 4)) + (gI m b_1 ((gI m x0 4).toNatClampNeg))).toNatClampNeg) (gI (sI (sI m b_2 (((2100 * (gI m x0 4)) + (gI m b_1 ((gI m x0 4).toNatClampNeg))).toNatClampNeg) x1) b_3 (((2100 * (gI m x0 4)) + (gI m b_1 ((gI m x0 4).toNatClampNeg))).toNatClampNeg) x2) x0 42)) b_5 (((2100 * (gI m x0 4)) + (gI m b_1 ((gI m x0 4).toNatClampNeg))).toNatClampNeg) 0) b_6 (((2100 * (gI m x0 4)) + (gI m b_1 ((gI m x0 4).toNatClampNeg))).toNatClampNeg) (gI (sI (sI (sI (sI m b_2 (((2100 * (gI m x0 4)) + (gI m b_1 ((gI m x0 4).toNatClampNeg))).toNatClampNeg) x1) b_3 (((2100 * (gI m x0 4)) + (gI m b_1 ((gI m x0 4).toNatClampNeg))).toNatClampNeg) x2) b_4 (((2100 * (gI m x0 4)) + (gI m b_1 ((gI m x0 4).toNatClampNeg))).toNatClampNeg) (gI (sI (sI m b_2 (((2100 * (gI m x0 4)) + (gI m b_1 ((gI m x0 4).toNatClampNeg))).toNatClampNeg) x1) b_3 (((2100 * (gI m x0 4)) + (gI m b_1 ((gI m x0 4).toNatClampNeg))).toNatClampNeg) x2) x0 42)) b_5 (((2100 * (gI m x0 4)) + (gI m b_1 ((gI m x0 4).toNatClampNeg))).toNatClampNeg) 0) x0 48)) x0 4) (G.2.2 b_7) <|
                                some ((), sI (sI (sI (sI (sI (sI m b_2 (((2100 * (gI m x0 4)) + (gI m b_1 ((gI m x0 4).toNatClampNeg))).toNatClampNeg) x1) b_3 (((2100 * (gI m x0 4)) + (gI m b_1 ((gI m x0 4).toNatClampNeg))).toNatClampNeg) x2) b_4 (((2100 * (gI m x0 4)) + (gI m b_1 ((gI m x0 4).toNatClampNeg))).toNatClampNeg) (gI (sI (sI m b_2 (((2100 * (gI m x0 4)) + (gI m b_1 ((gI m x0 4).toNatClampNeg))).toNatClampNeg) x1) b_3 (((2100 * (gI m x0 4)) + (gI m b_1 ((gI m x0 4).toNatClampNeg))).toNatClampNeg) x2) x0 42)) b_5 (((2100 * (gI m x0 4)) + (gI m b_1 ((gI m x0 4).toNatClampNeg))).toNatClampNeg) 0) b_6 (((2100 * (gI m x0 4)) + (gI m b_1 ((gI m x0 4).toNatClampNeg))).toNatClampNeg) (gI (sI (sI (sI (sI m b_2 (((2100 * (gI m x0 4)) + (gI m b_1 ((gI m x0 4).toNatClampNeg))).toNatClampNeg) x1) b_3 (((2100 * (gI m x0 4)) + (gI m b_1 ((gI m x0 4).toNatClampNeg))).toNatClampNeg) x2) b_4 (((2100 * (gI m x0 4)) + (gI m b_1 ((gI m x0 4).toNatClampNeg))).toNatClampNeg) (gI (sI (sI m b_2 (((2100 * (gI m x0 4)) + (gI m b_1 ((gI m x0 4).toNatClampNeg))).toNatClampNeg) x1) b_3 (((2100 * (gI m x0 4)) + (gI m b_1 ((gI m x0 4).toNatClampNeg))).toNatClampNeg) x2) x0 42)) b_5 (((2100 * (gI m x0 4)) + (gI m b_1 ((gI m x0 4).toNatClampNeg))).toNatClampNeg) 0) x0 48)) b_7 ((gI (sI (sI (sI (sI (sI m b_2 (((2100 * (gI m x0 4)) + (gI m b_1 ((gI m x0 4).toNatClampNeg))).toNatClampNeg) x1) b_3 (((2100 * (gI m x0 4)) + (gI m b_1 ((gI m x0 4).toNatClampNeg))).toNatClampNeg) x2) b_4 (((2100 * (gI m x0 4)) + (gI m b_1 ((gI m x0 4).toNatClampNeg))).toNatClampNeg) (gI (sI (sI m b_2 (((2100 * (gI m x0 4)) + (gI m b_1 ((gI m x0 4).toNatClampNeg))).toNatClampNeg) x1) b_3 (((2100 * (gI m x0 4)) + (gI m b_1 ((gI m x0 4).toNatClampNeg))).toNatClampNeg) x2) x0 42)) b_5 (((2100 * (gI m x0 4)) + (gI m b_1 ((gI m x0 4).toNatClampNeg))).toNatClampNeg) 0) b_6 (((2100 * (gI m x0 4)) + (gI m b_1 ((gI m x0 4).toNatClampNeg))).toNatClampNeg) (gI (sI (sI (sI (sI m b_2 (((2100 * (gI m x0 4)) + (gI m b_1 ((gI m x0 4).toNatClampNeg))).toNatClampNeg) x1) b_3 (((2100 * (gI m x0 4)) + (gI m b_1 ((gI m x0 4).toNatClampNeg))).toNatClampNeg) x2) b_4 (((2100 * (gI m x0 4)) + (gI m b_1 ((gI m x0 4).toNatClampNeg))).toNatClampNeg) (gI (sI (sI m b_2 (((2100 * (gI m x0 4)) + (gI m b_1 ((gI m x0 4).toNatClampNeg))).toNatClampNeg) x1) b_3 (((2100 * (gI m x0 4)) + (gI m b_1 ((gI m x0 4).toNatClampNeg))).toNatClampNeg) x2) x0 42)) b_5 (((2100 * (gI m x0 4)) + (gI m b_1 ((gI m x0 4).toNatClampNeg))).toNatClampNeg) 0) x0 48)) x0 4).toNatClampNeg) ((gI (sI (sI (sI (sI (sI m b_2 (((2100 * (gI m x0 4)) + (gI m b_1 ((gI m x0 4).toNatClampNeg))).toNatClampNeg) x1) b_3 (((2100 * (gI m x0 4)) + (gI m b_1 ((gI m x0 4).toNatClampNeg))).toNatClampNeg) x2) b_4 (((2100 * (gI m x0 4)) + (gI m b_1 ((gI m x0 4).toNatClampNeg))).toNatClampNeg) (gI (sI (sI m b_2 (((2100 * (gI m x0 4)) + (gI m b_1 ((gI m x0 4).toNatClampNeg))).toNatClampNeg) x1) b_3 (((2100 * (gI m x0 4)) + (gI m b_1 ((gI m x0 4).toNatClampNeg))).toNatClampNeg) x2) x0 42)) b_5 (((2100 * (gI m x0 4)) + (gI m b_1 ((gI m x0 4).toNatClampNeg))).toNatClampNeg) 0) b_6 (((2100 * (gI m x0 4)) + (gI m b_1 ((gI m x0 4).toNatClampNeg))).toNatClampNeg) (gI (sI (sI (sI (sI m b_2 (((2100 * (gI m x0 4)) + (gI m b_1 ((gI m x0 4).toNatClampNeg))).toNatClampNeg) x1) b_3 (((2100 * (gI m x0 4)) + (gI m b_1 ((gI m x0 4).toNatClampNeg))).toNatClampNeg) x2) b_4 (((2100 * (gI m x0 4)) + (gI m b_1 ((gI m x0 4).toNatClampNeg))).toNatClampNeg) (gI (sI (sI m b_2 (((2100 * (gI m x0 4)) + (gI m b_1 ((gI m x0 4).toNatClampNeg))).toNatClampNeg) x1) b_3 (((2100 * (gI m x0 4)) + (gI m b_1 ((gI m x0 4).toNatClampNeg))).toNatClampNeg) x2) x0 42)) b_5 (((2100 * (gI m x0 4)) + (gI m b_1 ((gI m x0 4).toNatClampNeg))).toNatClampNeg) 0) x0 48)) b_7 ((gI (sI (sI (sI (sI (sI m b_2 (((2100 * (gI m x0 4)) + (gI m b_1 ((gI m x0 4).toNatClampNeg))).toNatClampNeg) x1) b_3 (((2100 * (gI m x0 4)) + (gI m b_1 ((gI m x0 4).toNatClampNeg))).toNatClampNeg) x2) b_4 (((2100 * (gI m x0 4)) + (gI m b_1 ((gI m x0 4).toNatClampNeg))).toNatClampNeg) (gI (sI (sI m b_2 (((2100 * (gI m x0 4)) + (gI m b_1 ((gI m x0 4).toNatClampNeg))).toNatClampNeg) x1) b_3 (((2100 * (gI m x0 4)) + (gI m b_1 ((gI m x0 4).toNatClampNeg))).toNatClampNeg) x2) x0 42)) b_5 (((2100 * (gI m x0 4)) + (gI m b_1 ((gI m x0 4).toNatClampNeg))).toNatClampNeg) 0) b_6 (((2100 * (gI m x0 4)) + (gI m b_1 ((gI m x0 4).toNatClampNeg))).toNatClampNeg) (gI (sI (sI (sI (sI m b_2 (((2100 * (gI m x0 4)) + (gI m b_1 ((gI m x0 4).toNatClampNeg))).toNatClampNeg) x1) b_3 (((2100 * (gI m x0 4)) + (gI m b_1 ((gI m x0 4).toNatClampNeg))).toNatClampNeg) x2) b_4 (((2100 * (gI m x0 4)) + (gI m b_1 ((gI m x0 4).toNatClampNeg))).toNatClampNeg) (gI (sI (sI m b_2 (((2100 * (gI m x0 4)) + (gI m b_1 ((gI m x0 4).toNatClampNeg))).toNatClampNeg) x1) b_3 (((2100 * (gI m x0 4)) + (gI m b_1 ((gI m x0 4).toNatClampNeg))).toNatClampNeg) x2) x0 42)) b_5 (((2100 * (gI m x0 4)) + (gI m b_1 ((gI m x0 4).toNatClampNeg))).toNatClampNeg) 0) x0 48)) x0 4).toNatClampNeg)) + 1))
set_option maxRecDepth 100000 in
set_option maxHeartbeats 4000000 in
theorem cM_X11_emit {p : Program} {l : Launch} {e : Env} {s : State} {mth : MethodId} {args : Array Value} {below : List Frame} {meth : Method} {c : Code} {E : EE} {G : GG} {r9 : Unit} {m9 : MM} (C : Cx E G p s mth args meth c cX11_emit RX11 "emit" 4 none) {x0 : Nat} {x1 : Int32} {x2 : Int32} {m : MM} (hM : M_X11_emit G x0 x1 x2 m = some (r9, m9)) (tx0 : Ty E G x0 11) : ∀ (H : Heap) (locs : List Loc), Hp E G m s H locs → ∀ ls : Array Slot, lv_has ls 4 [(0, .ref x0), (1, .int x1), (2, .int x2)] → W p l e rmX11_emit s mth args below meth c H locs 0 0 (MQ below (cQv E G m9) args s 0 0 (fun q => E.2.2.1 ≤ q)) (F0 mth 0 ls []) := by
  intro H locs h ls hl
  unfold M_X11_emit at hM
  refine lv_sipush (v := 2100) C.1 C.2.1 dX11_emit_0 (by decide) ?_
  refine lv_aload_n C.1 C.2.1 dX11_emit_3 rfl (lv_at hl 0 rfl) ?_
  refine gt_11_4 C h tx0 fl_X11_183 dX11_emit_4 ?_
  refine lv_imul C.1 C.2.1 dX11_emit_7 ?_
  refine lv_aload_n C.1 C.2.1 dX11_emit_8 rfl (lv_at hl 0 rfl) ?_
  refine gt_11_33 C h tx0 fl_X11_97 dX11_emit_9 ?_
  obtain ⟨b_1, hb_1, hM⟩ := nb_some hM
  have tb_1 : Ty E G b_1 12 := (fun b hb => tyf h tx0 hb) _ hb_1
  refine st_ref hb_1 ?_
  refine lv_aload_n C.1 C.2.1 dX11_emit_12 rfl (lv_at hl 0 rfl) ?_
  refine gt_11_4 C h tx0 fl_X11_183 dX11_emit_13 ?_
  obtain ⟨hi, hM⟩ := ib_some hM
  refine h_iald C h tb_1 hi dX11_emit_16 ?_
  refine lv_iadd C.1 C.2.1 dX11_emit_17 ?_
  refine lv_istore_n (lv' := [(3, .int ((2100 * (gI m x0 4)) + (gI m b_1 ((gI m x0 4).toNatClampNeg)))), (0, .ref x0), (1, .int x1), (2, .int x2)]) C.1 C.2.1 dX11_emit_18 rfl hl (by decide) rfl (fun ls hl => ?_)
  refine lv_aload_n C.1 C.2.1 dX11_emit_19 rfl (lv_at hl 1 rfl) ?_
  refine gt_11_34 C h tx0 fl_X11_100 dX11_emit_20 ?_
  obtain ⟨b_2, hb_2, hM⟩ := nb_some hM
  have tb_2 : Ty E G b_2 12 := (fun b hb => tyf h tx0 hb) _ hb_2
  refine st_ref hb_2 ?_
  refine lv_iload_n C.1 C.2.1 dX11_emit_23 rfl (lv_at hl 0 rfl) ?_
  refine lv_iload_n C.1 C.2.1 dX11_emit_24 rfl (lv_at hl 2 rfl) ?_
  obtain ⟨hi, hM⟩ := ib_some hM
  refine h_iast C h tb_2 hi dX11_emit_25 (fun H locs h => ?_)
  refine lv_aload_n C.1 C.2.1 dX11_emit_26 rfl (lv_at hl 1 rfl) ?_
  refine gt_11_35 C h tx0 fl_X11_103 dX11_emit_27 ?_
  obtain ⟨b_3, hb_3, hM⟩ := nb_some hM
  have tb_3 : Ty E G b_3 12 := (fun b hb => tyf h tx0 hb) _ hb_3
  refine st_ref hb_3 ?_
  refine lv_iload_n C.1 C.2.1 dX11_emit_30 rfl (lv_at hl 0 rfl) ?_
  refine lv_iload_n C.1 C.2.1 dX11_emit_31 rfl (lv_at hl 3 rfl) ?_
  obtain ⟨hi, hM⟩ := ib_some hM
  refine h_iast C h tb_3 hi dX11_emit_32 (fun H locs h => ?_)
  refine lv_aload_n C.1 C.2.1 dX11_emit_33 rfl (lv_at hl 1 rfl) ?_
  refine gt_11_37 C h tx0 fl_X11_109 dX11_emit_34 ?_
  obtain ⟨b_4, hb_4, hM⟩ := nb_some hM
  have tb_4 : Ty E G b_4 12 := (fun b hb => tyf h tx0 hb) _ hb_4
  refine st_ref hb_4 ?_
  refine lv_iload_n C.1 C.2.1 dX11_emit_37 rfl (lv_at hl 0 rfl) ?_
  refine lv_aload_n C.1 C.2.1 dX11_emit_38 rfl (lv_at hl 1 rfl) ?_
  refine gt_11_42 C h tx0 fl_X11_193 dX11_emit_39 ?_
  obtain ⟨hi, hM⟩ := ib_some hM
  refine h_iast C h tb_4 hi dX11_emit_42 (fun H locs h => ?_)
  refine lv_aload_n C.1 C.2.1 dX11_emit_43 rfl (lv_at hl 1 rfl) ?_
  refine gt_11_50 C h tx0 fl_X11_124 dX11_emit_44 ?_
  obtain ⟨b_5, hb_5, hM⟩ := nb_some hM
  have tb_5 : Ty E G b_5 12 := (fun b hb => tyf h tx0 hb) _ hb_5
  refine st_ref hb_5 ?_
  refine lv_iload_n C.1 C.2.1 dX11_emit_47 rfl (lv_at hl 0 rfl) ?_
  refine lv_iconst (v := 0) C.1 C.2.1 dX11_emit_48 (by decide) ?_
  obtain ⟨hi, hM⟩ := ib_some hM
  refine h_iast C h tb_5 hi dX11_emit_49 (fun H locs h => ?_)
  refine lv_aload_n C.1 C.2.1 dX11_emit_50 rfl (lv_at hl 1 rfl) ?_
  refine gt_11_51 C h tx0 fl_X11_127 dX11_emit_51 ?_
  obtain ⟨b_6, hb_6, hM⟩ := nb_some hM
  have tb_6 : Ty E G b_6 12 := (fun b hb => tyf h tx0 hb) _ hb_6
  refine st_ref hb_6 ?_
  refine lv_iload_n C.1 C.2.1 dX11_emit_54 rfl (lv_at hl 0 rfl) ?_
  refine lv_aload_n C.1 C.2.1 dX11_emit_55 rfl (lv_at hl 1 rfl) ?_
  refine gt_11_48 C h tx0 fl_X11_265 dX11_emit_56 ?_
  obtain ⟨hi, hM⟩ := ib_some hM
  refine h_iast C h tb_6 hi dX11_emit_59 (fun H locs h => ?_)
  refine lv_aload_n C.1 C.2.1 dX11_emit_60 rfl (lv_at hl 1 rfl) ?_
  refine gt_11_33 C h tx0 fl_X11_97 dX11_emit_61 ?_
  obtain ⟨b_7, hb_7, hM⟩ := nb_some hM
  have tb_7 : Ty E G b_7 12 := (fun b hb => tyf h tx0 hb) _ hb_7
  refine st_ref hb_7 ?_
  refine lv_aload_n C.1 C.2.1 dX11_emit_64 rfl (lv_at hl 1 rfl) ?_
  refine gt_11_4 C h tx0 fl_X11_183 dX11_emit_65 ?_
  refine lv_dup2_11 C.1 C.2.1 dX11_emit_68 rfl rfl ?_
  obtain ⟨hi, hM⟩ := ib_some hM
  refine h_iald C h tb_7 hi dX11_emit_69 ?_
  refine lv_iconst (v := 1) C.1 C.2.1 dX11_emit_70 (by decide) ?_
  refine lv_iadd C.1 C.2.1 dX11_emit_71 ?_
  obtain ⟨hi, hM⟩ := ib_some hM
  refine h_iast C h tb_7 hi dX11_emit_72 (fun H locs h => ?_)
  obtain ⟨rfl, rfl⟩ := so_inj hM
  exact h_vret C h dX11_emit_73
theorem cy_X11_emit : Cy yX11_emit cX11_emit 4 none 2 := ⟨cd_yX11_emit, ii_X11, by decide, by decide, by decide +kernel⟩
set_option maxRecDepth 100000 in
theorem c_X11_emit {l : Launch} {E : EE} {G : GG} {x0 : Nat} {x1 : Int32} {x2 : Int32} {m m9 : MM} {r9 : Unit} (hM : M_X11_emit G x0 x1 x2 m = some (r9, m9)) (tx0 : Ty E G x0 11) : Mc l E yX11_emit cX11_emit 4 none rmX11_emit [.ref x0, .int x1, .int x2] G m (cQv E G m9) := M_of (by decide) (Nat.le_of_ble_eq_true rfl) (fun p e s mth below meth c C h ls hl => cM_X11_emit C hM tx0 _ _ h ls hl)
abbrev rmX11_readOne : Room := { frames := 4, cells := 0, slots := 0, locals := 87 }
def B_X11_readOne_70 (G : GG) (x0 : Nat) (m : MM) : Option (Unit × MM) :=
  if (gI m x0 44) = 26 then
    bd (M_X11_emit G x0 4 0 m) fun _ m_10 =>
      bd (M_X11_next G x0 m_10) fun _ m_12 =>
        some ((), m_12)
  else
    if (gI m x0 44) = 27 then
      bd (M_X11_emit G x0 5 0 m) fun _ m_6 =>
        bd (M_X11_next G x0 m_6) fun _ m_8 =>
          some ((), m_8)
    else
      bd (M_X11_emit G x0 6 0 m) fun _ m_2 =>
        bd (M_X11_next G x0 m_2) fun _ m_4 =>
          some ((), m_4)
set_option maxRecDepth 100000 in
set_option maxHeartbeats 4000000 in
theorem cB_X11_readOne_70 {p : Program} {l : Launch} {e : Env} {s : State} {mth : MethodId} {args : Array Value} {below : List Frame} {meth : Method} {c : Code} {E : EE} {G : GG} {r9 : Unit} {m9 : MM} (C : Cx E G p s mth args meth c cX11_readOne RX11 "readOne" 2 none) {x0 : Nat} {m : MM} (hM : B_X11_readOne_70 G x0 m = some (r9, m9)) (tx0 : Ty E G x0 11) : ∀ (H : Heap) (locs : List Loc), Hp E G m s H locs → ∀ ls : Array Slot, lv_has ls 2 [(0, .ref x0)] → W p l e rmX11_readOne s mth args below meth c H locs 0 0 (MQ below (cQv E G m9) args s 0 0 (fun q => E.2.2.1 ≤ q)) (F0 mth 70 ls []) := by
  intro H locs h ls hl
  unfold B_X11_readOne_70 at hM
  refine lv_aload_n C.1 C.2.1 dX11_readOne_70 rfl (lv_at hl 0 rfl) ?_
  refine lv_aload_n C.1 C.2.1 dX11_readOne_71 rfl (lv_at hl 0 rfl) ?_
  refine gt_11_44 C h tx0 fl_X11_196 dX11_readOne_72 ?_
  refine lv_bipush (v := 26) C.1 C.2.1 dX11_readOne_75 (by decide) ?_
  refine lv_icmp_ne (tgt := 84) C.1 C.2.1 dX11_readOne_77 (by decide) (fun q => ?_) (fun q => ?_)
  · have hM := ite_f q hM
    refine lv_aload_n C.1 C.2.1 dX11_readOne_84 rfl (lv_at hl 0 rfl) ?_
    refine gt_11_44 C h tx0 fl_X11_196 dX11_readOne_85 ?_
    refine lv_bipush (v := 27) C.1 C.2.1 dX11_readOne_88 (by decide) ?_
    refine lv_icmp_ne (tgt := 97) C.1 C.2.1 dX11_readOne_90 (by decide) (fun q => ?_) (fun q => ?_)
    · have hM := ite_f q hM
      refine lv_bipush (v := 6) C.1 C.2.1 dX11_readOne_97 (by decide) ?_
      refine lv_iconst (v := 0) C.1 C.2.1 dX11_readOne_99 (by decide) ?_
      obtain ⟨r_1, m_2, hc_1, hM⟩ := bd_some hM
      refine h_callVv C h (As := [.int 6, .int 0]) (rest := []) m_2 (c_X11_emit hc_1 tx0) 11 rfl (by decide) tx0 im_yX11_emit se_yX11_emit cy_X11_emit rfl ml_X11_293 ⟨by decide, by decide⟩ ⟨Nat.zero_le _, Nat.zero_le _⟩ hl.1 rfl (Nat.le_of_ble_eq_true rfl) dX11_readOne_100 (fun H locs h => ?_)
      refine lv_aload_n C.1 C.2.1 dX11_readOne_103 rfl (lv_at hl 0 rfl) ?_
      obtain ⟨r_3, m_4, hc_3, hM⟩ := bd_some hM
      refine h_callVv C h (As := []) (rest := []) m_4 (c_X11_next hc_3 tx0) 11 rfl (by decide) tx0 im_yX11_next se_yX11_next cy_X11_next rfl ml_X11_256 ⟨by decide, by decide⟩ ⟨Nat.zero_le _, Nat.zero_le _⟩ hl.1 rfl (Nat.le_of_ble_eq_true rfl) dX11_readOne_104 (fun H locs h => ?_)
      refine lv_goto (tgt := 204) C.1 C.2.1 dX11_readOne_107 (by decide) ?_
      obtain ⟨rfl, rfl⟩ := so_inj hM
      exact h_vret C h dX11_readOne_204
    · have hM := ite_t q hM
      refine lv_iconst (v := 5) C.1 C.2.1 dX11_readOne_93 (by decide) ?_
      refine lv_goto (tgt := 99) C.1 C.2.1 dX11_readOne_94 (by decide) ?_
      refine lv_iconst (v := 0) C.1 C.2.1 dX11_readOne_99 (by decide) ?_
      obtain ⟨r_5, m_6, hc_5, hM⟩ := bd_some hM
      refine h_callVv C h (As := [.int 5, .int 0]) (rest := []) m_6 (c_X11_emit hc_5 tx0) 11 rfl (by decide) tx0 im_yX11_emit se_yX11_emit cy_X11_emit rfl ml_X11_293 ⟨by decide, by decide⟩ ⟨Nat.zero_le _, Nat.zero_le _⟩ hl.1 rfl (Nat.le_of_ble_eq_true rfl) dX11_readOne_100 (fun H locs h => ?_)
      refine lv_aload_n C.1 C.2.1 dX11_readOne_103 rfl (lv_at hl 0 rfl) ?_
      obtain ⟨r_7, m_8, hc_7, hM⟩ := bd_some hM
      refine h_callVv C h (As := []) (rest := []) m_8 (c_X11_next hc_7 tx0) 11 rfl (by decide) tx0 im_yX11_next se_yX11_next cy_X11_next rfl ml_X11_256 ⟨by decide, by decide⟩ ⟨Nat.zero_le _, Nat.zero_le _⟩ hl.1 rfl (Nat.le_of_ble_eq_true rfl) dX11_readOne_104 (fun H locs h => ?_)
      refine lv_goto (tgt := 204) C.1 C.2.1 dX11_readOne_107 (by decide) ?_
      obtain ⟨rfl, rfl⟩ := so_inj hM
      exact h_vret C h dX11_readOne_204
  · have hM := ite_t q hM
    refine lv_iconst (v := 4) C.1 C.2.1 dX11_readOne_80 (by decide) ?_
    refine lv_goto (tgt := 99) C.1 C.2.1 dX11_readOne_81 (by decide) ?_
    refine lv_iconst (v := 0) C.1 C.2.1 dX11_readOne_99 (by decide) ?_
    obtain ⟨r_9, m_10, hc_9, hM⟩ := bd_some hM
    refine h_callVv C h (As := [.int 4, .int 0]) (rest := []) m_10 (c_X11_emit hc_9 tx0) 11 rfl (by decide) tx0 im_yX11_emit se_yX11_emit cy_X11_emit rfl ml_X11_293 ⟨by decide, by decide⟩ ⟨Nat.zero_le _, Nat.zero_le _⟩ hl.1 rfl (Nat.le_of_ble_eq_true rfl) dX11_readOne_100 (fun H locs h => ?_)
    refine lv_aload_n C.1 C.2.1 dX11_readOne_103 rfl (lv_at hl 0 rfl) ?_
    obtain ⟨r_11, m_12, hc_11, hM⟩ := bd_some hM
    refine h_callVv C h (As := []) (rest := []) m_12 (c_X11_next hc_11 tx0) 11 rfl (by decide) tx0 im_yX11_next se_yX11_next cy_X11_next rfl ml_X11_256 ⟨by decide, by decide⟩ ⟨Nat.zero_le _, Nat.zero_le _⟩ hl.1 rfl (Nat.le_of_ble_eq_true rfl) dX11_readOne_104 (fun H locs h => ?_)
    refine lv_goto (tgt := 204) C.1 C.2.1 dX11_readOne_107 (by decide) ?_
    obtain ⟨rfl, rfl⟩ := so_inj hM
    exact h_vret C h dX11_readOne_204
def M_X11_readOne (G : GG) (x0 : Nat) (m : MM) : Option (Unit × MM) :=
  nb (gR m x0 33) fun b_13 =>
    ib (gI m x0 4) (G.2.2 b_13) <|
      if (gI m x0 44) = 2 then
        bd (M_X11_emit G x0 1 (gI m x0 45) m) fun _ m_33 =>
          bd (M_X11_next G x0 m_33) fun _ m_35 =>
            some ((), m_35)
      else
        if (gI m x0 44) = 26 then
          B_X11_readOne_70 G x0 m
        else
          if (gI m x0 44) = 27 then
            B_X11_readOne_70 G x0 m
          else
            if (gI m x0 44) = 28 then
              B_X11_readOne_70 G x0 m
            else
              if (gI m x0 44) = 1 then
                bd (M_X11_emit G x0 2 0 m) fun _ m_17 =>
                  nb (gR m_17 x0 38) fun b_18 =>
                    ib ((2100 * (gI m x0 4)) + (gI m b_13 ((gI m x0 4).toNatClampNeg))) (G.2.2 b_18) <|
                      bd (M_X11_next G x0 (sI m_17 b_18 (((2100 * (gI m x0 4)) + (gI m b_13 ((gI m x0 4).toNatClampNeg))).toNatClampNeg) (gI m_17 x0 43))) fun _ m_20 =>
                        bd (M_X11_isAt G x0 46 m_20) fun r_21 m_22 =>
                          if r_21 = true then
                            bd (M_X11_next G x0 m_22) fun _ m_24 =>
                              nb (gR m_24 x0 34) fun b_25 =>
                                ib ((2100 * (gI m x0 4)) + (gI m b_13 ((gI m x0 4).toNatClampNeg))) (G.2.2 b_25) <|
                                  nb (gR (sI m_24 b_25 (((2100 * (gI m x0 4)) + (gI m b_13 ((gI m x0 4).toNatClampNeg))).toNatClampNeg) 3) x0 39) fun b_26 =>
                                    ib ((2100 * (gI m x0 4)) + (gI m b_13 ((gI m x0 4).toNatClampNeg))) (G.2.2 b_26) <|
                                      nb (gR (sI (sI m_24 b_25 (((2100 * (gI m x0 4)) + (gI m b_13 ((gI m x0 4).toNatClampNeg))).toNatClampNeg) 3) b_26 (((2100 * (gI m x0 4)) + (gI m b_13 ((gI m x0 4).toNatClampNeg))).toNatClampNeg) (gI (sI m_24 b_25 (((2100 * (gI m x0 4)) + (gI m b_13 ((gI m x0 4).toNatClampNeg))).toNatClampNeg) 3) x0 42)) x0 40) fun b_27 =>
                                        ib ((2100 * (gI m x0 4)) + (gI m b_13 ((gI m x0 4).toNatClampNeg))) (G.2.2 b_27) <|
                                          if (gI (sI (sI (sI m_24 b_25 (((2100 * (gI m x0 4)) + (gI m b_13 ((gI m x0 4).toNatClampNeg))).toNatClampNeg) 3) b_26 (((2100 * (gI m x0 4)) + (gI m b_13 ((gI m x0 4).toNatClampNeg))).toNatClampNeg) (gI (sI m_24 b_25 (((2100 * (gI m x0 4)) + (gI m b_13 ((gI m x0 4).toNatClampNeg))).toNatClampNeg) 3) x0 42)) b_27 (((2100 * (gI m x0 4)) + (gI m b_13 ((gI m x0 4).toNatClampNeg))).toNatClampNeg) (gI (sI (sI m_24 b_25 (((2100 * (gI m x0 4)) + (gI m b_13 ((gI m x0 4).toNatClampNeg))).toNatClampNeg) 3) b_26 (((2100 * (gI m x0 4)) + (gI m b_13 ((gI m x0 4).toNatClampNeg))).toNatClampNeg) (gI (sI m_24 b_25 (((2100 * (gI m x0 4)) + (gI m b_13 ((gI m x0 4).toNatClampNeg))).toNatClampNeg) 3) x0 42)) x0 43)) x0 44) = 1 then
                                            bd (M_X11_next G x0 (sI (sI (sI m_24 b_25 (((2100 * (gI m x0 4)) + (gI m b_13 ((gI m x0 4).toNatClampNeg))).toNatClampNeg) 3) b_26 (((2100 * (gI m x0 4)) + (gI m b_13 ((gI m x0 4).toNatClampNeg))).toNatClampNeg) (gI (sI m_24 b_25 (((2100 * (gI m x0 4)) + (gI m b_13 ((gI m x0 4).toNatClampNeg))).toNatClampNeg) 3) x0 42)) b_27 (((2100 * (gI m x0 4)) + (gI m b_13 ((gI m x0 4).toNatClampNeg))).toNatClampNeg) (gI (sI (sI m_24 b_25 (((2100 * (gI m x0 4)) + (gI m b_13 ((gI m x0 4).toNatClampNeg))).toNatClampNeg) 3) b_26 (((2100 * (gI m x0 4)) + (gI m b_13 ((gI m x0 4).toNatClampNeg))).toNatClampNeg) (gI (sI m_24 b_25 (((2100 * (gI m x0 4)) + (gI m b_13 ((gI m x0 4).toNatClampNeg))).toNatClampNeg) 3) x0 42)) x0 43))) fun _ m_31 =>
                                              some ((), m_31)
                                          else
                                            bd (M_X11_stop G x0 (sI (sI (sI m_24 b_25 (((2100 * (gI m x0 4)) + (gI m b_13 ((gI m x0 4).toNatClampNeg))).toNatClampNeg) 3) b_26 (((2100 * (gI m x0 4)) + (gI m b_13 ((gI m x0 4).toNatClampNeg))).toNatClampNeg) (gI (sI m_24 b_25 (((2100 * (gI m x0 4)) + (gI m b_13 ((gI m x0 4).toNatClampNeg))).toNatClampNeg) 3) x0 42)) b_27 (((2100 * (gI m x0 4)) + (gI m b_13 ((gI m x0 4).toNatClampNeg))).toNatClampNeg) (gI (sI (sI m_24 b_25 (((2100 * (gI m x0 4)) + (gI m b_13 ((gI m x0 4).toNatClampNeg))).toNatClampNeg) 3) b_26 (((2100 * (gI m x0 4)) + (gI m b_13 ((gI m x0 4).toNatClampNeg))).toNatClampNeg) (gI (sI m_24 b_25 (((2100 * (gI m x0 4)) + (gI m b_13 ((gI m x0 4).toNatClampNeg))).toNatClampNeg) 3) x0 42)) x0 43))) fun _ m_29 =>
                                              some ((), m_29)
                          else
                            some ((), m_22)
              else
                bd (M_X11_stop G x0 m) fun _ m_15 =>
                  some ((), m_15)
set_option maxRecDepth 100000 in
set_option maxHeartbeats 4000000 in
theorem cM_X11_readOne {p : Program} {l : Launch} {e : Env} {s : State} {mth : MethodId} {args : Array Value} {below : List Frame} {meth : Method} {c : Code} {E : EE} {G : GG} {r9 : Unit} {m9 : MM} (C : Cx E G p s mth args meth c cX11_readOne RX11 "readOne" 2 none) {x0 : Nat} {m : MM} (hM : M_X11_readOne G x0 m = some (r9, m9)) (tx0 : Ty E G x0 11) : ∀ (H : Heap) (locs : List Loc), Hp E G m s H locs → ∀ ls : Array Slot, lv_has ls 2 [(0, .ref x0)] → W p l e rmX11_readOne s mth args below meth c H locs 0 0 (MQ below (cQv E G m9) args s 0 0 (fun q => E.2.2.1 ≤ q)) (F0 mth 0 ls []) := by
  intro H locs h ls hl
  unfold M_X11_readOne at hM
  refine lv_sipush (v := 2100) C.1 C.2.1 dX11_readOne_0 (by decide) ?_
  refine lv_aload_n C.1 C.2.1 dX11_readOne_3 rfl (lv_at hl 0 rfl) ?_
  refine gt_11_4 C h tx0 fl_X11_183 dX11_readOne_4 ?_
  refine lv_imul C.1 C.2.1 dX11_readOne_7 ?_
  refine lv_aload_n C.1 C.2.1 dX11_readOne_8 rfl (lv_at hl 0 rfl) ?_
  refine gt_11_33 C h tx0 fl_X11_97 dX11_readOne_9 ?_
  obtain ⟨b_13, hb_13, hM⟩ := nb_some hM
  have tb_13 : Ty E G b_13 12 := (fun b hb => tyf h tx0 hb) _ hb_13
  refine st_ref hb_13 ?_
  refine lv_aload_n C.1 C.2.1 dX11_readOne_12 rfl (lv_at hl 0 rfl) ?_
  refine gt_11_4 C h tx0 fl_X11_183 dX11_readOne_13 ?_
  obtain ⟨hi, hM⟩ := ib_some hM
  refine h_iald C h tb_13 hi dX11_readOne_16 ?_
  refine lv_iadd C.1 C.2.1 dX11_readOne_17 ?_
  refine lv_istore_n (lv' := [(1, .int ((2100 * (gI m x0 4)) + (gI m b_13 ((gI m x0 4).toNatClampNeg)))), (0, .ref x0)]) C.1 C.2.1 dX11_readOne_18 rfl hl (by decide) rfl (fun ls hl => ?_)
  refine lv_aload_n C.1 C.2.1 dX11_readOne_19 rfl (lv_at hl 1 rfl) ?_
  refine gt_11_44 C h tx0 fl_X11_196 dX11_readOne_20 ?_
  refine lv_iconst (v := 2) C.1 C.2.1 dX11_readOne_23 (by decide) ?_
  refine lv_icmp_ne (tgt := 43) C.1 C.2.1 dX11_readOne_24 (by decide) (fun q => ?_) (fun q => ?_)
  · have hM := ite_f q hM
    refine lv_aload_n C.1 C.2.1 dX11_readOne_43 rfl (lv_at hl 1 rfl) ?_
    refine gt_11_44 C h tx0 fl_X11_196 dX11_readOne_44 ?_
    refine lv_bipush (v := 26) C.1 C.2.1 dX11_readOne_47 (by decide) ?_
    refine lv_icmp_eq (tgt := 70) C.1 C.2.1 dX11_readOne_49 (by decide) (fun q => ?_) (fun q => ?_)
    · have hM := ite_t q hM
      exact cB_X11_readOne_70 C hM tx0 _ _ h ls (lv_sub hl [1] rfl)
    · have hM := ite_f q hM
      refine lv_aload_n C.1 C.2.1 dX11_readOne_52 rfl (lv_at hl 1 rfl) ?_
      refine gt_11_44 C h tx0 fl_X11_196 dX11_readOne_53 ?_
      refine lv_bipush (v := 27) C.1 C.2.1 dX11_readOne_56 (by decide) ?_
      refine lv_icmp_eq (tgt := 70) C.1 C.2.1 dX11_readOne_58 (by decide) (fun q => ?_) (fun q => ?_)
      · have hM := ite_t q hM
        exact cB_X11_readOne_70 C hM tx0 _ _ h ls (lv_sub hl [1] rfl)
      · have hM := ite_f q hM
        refine lv_aload_n C.1 C.2.1 dX11_readOne_61 rfl (lv_at hl 1 rfl) ?_
        refine gt_11_44 C h tx0 fl_X11_196 dX11_readOne_62 ?_
        refine lv_bipush (v := 28) C.1 C.2.1 dX11_readOne_65 (by decide) ?_
        refine lv_icmp_ne (tgt := 110) C.1 C.2.1 dX11_readOne_67 (by decide) (fun q => ?_) (fun q => ?_)
        · have hM := ite_f q hM
          refine lv_aload_n C.1 C.2.1 dX11_readOne_110 rfl (lv_at hl 1 rfl) ?_
          refine gt_11_44 C h tx0 fl_X11_196 dX11_readOne_111 ?_
          refine lv_iconst (v := 1) C.1 C.2.1 dX11_readOne_114 (by decide) ?_
          refine lv_icmp_ne (tgt := 200) C.1 C.2.1 dX11_readOne_115 (by decide) (fun q => ?_) (fun q => ?_)
          · have hM := ite_f q hM
            refine lv_aload_n C.1 C.2.1 dX11_readOne_200 rfl (lv_at hl 1 rfl) ?_
            obtain ⟨r_14, m_15, hc_14, hM⟩ := bd_some hM
            refine h_callVv C h (As := []) (rest := []) m_15 (c_X11_stop hc_14 tx0) 11 rfl (by decide) tx0 im_yX11_stop se_yX11_stop cy_X11_stop rfl ml_X11_259 ⟨by decide, by decide⟩ ⟨Nat.zero_le _, Nat.zero_le _⟩ hl.1 rfl (Nat.le_of_ble_eq_true rfl) dX11_readOne_201 (fun H locs h => ?_)
            obtain ⟨rfl, rfl⟩ := so_inj hM
            exact h_vret C h dX11_readOne_204
          · have hM := ite_t q hM
            refine lv_aload_n C.1 C.2.1 dX11_readOne_118 rfl (lv_at hl 1 rfl) ?_
            refine lv_iconst (v := 2) C.1 C.2.1 dX11_readOne_119 (by decide) ?_
            refine lv_iconst (v := 0) C.1 C.2.1 dX11_readOne_120 (by decide) ?_
            obtain ⟨r_16, m_17, hc_16, hM⟩ := bd_some hM
            refine h_callVv C h (As := [.int 2, .int 0]) (rest := []) m_17 (c_X11_emit hc_16 tx0) 11 rfl (by decide) tx0 im_yX11_emit se_yX11_emit cy_X11_emit rfl ml_X11_293 ⟨by decide, by decide⟩ ⟨Nat.zero_le _, Nat.zero_le _⟩ hl.1 rfl (Nat.le_of_ble_eq_true rfl) dX11_readOne_121 (fun H locs h => ?_)
            refine lv_aload_n C.1 C.2.1 dX11_readOne_124 rfl (lv_at hl 1 rfl) ?_
            refine gt_11_38 C h tx0 fl_X11_112 dX11_readOne_125 ?_
            obtain ⟨b_18, hb_18, hM⟩ := nb_some hM
            have tb_18 : Ty E G b_18 12 := (fun b hb => tyf h tx0 hb) _ hb_18
            refine st_ref hb_18 ?_
            refine lv_iload_n C.1 C.2.1 dX11_readOne_128 rfl (lv_at hl 0 rfl) ?_
            refine lv_aload_n C.1 C.2.1 dX11_readOne_129 rfl (lv_at hl 1 rfl) ?_
            refine gt_11_43 C h tx0 fl_X11_206 dX11_readOne_130 ?_
            obtain ⟨hi, hM⟩ := ib_some hM
            refine h_iast C h tb_18 hi dX11_readOne_133 (fun H locs h => ?_)
            refine lv_aload_n C.1 C.2.1 dX11_readOne_134 rfl (lv_at hl 1 rfl) ?_
            obtain ⟨r_19, m_20, hc_19, hM⟩ := bd_some hM
            refine h_callVv C h (As := []) (rest := []) m_20 (c_X11_next hc_19 tx0) 11 rfl (by decide) tx0 im_yX11_next se_yX11_next cy_X11_next rfl ml_X11_256 ⟨by decide, by decide⟩ ⟨Nat.zero_le _, Nat.zero_le _⟩ hl.1 rfl (Nat.le_of_ble_eq_true rfl) dX11_readOne_135 (fun H locs h => ?_)
            refine lv_aload_n C.1 C.2.1 dX11_readOne_138 rfl (lv_at hl 1 rfl) ?_
            refine lv_bipush (v := 46) C.1 C.2.1 dX11_readOne_139 (by decide) ?_
            obtain ⟨r_21, m_22, hc_21, hM⟩ := bd_some hM
            refine h_callVi C h (As := [.int 46]) (rest := []) (bz r_21) m_22 (c_X11_isAt hc_21 tx0) 11 rfl (by decide) tx0 im_yX11_isAt se_yX11_isAt cy_X11_isAt rfl ml_X11_253 ⟨by decide, by decide⟩ ⟨Nat.zero_le _, Nat.zero_le _⟩ hl.1 rfl (Nat.le_of_ble_eq_true rfl) dX11_readOne_141 (fun H locs h => ?_)
            refine h_ifz (tgt := 204) C.1 C.2.1 dX11_readOne_144 (by decide) (fun q => ?_) (fun q => ?_)
            · have hM := ite_f q hM
              obtain ⟨rfl, rfl⟩ := so_inj hM
              exact h_vret C h dX11_readOne_204
            · have hM := ite_t q hM
              refine lv_aload_n C.1 C.2.1 dX11_readOne_147 rfl (lv_at hl 1 rfl) ?_
              obtain ⟨r_23, m_24, hc_23, hM⟩ := bd_some hM
              refine h_callVv C h (As := []) (rest := []) m_24 (c_X11_next hc_23 tx0) 11 rfl (by decide) tx0 im_yX11_next se_yX11_next cy_X11_next rfl ml_X11_256 ⟨by decide, by decide⟩ ⟨Nat.zero_le _, Nat.zero_le _⟩ hl.1 rfl (Nat.le_of_ble_eq_true rfl) dX11_readOne_148 (fun H locs h => ?_)
              refine lv_aload_n C.1 C.2.1 dX11_readOne_151 rfl (lv_at hl 1 rfl) ?_
              refine gt_11_34 C h tx0 fl_X11_100 dX11_readOne_152 ?_
              obtain ⟨b_25, hb_25, hM⟩ := nb_some hM
              have tb_25 : Ty E G b_25 12 := (fun b hb => tyf h tx0 hb) _ hb_25
              refine st_ref hb_25 ?_
              refine lv_iload_n C.1 C.2.1 dX11_readOne_155 rfl (lv_at hl 0 rfl) ?_
              refine lv_iconst (v := 3) C.1 C.2.1 dX11_readOne_156 (by decide) ?_
              obtain ⟨hi, hM⟩ := ib_some hM
              refine h_iast C h tb_25 hi dX11_readOne_157 (fun H locs h => ?_)
              refine lv_aload_n C.1 C.2.1 dX11_readOne_158 rfl (lv_at hl 1 rfl) ?_
              refine gt_11_39 C h tx0 fl_X11_115 dX11_readOne_159 ?_
              obtain ⟨b_26, hb_26, hM⟩ := nb_some hM
              have tb_26 : Ty E G b_26 12 := (fun b hb => tyf h tx0 hb) _ hb_26
              refine st_ref hb_26 ?_
              refine lv_iload_n C.1 C.2.1 dX11_readOne_162 rfl (lv_at hl 0 rfl) ?_
              refine lv_aload_n C.1 C.2.1 dX11_readOne_163 rfl (lv_at hl 1 rfl) ?_
              refine gt_11_42 C h tx0 fl_X11_193 dX11_readOne_164 ?_
              obtain ⟨hi, hM⟩ := ib_some hM
              refine h_iast C h tb_26 hi dX11_readOne_167 (fun H locs h => ?_)
              refine lv_aload_n C.1 C.2.1 dX11_readOne_168 rfl (lv_at hl 1 rfl) ?_
              refine gt_11_40 C h tx0 fl_X11_118 dX11_readOne_169 ?_
              obtain ⟨b_27, hb_27, hM⟩ := nb_some hM
              have tb_27 : Ty E G b_27 12 := (fun b hb => tyf h tx0 hb) _ hb_27
              refine st_ref hb_27 ?_
              refine lv_iload_n C.1 C.2.1 dX11_readOne_172 rfl (lv_at hl 0 rfl) ?_
              refine lv_aload_n C.1 C.2.1 dX11_readOne_173 rfl (lv_at hl 1 rfl) ?_
              refine gt_11_43 C h tx0 fl_X11_206 dX11_readOne_174 ?_
              obtain ⟨hi, hM⟩ := ib_some hM
              refine h_iast C h tb_27 hi dX11_readOne_177 (fun H locs h => ?_)
              refine lv_aload_n C.1 C.2.1 dX11_readOne_178 rfl (lv_at hl 1 rfl) ?_
              refine gt_11_44 C h tx0 fl_X11_196 dX11_readOne_179 ?_
              refine lv_iconst (v := 1) C.1 C.2.1 dX11_readOne_182 (by decide) ?_
              refine lv_icmp_ne (tgt := 193) C.1 C.2.1 dX11_readOne_183 (by decide) (fun q => ?_) (fun q => ?_)
              · have hM := ite_f q hM
                refine lv_aload_n C.1 C.2.1 dX11_readOne_193 rfl (lv_at hl 1 rfl) ?_
                obtain ⟨r_28, m_29, hc_28, hM⟩ := bd_some hM
                refine h_callVv C h (As := []) (rest := []) m_29 (c_X11_stop hc_28 tx0) 11 rfl (by decide) tx0 im_yX11_stop se_yX11_stop cy_X11_stop rfl ml_X11_259 ⟨by decide, by decide⟩ ⟨Nat.zero_le _, Nat.zero_le _⟩ hl.1 rfl (Nat.le_of_ble_eq_true rfl) dX11_readOne_194 (fun H locs h => ?_)
                refine lv_goto (tgt := 204) C.1 C.2.1 dX11_readOne_197 (by decide) ?_
                obtain ⟨rfl, rfl⟩ := so_inj hM
                exact h_vret C h dX11_readOne_204
              · have hM := ite_t q hM
                refine lv_aload_n C.1 C.2.1 dX11_readOne_186 rfl (lv_at hl 1 rfl) ?_
                obtain ⟨r_30, m_31, hc_30, hM⟩ := bd_some hM
                refine h_callVv C h (As := []) (rest := []) m_31 (c_X11_next hc_30 tx0) 11 rfl (by decide) tx0 im_yX11_next se_yX11_next cy_X11_next rfl ml_X11_256 ⟨by decide, by decide⟩ ⟨Nat.zero_le _, Nat.zero_le _⟩ hl.1 rfl (Nat.le_of_ble_eq_true rfl) dX11_readOne_187 (fun H locs h => ?_)
                refine lv_goto (tgt := 204) C.1 C.2.1 dX11_readOne_190 (by decide) ?_
                obtain ⟨rfl, rfl⟩ := so_inj hM
                exact h_vret C h dX11_readOne_204
        · have hM := ite_t q hM
          exact cB_X11_readOne_70 C hM tx0 _ _ h ls (lv_sub hl [1] rfl)
  · have hM := ite_t q hM
    refine lv_aload_n C.1 C.2.1 dX11_readOne_27 rfl (lv_at hl 1 rfl) ?_
    refine lv_iconst (v := 1) C.1 C.2.1 dX11_readOne_28 (by decide) ?_
    refine lv_aload_n C.1 C.2.1 dX11_readOne_29 rfl (lv_at hl 1 rfl) ?_
    refine gt_11_45 C h tx0 fl_X11_213 dX11_readOne_30 ?_
    obtain ⟨r_32, m_33, hc_32, hM⟩ := bd_some hM
    refine h_callVv C h (As := [.int 1, .int (gI m x0 45)]) (rest := []) m_33 (c_X11_emit hc_32 tx0) 11 rfl (by decide) tx0 im_yX11_emit se_yX11_emit cy_X11_emit rfl ml_X11_293 ⟨by decide, by decide⟩ ⟨Nat.zero_le _, Nat.zero_le _⟩ hl.1 rfl (Nat.le_of_ble_eq_true rfl) dX11_readOne_33 (fun H locs h => ?_)
    refine lv_aload_n C.1 C.2.1 dX11_readOne_36 rfl (lv_at hl 1 rfl) ?_
    obtain ⟨r_34, m_35, hc_34, hM⟩ := bd_some hM
    refine h_callVv C h (As := []) (rest := []) m_35 (c_X11_next hc_34 tx0) 11 rfl (by decide) tx0 im_yX11_next se_yX11_next cy_X11_next rfl ml_X11_256 ⟨by decide, by decide⟩ ⟨Nat.zero_le _, Nat.zero_le _⟩ hl.1 rfl (Nat.le_of_ble_eq_true rfl) dX11_readOne_37 (fun H locs h => ?_)
    refine lv_goto (tgt := 204) C.1 C.2.1 dX11_readOne_40 (by decide) ?_
    obtain ⟨rfl, rfl⟩ := so_inj hM
    exact h_vret C h dX11_readOne_204
theorem cy_X11_readOne : Cy yX11_readOne cX11_readOne 2 none 0 := ⟨cd_yX11_readOne, ii_X11, by decide, by decide, by decide +kernel⟩
set_option maxRecDepth 100000 in
theorem c_X11_readOne {l : Launch} {E : EE} {G : GG} {x0 : Nat} {m m9 : MM} {r9 : Unit} (hM : M_X11_readOne G x0 m = some (r9, m9)) (tx0 : Ty E G x0 11) : Mc l E yX11_readOne cX11_readOne 2 none rmX11_readOne [.ref x0] G m (cQv E G m9) := M_of (by decide) (Nat.le_of_ble_eq_true rfl) (fun p e s mth below meth c C h ls hl => cM_X11_readOne C hM tx0 _ _ h ls hl)
abbrev rmX11_closeMinus : Room := { frames := 1, cells := 0, slots := 0, locals := 23 }
def B_X11_closeMinus_2 (G : GG) : Nat → Nat → Int32 → Int32 → MM → Option (Int32 × MM)
  | 0, _, _, _, _ => none
  | fu + 1, x0, x1, x2, m =>
    if (gI m x0 53) ≤ x1 then
      some (x2, m)
    else
      nb (gR m x0 52) fun b_1 =>
        ib ((gI m x0 53) - 1) (G.2.2 b_1) <|
          if (gI m b_1 (((gI m x0 53) - 1).toNatClampNeg)) = 11 then
            bd (M_X11_emit G x0 11 0 (sI m x0 53 ((gI m x0 53) - 1))) fun _ m_3 =>
              B_X11_closeMinus_2 G fu x0 x1 (x2 + 1) m_3
          else
            some (x2, m)
set_option maxRecDepth 100000 in
set_option maxHeartbeats 4000000 in
theorem cB_X11_closeMinus_2 {p : Program} {l : Launch} {e : Env} {s : State} {mth : MethodId} {args : Array Value} {below : List Frame} {meth : Method} {c : Code} {E : EE} {G : GG} {r9 : Int32} {m9 : MM} (C : Cx E G p s mth args meth c cX11_closeMinus RX11 "closeMinus" 3 (some .int)) : ∀ (fu : Nat) (x0 : Nat) (x1 : Int32) (x2 : Int32) (m : MM), B_X11_closeMinus_2 G fu x0 x1 x2 m = some (r9, m9) → (Ty E G x0 11) → ∀ (H : Heap) (locs : List Loc), Hp E G m s H locs → ∀ ls : Array Slot, lv_has ls 3 [(0, .ref x0), (1, .int x1), (2, .int x2)] → W p l e rmX11_closeMinus s mth args below meth c H locs 0 0 (MQ below (cQi E r9 G m9) args s 0 0 (fun q => E.2.2.1 ≤ q)) (F0 mth 2 ls []) := by
  intro fu
  induction fu with
  | zero =>
    intro x0 x1 x2 m hM
    rw [B_X11_closeMinus_2] at hM
    cases hM
  | succ fu ih =>
    intro x0 x1 x2 m hM tx0 H locs h ls hl
    rw [B_X11_closeMinus_2] at hM
    refine lv_aload_n C.1 C.2.1 dX11_closeMinus_2 rfl (lv_at hl 0 rfl) ?_
    refine gt_11_53 C h tx0 fl_X11_281 dX11_closeMinus_3 ?_
    refine lv_iload_n C.1 C.2.1 dX11_closeMinus_6 rfl (lv_at hl 1 rfl) ?_
    refine lv_icmp_le (tgt := 49) C.1 C.2.1 dX11_closeMinus_7 (by decide) (fun q => ?_) (fun q => ?_)
    · have hM := ite_t q hM
      refine lv_iload_n C.1 C.2.1 dX11_closeMinus_49 rfl (lv_at hl 2 rfl) ?_
      obtain ⟨rfl, rfl⟩ := so_inj hM
      exact h_iret C h dX11_closeMinus_50
    · have hM := ite_f q hM
      refine lv_aload_n C.1 C.2.1 dX11_closeMinus_10 rfl (lv_at hl 0 rfl) ?_
      refine gt_11_52 C h tx0 fl_X11_130 dX11_closeMinus_11 ?_
      obtain ⟨b_1, hb_1, hM⟩ := nb_some hM
      have tb_1 : Ty E G b_1 12 := (fun b hb => tyf h tx0 hb) _ hb_1
      refine st_ref hb_1 ?_
      refine lv_aload_n C.1 C.2.1 dX11_closeMinus_14 rfl (lv_at hl 0 rfl) ?_
      refine gt_11_53 C h tx0 fl_X11_281 dX11_closeMinus_15 ?_
      refine lv_iconst (v := 1) C.1 C.2.1 dX11_closeMinus_18 (by decide) ?_
      refine lv_isub C.1 C.2.1 dX11_closeMinus_19 ?_
      obtain ⟨hi, hM⟩ := ib_some hM
      refine h_iald C h tb_1 hi dX11_closeMinus_20 ?_
      refine lv_bipush (v := 11) C.1 C.2.1 dX11_closeMinus_21 (by decide) ?_
      refine lv_icmp_ne (tgt := 49) C.1 C.2.1 dX11_closeMinus_23 (by decide) (fun q => ?_) (fun q => ?_)
      · have hM := ite_f q hM
        refine lv_iload_n C.1 C.2.1 dX11_closeMinus_49 rfl (lv_at hl 2 rfl) ?_
        obtain ⟨rfl, rfl⟩ := so_inj hM
        exact h_iret C h dX11_closeMinus_50
      · have hM := ite_t q hM
        refine lv_aload_n C.1 C.2.1 dX11_closeMinus_26 rfl (lv_at hl 0 rfl) ?_
        refine lv_dup C.1 C.2.1 dX11_closeMinus_27 rfl ?_
        refine gt_11_53 C h tx0 fl_X11_281 dX11_closeMinus_28 ?_
        refine lv_iconst (v := 1) C.1 C.2.1 dX11_closeMinus_31 (by decide) ?_
        refine lv_isub C.1 C.2.1 dX11_closeMinus_32 ?_
        refine pt_11_53 C h tx0 fl_X11_281 dX11_closeMinus_33 (fun H locs h => ?_)
        refine lv_aload_n C.1 C.2.1 dX11_closeMinus_36 rfl (lv_at hl 0 rfl) ?_
        refine lv_bipush (v := 11) C.1 C.2.1 dX11_closeMinus_37 (by decide) ?_
        refine lv_iconst (v := 0) C.1 C.2.1 dX11_closeMinus_39 (by decide) ?_
        obtain ⟨r_2, m_3, hc_2, hM⟩ := bd_some hM
        refine h_callVv C h (As := [.int 11, .int 0]) (rest := []) m_3 (c_X11_emit hc_2 tx0) 11 rfl (by decide) tx0 im_yX11_emit se_yX11_emit cy_X11_emit rfl ml_X11_293 ⟨by decide, by decide⟩ ⟨Nat.zero_le _, Nat.zero_le _⟩ hl.1 rfl (Nat.le_of_ble_eq_true rfl) dX11_closeMinus_40 (fun H locs h => ?_)
        refine lv_iinc (v := x2 + 1) (lv' := [(2, .int (x2 + 1)), (0, .ref x0), (1, .int x1)]) C.1 C.2.1 dX11_closeMinus_43 hl (k := 2) rfl rfl (by decide) rfl (fun ls hl => ?_)
        refine lv_goto (tgt := 2) C.1 C.2.1 dX11_closeMinus_46 (by decide) ?_
        exact ih _ _ _ _ hM tx0 _ _ h ls (lv_sub hl [1, 2, 0] rfl)
def M_X11_closeMinus (G : GG) (x0 : Nat) (x1 : Int32) (m : MM) : Option (Int32 × MM) :=
  B_X11_closeMinus_2 G FU x0 x1 0 m
set_option maxRecDepth 100000 in
set_option maxHeartbeats 4000000 in
theorem cM_X11_closeMinus {p : Program} {l : Launch} {e : Env} {s : State} {mth : MethodId} {args : Array Value} {below : List Frame} {meth : Method} {c : Code} {E : EE} {G : GG} {r9 : Int32} {m9 : MM} (C : Cx E G p s mth args meth c cX11_closeMinus RX11 "closeMinus" 3 (some .int)) {x0 : Nat} {x1 : Int32} {m : MM} (hM : M_X11_closeMinus G x0 x1 m = some (r9, m9)) (tx0 : Ty E G x0 11) : ∀ (H : Heap) (locs : List Loc), Hp E G m s H locs → ∀ ls : Array Slot, lv_has ls 3 [(0, .ref x0), (1, .int x1)] → W p l e rmX11_closeMinus s mth args below meth c H locs 0 0 (MQ below (cQi E r9 G m9) args s 0 0 (fun q => E.2.2.1 ≤ q)) (F0 mth 0 ls []) := by
  intro H locs h ls hl
  unfold M_X11_closeMinus at hM
  refine lv_iconst (v := 0) C.1 C.2.1 dX11_closeMinus_0 (by decide) ?_
  refine lv_istore_n (lv' := [(2, .int 0), (0, .ref x0), (1, .int x1)]) C.1 C.2.1 dX11_closeMinus_1 rfl hl (by decide) rfl (fun ls hl => ?_)
  exact cB_X11_closeMinus_2 C _ _ _ _ _ hM tx0 _ _ h ls (lv_sub hl [1, 2, 0] rfl)
theorem cy_X11_closeMinus : Cy yX11_closeMinus cX11_closeMinus 3 (some .int) 1 := ⟨cd_yX11_closeMinus, ii_X11, by decide, by decide, by decide +kernel⟩
set_option maxRecDepth 100000 in
theorem c_X11_closeMinus {l : Launch} {E : EE} {G : GG} {x0 : Nat} {x1 : Int32} {m m9 : MM} {r9 : Int32} (hM : M_X11_closeMinus G x0 x1 m = some (r9, m9)) (tx0 : Ty E G x0 11) : Mc l E yX11_closeMinus cX11_closeMinus 3 (some .int) rmX11_closeMinus [.ref x0, .int x1] G m (cQi E r9 G m9) := M_of (by decide) (Nat.le_of_ble_eq_true rfl) (fun p e s mth below meth c C h ls hl => cM_X11_closeMinus C hM tx0 _ _ h ls hl)
abbrev rmX11_rank : Room := { frames := 0, cells := 0, slots := 0, locals := 0 }
def M_X11_rank (G : GG) (x0 : Int32) (m : MM) : Option (Int32 × MM) :=
  if x0 = 7 then
    some (1, m)
  else
    if x0 = 8 then
      some (1, m)
    else
      if x0 = 9 then
        some (2, m)
      else
        if x0 = 10 then
          some (2, m)
        else
          some (0, m)
set_option maxRecDepth 100000 in
set_option maxHeartbeats 4000000 in
theorem cM_X11_rank {p : Program} {l : Launch} {e : Env} {s : State} {mth : MethodId} {args : Array Value} {below : List Frame} {meth : Method} {c : Code} {E : EE} {G : GG} {r9 : Int32} {m9 : MM} (C : Cx E G p s mth args meth c cX11_rank RX11 "rank" 1 (some .int)) {x0 : Int32} {m : MM} (hM : M_X11_rank G x0 m = some (r9, m9))  : ∀ (H : Heap) (locs : List Loc), Hp E G m s H locs → ∀ ls : Array Slot, lv_has ls 1 [(0, .int x0)] → W p l e rmX11_rank s mth args below meth c H locs 0 0 (MQ below (cQi E r9 G m9) args s 0 0 (fun q => E.2.2.1 ≤ q)) (F0 mth 0 ls []) := by
  intro H locs h ls hl
  unfold M_X11_rank at hM
  refine lv_iload_n C.1 C.2.1 dX11_rank_0 rfl (lv_at hl 0 rfl) ?_
  refine lv_bipush (v := 7) C.1 C.2.1 dX11_rank_1 (by decide) ?_
  refine lv_icmp_eq (tgt := 12) C.1 C.2.1 dX11_rank_3 (by decide) (fun q => ?_) (fun q => ?_)
  · have hM := ite_t q hM
    refine lv_iconst (v := 1) C.1 C.2.1 dX11_rank_12 (by decide) ?_
    refine lv_goto (tgt := 33) C.1 C.2.1 dX11_rank_13 (by decide) ?_
    obtain ⟨rfl, rfl⟩ := so_inj hM
    exact h_iret C h dX11_rank_33
  · have hM := ite_f q hM
    refine lv_iload_n C.1 C.2.1 dX11_rank_6 rfl (lv_at hl 0 rfl) ?_
    refine lv_bipush (v := 8) C.1 C.2.1 dX11_rank_7 (by decide) ?_
    refine lv_icmp_ne (tgt := 16) C.1 C.2.1 dX11_rank_9 (by decide) (fun q => ?_) (fun q => ?_)
    · have hM := ite_f q hM
      refine lv_iload_n C.1 C.2.1 dX11_rank_16 rfl (lv_at hl 0 rfl) ?_
      refine lv_bipush (v := 9) C.1 C.2.1 dX11_rank_17 (by decide) ?_
      refine lv_icmp_eq (tgt := 28) C.1 C.2.1 dX11_rank_19 (by decide) (fun q => ?_) (fun q => ?_)
      · have hM := ite_t q hM
        refine lv_iconst (v := 2) C.1 C.2.1 dX11_rank_28 (by decide) ?_
        refine lv_goto (tgt := 33) C.1 C.2.1 dX11_rank_29 (by decide) ?_
        obtain ⟨rfl, rfl⟩ := so_inj hM
        exact h_iret C h dX11_rank_33
      · have hM := ite_f q hM
        refine lv_iload_n C.1 C.2.1 dX11_rank_22 rfl (lv_at hl 0 rfl) ?_
        refine lv_bipush (v := 10) C.1 C.2.1 dX11_rank_23 (by decide) ?_
        refine lv_icmp_ne (tgt := 32) C.1 C.2.1 dX11_rank_25 (by decide) (fun q => ?_) (fun q => ?_)
        · have hM := ite_f q hM
          refine lv_iconst (v := 0) C.1 C.2.1 dX11_rank_32 (by decide) ?_
          obtain ⟨rfl, rfl⟩ := so_inj hM
          exact h_iret C h dX11_rank_33
        · have hM := ite_t q hM
          refine lv_iconst (v := 2) C.1 C.2.1 dX11_rank_28 (by decide) ?_
          refine lv_goto (tgt := 33) C.1 C.2.1 dX11_rank_29 (by decide) ?_
          obtain ⟨rfl, rfl⟩ := so_inj hM
          exact h_iret C h dX11_rank_33
    · have hM := ite_t q hM
      refine lv_iconst (v := 1) C.1 C.2.1 dX11_rank_12 (by decide) ?_
      refine lv_goto (tgt := 33) C.1 C.2.1 dX11_rank_13 (by decide) ?_
      obtain ⟨rfl, rfl⟩ := so_inj hM
      exact h_iret C h dX11_rank_33
theorem cy_X11_rank : Cy yX11_rank cX11_rank 1 (some .int) 1 := ⟨cd_yX11_rank, ii_X11, by decide, by decide, by decide +kernel⟩
set_option maxRecDepth 100000 in
theorem c_X11_rank {l : Launch} {E : EE} {G : GG} {x0 : Int32} {m m9 : MM} {r9 : Int32} (hM : M_X11_rank G x0 m = some (r9, m9))  : Mc l E yX11_rank cX11_rank 1 (some .int) rmX11_rank [.int x0] G m (cQi E r9 G m9) := M_of (by decide) (Nat.le_of_ble_eq_true rfl) (fun p e s mth below meth c C h ls hl => cM_X11_rank C hM  _ _ h ls hl)
abbrev rmX11_hasOpen : Room := { frames := 0, cells := 0, slots := 0, locals := 0 }
def B_X11_hasOpen_4 (G : GG) : Nat → Nat → Bool → Int32 → MM → Option (Bool × MM)
  | 0, _, _, _, _ => none
  | fu + 1, x0, x2, x3, m =>
    if (gI m x0 53) ≤ x3 then
      some (x2, m)
    else
      if x2 = true then
        B_X11_hasOpen_4 G fu x0 true (x3 + 1) m
      else
        nb (gR m x0 52) fun b_1 =>
          ib x3 (G.2.2 b_1) <|
            if (gI m b_1 x3.toNatClampNeg) = 12 then
              B_X11_hasOpen_4 G fu x0 true (x3 + 1) m
            else
              B_X11_hasOpen_4 G fu x0 false (x3 + 1) m
set_option maxRecDepth 100000 in
set_option maxHeartbeats 4000000 in
theorem cB_X11_hasOpen_4 {p : Program} {l : Launch} {e : Env} {s : State} {mth : MethodId} {args : Array Value} {below : List Frame} {meth : Method} {c : Code} {E : EE} {G : GG} {r9 : Bool} {m9 : MM} (C : Cx E G p s mth args meth c cX11_hasOpen RX11 "hasOpen" 4 (some .boolean)) : ∀ (fu : Nat) (x0 : Nat) (x2 : Bool) (x3 : Int32) (m : MM), B_X11_hasOpen_4 G fu x0 x2 x3 m = some (r9, m9) → (Ty E G x0 11) → ∀ (H : Heap) (locs : List Loc), Hp E G m s H locs → ∀ ls : Array Slot, lv_has ls 4 [(0, .ref x0), (2, .int (bz x2)), (3, .int x3)] → W p l e rmX11_hasOpen s mth args below meth c H locs 0 0 (MQ below (cQi E (bz r9) G m9) args s 0 0 (fun q => E.2.2.1 ≤ q)) (F0 mth 4 ls []) := by
  intro fu
  induction fu with
  | zero =>
    intro x0 x2 x3 m hM
    rw [B_X11_hasOpen_4] at hM
    cases hM
  | succ fu ih =>
    intro x0 x2 x3 m hM tx0 H locs h ls hl
    rw [B_X11_hasOpen_4] at hM
    refine lv_iload_n C.1 C.2.1 dX11_hasOpen_4 rfl (lv_at hl 2 rfl) ?_
    refine lv_aload_n C.1 C.2.1 dX11_hasOpen_5 rfl (lv_at hl 0 rfl) ?_
    refine gt_11_53 C h tx0 fl_X11_281 dX11_hasOpen_6 ?_
    refine lv_icmp_ge (tgt := 39) C.1 C.2.1 dX11_hasOpen_9 (by decide) (fun q => ?_) (fun q => ?_)
    · have hM := ite_t q hM
      refine lv_iload_n C.1 C.2.1 dX11_hasOpen_39 rfl (lv_at hl 1 rfl) ?_
      obtain ⟨rfl, rfl⟩ := so_inj hM
      exact h_zret C h (bz_ok _).1 dX11_hasOpen_40
    · have hM := ite_f q hM
      refine lv_iload_n C.1 C.2.1 dX11_hasOpen_12 rfl (lv_at hl 1 rfl) ?_
      refine h_ifnz (tgt := 27) C.1 C.2.1 dX11_hasOpen_13 (by decide) (fun q => ?_) (fun q => ?_)
      · have hM := ite_t q hM
        refine lv_iconst (v := 1) C.1 C.2.1 dX11_hasOpen_27 (by decide) ?_
        refine lv_goto (tgt := 32) C.1 C.2.1 dX11_hasOpen_28 (by decide) ?_
        refine lv_istore_n (lv' := [(2, .int 1), (0, .ref x0), (3, .int x3)]) C.1 C.2.1 dX11_hasOpen_32 rfl hl (by decide) rfl (fun ls hl => ?_)
        refine lv_iinc (v := x3 + 1) (lv' := [(3, .int (x3 + 1)), (2, .int 1), (0, .ref x0)]) C.1 C.2.1 dX11_hasOpen_33 hl (k := 2) rfl rfl (by decide) rfl (fun ls hl => ?_)
        refine lv_goto (tgt := 4) C.1 C.2.1 dX11_hasOpen_36 (by decide) ?_
        exact ih _ _ _ _ hM tx0 _ _ h ls (lv_sub hl [2, 1, 0] rfl)
      · have hM := ite_f q hM
        refine lv_aload_n C.1 C.2.1 dX11_hasOpen_16 rfl (lv_at hl 0 rfl) ?_
        refine gt_11_52 C h tx0 fl_X11_130 dX11_hasOpen_17 ?_
        obtain ⟨b_1, hb_1, hM⟩ := nb_some hM
        have tb_1 : Ty E G b_1 12 := (fun b hb => tyf h tx0 hb) _ hb_1
        refine st_ref hb_1 ?_
        refine lv_iload_n C.1 C.2.1 dX11_hasOpen_20 rfl (lv_at hl 2 rfl) ?_
        obtain ⟨hi, hM⟩ := ib_some hM
        refine h_iald C h tb_1 hi dX11_hasOpen_21 ?_
        refine lv_bipush (v := 12) C.1 C.2.1 dX11_hasOpen_22 (by decide) ?_
        refine lv_icmp_ne (tgt := 31) C.1 C.2.1 dX11_hasOpen_24 (by decide) (fun q => ?_) (fun q => ?_)
        · have hM := ite_f q hM
          refine lv_iconst (v := 0) C.1 C.2.1 dX11_hasOpen_31 (by decide) ?_
          refine lv_istore_n (lv' := [(2, .int 0), (0, .ref x0), (3, .int x3)]) C.1 C.2.1 dX11_hasOpen_32 rfl hl (by decide) rfl (fun ls hl => ?_)
          refine lv_iinc (v := x3 + 1) (lv' := [(3, .int (x3 + 1)), (2, .int 0), (0, .ref x0)]) C.1 C.2.1 dX11_hasOpen_33 hl (k := 2) rfl rfl (by decide) rfl (fun ls hl => ?_)
          refine lv_goto (tgt := 4) C.1 C.2.1 dX11_hasOpen_36 (by decide) ?_
          exact ih _ _ _ _ hM tx0 _ _ h ls (lv_sub hl [2, 1, 0] rfl)
        · have hM := ite_t q hM
          refine lv_iconst (v := 1) C.1 C.2.1 dX11_hasOpen_27 (by decide) ?_
          refine lv_goto (tgt := 32) C.1 C.2.1 dX11_hasOpen_28 (by decide) ?_
          refine lv_istore_n (lv' := [(2, .int 1), (0, .ref x0), (3, .int x3)]) C.1 C.2.1 dX11_hasOpen_32 rfl hl (by decide) rfl (fun ls hl => ?_)
          refine lv_iinc (v := x3 + 1) (lv' := [(3, .int (x3 + 1)), (2, .int 1), (0, .ref x0)]) C.1 C.2.1 dX11_hasOpen_33 hl (k := 2) rfl rfl (by decide) rfl (fun ls hl => ?_)
          refine lv_goto (tgt := 4) C.1 C.2.1 dX11_hasOpen_36 (by decide) ?_
          exact ih _ _ _ _ hM tx0 _ _ h ls (lv_sub hl [2, 1, 0] rfl)
def M_X11_hasOpen (G : GG) (x0 : Nat) (x1 : Int32) (m : MM) : Option (Bool × MM) :=
  B_X11_hasOpen_4 G FU x0 false x1 m
set_option maxRecDepth 100000 in
set_option maxHeartbeats 4000000 in
theorem cM_X11_hasOpen {p : Program} {l : Launch} {e : Env} {s : State} {mth : MethodId} {args : Array Value} {below : List Frame} {meth : Method} {c : Code} {E : EE} {G : GG} {r9 : Bool} {m9 : MM} (C : Cx E G p s mth args meth c cX11_hasOpen RX11 "hasOpen" 4 (some .boolean)) {x0 : Nat} {x1 : Int32} {m : MM} (hM : M_X11_hasOpen G x0 x1 m = some (r9, m9)) (tx0 : Ty E G x0 11) : ∀ (H : Heap) (locs : List Loc), Hp E G m s H locs → ∀ ls : Array Slot, lv_has ls 4 [(0, .ref x0), (1, .int x1)] → W p l e rmX11_hasOpen s mth args below meth c H locs 0 0 (MQ below (cQi E (bz r9) G m9) args s 0 0 (fun q => E.2.2.1 ≤ q)) (F0 mth 0 ls []) := by
  intro H locs h ls hl
  unfold M_X11_hasOpen at hM
  refine lv_iconst (v := 0) C.1 C.2.1 dX11_hasOpen_0 (by decide) ?_
  refine lv_istore_n (lv' := [(2, .int 0), (0, .ref x0), (1, .int x1)]) C.1 C.2.1 dX11_hasOpen_1 rfl hl (by decide) rfl (fun ls hl => ?_)
  refine lv_iload_n C.1 C.2.1 dX11_hasOpen_2 rfl (lv_at hl 2 rfl) ?_
  refine lv_istore_n (lv' := [(3, .int x1), (2, .int 0), (0, .ref x0), (1, .int x1)]) C.1 C.2.1 dX11_hasOpen_3 rfl hl (by decide) rfl (fun ls hl => ?_)
  exact cB_X11_hasOpen_4 C _ _ _ _ _ hM tx0 _ _ h ls (lv_sub hl [2, 1, 0] rfl)
theorem cy_X11_hasOpen : Cy yX11_hasOpen cX11_hasOpen 4 (some .boolean) 1 := ⟨cd_yX11_hasOpen, ii_X11, by decide, by decide, by decide +kernel⟩
set_option maxRecDepth 100000 in
theorem c_X11_hasOpen {l : Launch} {E : EE} {G : GG} {x0 : Nat} {x1 : Int32} {m m9 : MM} {r9 : Bool} (hM : M_X11_hasOpen G x0 x1 m = some (r9, m9)) (tx0 : Ty E G x0 11) : Mc l E yX11_hasOpen cX11_hasOpen 4 (some .boolean) rmX11_hasOpen [.ref x0, .int x1] G m (cQi E (bz r9) G m9) := M_of (by decide) (Nat.le_of_ble_eq_true rfl) (fun p e s mth below meth c C h ls hl => cM_X11_hasOpen C hM tx0 _ _ h ls hl)
abbrev rmX11_readExp : Room := { frames := 5, cells := 0, slots := 0, locals := 108 }
def B_X11_readExp_425 (G : GG) : Nat → Nat → Int32 → MM → Option (Unit × MM)
  | 0, _, _, _ => none
  | fu + 1, x0, x1, m =>
    if (gI m x0 53) ≤ x1 then
      some ((), m)
    else
      bd (M_X11_isGood G x0 (sI m x0 53 ((gI m x0 53) - 1))) fun r_1 m_2 =>
        if r_1 = true then
          nb (gR m_2 x0 52) fun b_3 =>
            ib (gI m_2 x0 53) (G.2.2 b_3) <|
              bd (M_X11_emit G x0 (gI m_2 b_3 ((gI m_2 x0 53).toNatClampNeg)) 0 m_2) fun _ m_5 =>
                B_X11_readExp_425 G fu x0 x1 m_5
        else
          B_X11_readExp_425 G fu x0 x1 m_2
set_option maxRecDepth 100000 in
set_option maxHeartbeats 4000000 in
theorem cB_X11_readExp_425 {p : Program} {l : Launch} {e : Env} {s : State} {mth : MethodId} {args : Array Value} {below : List Frame} {meth : Method} {c : Code} {E : EE} {G : GG} {r9 : Unit} {m9 : MM} (C : Cx E G p s mth args meth c cX11_readExp RX11 "readExp" 7 none) : ∀ (fu : Nat) (x0 : Nat) (x1 : Int32) (m : MM), B_X11_readExp_425 G fu x0 x1 m = some (r9, m9) → (Ty E G x0 11) → ∀ (H : Heap) (locs : List Loc), Hp E G m s H locs → ∀ ls : Array Slot, lv_has ls 7 [(0, .ref x0), (1, .int x1)] → W p l e rmX11_readExp s mth args below meth c H locs 0 0 (MQ below (cQv E G m9) args s 0 0 (fun q => E.2.2.1 ≤ q)) (F0 mth 425 ls []) := by
  intro fu
  induction fu with
  | zero =>
    intro x0 x1 m hM
    rw [B_X11_readExp_425] at hM
    cases hM
  | succ fu ih =>
    intro x0 x1 m hM tx0 H locs h ls hl
    rw [B_X11_readExp_425] at hM
    refine lv_aload_n C.1 C.2.1 dX11_readExp_425 rfl (lv_at hl 0 rfl) ?_
    refine gt_11_53 C h tx0 fl_X11_281 dX11_readExp_426 ?_
    refine lv_iload_n C.1 C.2.1 dX11_readExp_429 rfl (lv_at hl 1 rfl) ?_
    refine lv_icmp_le (tgt := 467) C.1 C.2.1 dX11_readExp_430 (by decide) (fun q => ?_) (fun q => ?_)
    · have hM := ite_t q hM
      obtain ⟨rfl, rfl⟩ := so_inj hM
      exact h_vret C h dX11_readExp_467
    · have hM := ite_f q hM
      refine lv_aload_n C.1 C.2.1 dX11_readExp_433 rfl (lv_at hl 0 rfl) ?_
      refine lv_dup C.1 C.2.1 dX11_readExp_434 rfl ?_
      refine gt_11_53 C h tx0 fl_X11_281 dX11_readExp_435 ?_
      refine lv_iconst (v := 1) C.1 C.2.1 dX11_readExp_438 (by decide) ?_
      refine lv_isub C.1 C.2.1 dX11_readExp_439 ?_
      refine pt_11_53 C h tx0 fl_X11_281 dX11_readExp_440 (fun H locs h => ?_)
      refine lv_aload_n C.1 C.2.1 dX11_readExp_443 rfl (lv_at hl 0 rfl) ?_
      obtain ⟨r_1, m_2, hc_1, hM⟩ := bd_some hM
      refine h_callVi C h (As := []) (rest := []) (bz r_1) m_2 (c_X11_isGood hc_1 tx0) 11 rfl (by decide) tx0 im_yX11_isGood se_yX11_isGood cy_X11_isGood rfl ml_X11_249 ⟨by decide, by decide⟩ ⟨Nat.zero_le _, Nat.zero_le _⟩ hl.1 rfl (Nat.le_of_ble_eq_true rfl) dX11_readExp_444 (fun H locs h => ?_)
      refine h_ifz (tgt := 425) C.1 C.2.1 dX11_readExp_447 (by decide) (fun q => ?_) (fun q => ?_)
      · have hM := ite_f q hM
        exact ih _ _ _ hM tx0 _ _ h ls (lv_sub hl [0, 1] rfl)
      · have hM := ite_t q hM
        refine lv_aload_n C.1 C.2.1 dX11_readExp_450 rfl (lv_at hl 0 rfl) ?_
        refine lv_aload_n C.1 C.2.1 dX11_readExp_451 rfl (lv_at hl 0 rfl) ?_
        refine gt_11_52 C h tx0 fl_X11_130 dX11_readExp_452 ?_
        obtain ⟨b_3, hb_3, hM⟩ := nb_some hM
        have tb_3 : Ty E G b_3 12 := (fun b hb => tyf h tx0 hb) _ hb_3
        refine st_ref hb_3 ?_
        refine lv_aload_n C.1 C.2.1 dX11_readExp_455 rfl (lv_at hl 0 rfl) ?_
        refine gt_11_53 C h tx0 fl_X11_281 dX11_readExp_456 ?_
        obtain ⟨hi, hM⟩ := ib_some hM
        refine h_iald C h tb_3 hi dX11_readExp_459 ?_
        refine lv_iconst (v := 0) C.1 C.2.1 dX11_readExp_460 (by decide) ?_
        obtain ⟨r_4, m_5, hc_4, hM⟩ := bd_some hM
        refine h_callVv C h (As := [.int (gI m_2 b_3 ((gI m_2 x0 53).toNatClampNeg)), .int 0]) (rest := []) m_5 (c_X11_emit hc_4 tx0) 11 rfl (by decide) tx0 im_yX11_emit se_yX11_emit cy_X11_emit rfl ml_X11_293 ⟨by decide, by decide⟩ ⟨Nat.zero_le _, Nat.zero_le _⟩ hl.1 rfl (Nat.le_of_ble_eq_true rfl) dX11_readExp_461 (fun H locs h => ?_)
        refine lv_goto (tgt := 425) C.1 C.2.1 dX11_readExp_464 (by decide) ?_
        exact ih _ _ _ hM tx0 _ _ h ls (lv_sub hl [0, 1] rfl)
def B_X11_readExp_406 (G : GG) (x0 : Nat) (x1 : Int32) (m : MM) : Option (Unit × MM) :=
  bd (M_X11_isGood G x0 m) fun r_6 m_7 =>
    if r_6 = true then
      bd (M_X11_hasOpen G x0 x1 m_7) fun r_8 m_9 =>
        if r_8 = true then
          bd (M_X11_stop G x0 m_9) fun _ m_11 =>
            B_X11_readExp_425 G FU x0 x1 m_11
        else
          B_X11_readExp_425 G FU x0 x1 m_9
    else
      B_X11_readExp_425 G FU x0 x1 m_7
set_option maxRecDepth 100000 in
set_option maxHeartbeats 4000000 in
theorem cB_X11_readExp_406 {p : Program} {l : Launch} {e : Env} {s : State} {mth : MethodId} {args : Array Value} {below : List Frame} {meth : Method} {c : Code} {E : EE} {G : GG} {r9 : Unit} {m9 : MM} (C : Cx E G p s mth args meth c cX11_readExp RX11 "readExp" 7 none) {x0 : Nat} {x1 : Int32} {m : MM} (hM : B_X11_readExp_406 G x0 x1 m = some (r9, m9)) (tx0 : Ty E G x0 11) : ∀ (H : Heap) (locs : List Loc), Hp E G m s H locs → ∀ ls : Array Slot, lv_has ls 7 [(0, .ref x0), (1, .int x1)] → W p l e rmX11_readExp s mth args below meth c H locs 0 0 (MQ below (cQv E G m9) args s 0 0 (fun q => E.2.2.1 ≤ q)) (F0 mth 406 ls []) := by
  intro H locs h ls hl
  unfold B_X11_readExp_406 at hM
  refine lv_aload_n C.1 C.2.1 dX11_readExp_406 rfl (lv_at hl 0 rfl) ?_
  obtain ⟨r_6, m_7, hc_6, hM⟩ := bd_some hM
  refine h_callVi C h (As := []) (rest := []) (bz r_6) m_7 (c_X11_isGood hc_6 tx0) 11 rfl (by decide) tx0 im_yX11_isGood se_yX11_isGood cy_X11_isGood rfl ml_X11_249 ⟨by decide, by decide⟩ ⟨Nat.zero_le _, Nat.zero_le _⟩ hl.1 rfl (Nat.le_of_ble_eq_true rfl) dX11_readExp_407 (fun H locs h => ?_)
  refine h_ifz (tgt := 425) C.1 C.2.1 dX11_readExp_410 (by decide) (fun q => ?_) (fun q => ?_)
  · have hM := ite_f q hM
    exact cB_X11_readExp_425 C _ _ _ _ hM tx0 _ _ h ls (lv_sub hl [0, 1] rfl)
  · have hM := ite_t q hM
    refine lv_aload_n C.1 C.2.1 dX11_readExp_413 rfl (lv_at hl 0 rfl) ?_
    refine lv_iload_n C.1 C.2.1 dX11_readExp_414 rfl (lv_at hl 1 rfl) ?_
    obtain ⟨r_8, m_9, hc_8, hM⟩ := bd_some hM
    refine h_callVi C h (As := [.int x1]) (rest := []) (bz r_8) m_9 (c_X11_hasOpen hc_8 tx0) 11 rfl (by decide) tx0 im_yX11_hasOpen se_yX11_hasOpen cy_X11_hasOpen rfl ml_X11_297 ⟨by decide, by decide⟩ ⟨Nat.zero_le _, Nat.zero_le _⟩ hl.1 rfl (Nat.le_of_ble_eq_true rfl) dX11_readExp_415 (fun H locs h => ?_)
    refine h_ifz (tgt := 425) C.1 C.2.1 dX11_readExp_418 (by decide) (fun q => ?_) (fun q => ?_)
    · have hM := ite_f q hM
      exact cB_X11_readExp_425 C _ _ _ _ hM tx0 _ _ h ls (lv_sub hl [0, 1] rfl)
    · have hM := ite_t q hM
      refine lv_aload_n C.1 C.2.1 dX11_readExp_421 rfl (lv_at hl 0 rfl) ?_
      obtain ⟨r_10, m_11, hc_10, hM⟩ := bd_some hM
      refine h_callVv C h (As := []) (rest := []) m_11 (c_X11_stop hc_10 tx0) 11 rfl (by decide) tx0 im_yX11_stop se_yX11_stop cy_X11_stop rfl ml_X11_259 ⟨by decide, by decide⟩ ⟨Nat.zero_le _, Nat.zero_le _⟩ hl.1 rfl (Nat.le_of_ble_eq_true rfl) dX11_readExp_422 (fun H locs h => ?_)
      exact cB_X11_readExp_425 C _ _ _ _ hM tx0 _ _ h ls (lv_sub hl [0, 1] rfl)
def B_X11_readExp_281 (G : GG) (k18 : Nat → Int32 → Int32 → Int32 → Int32 → Bool → MM → Option (Unit × MM)) (x0 : Nat) (x1 : Int32) (x2 : Int32) (x3 : Int32) (x5 : Bool) (x6 : Int32) (m : MM) : Option (Unit × MM) :=
  nb (gR m x0 52) fun b_12 =>
    ib (gI m x0 53) (G.2.2 b_12) <|
      bd (M_X11_next G x0 (sI (sI m b_12 ((gI m x0 53).toNatClampNeg) x6) x0 53 ((gI (sI m b_12 ((gI m x0 53).toNatClampNeg) x6) x0 53) + 1))) fun _ m_14 =>
        k18 x0 x1 x2 x3 1 x5 m_14
set_option maxRecDepth 100000 in
set_option maxHeartbeats 4000000 in
theorem cB_X11_readExp_281 {p : Program} {l : Launch} {e : Env} {s : State} {mth : MethodId} {args : Array Value} {below : List Frame} {meth : Method} {c : Code} {E : EE} {G : GG} {r9 : Unit} {m9 : MM} {k18 : Nat → Int32 → Int32 → Int32 → Int32 → Bool → MM → Option (Unit × MM)} (C : Cx E G p s mth args meth c cX11_readExp RX11 "readExp" 7 none) (hk18 : ∀ (x0 : Nat) (x1 : Int32) (x2 : Int32) (x3 : Int32) (x4 : Int32) (x5 : Bool) (m : MM), k18 x0 x1 x2 x3 x4 x5 m = some (r9, m9) → (Ty E G x0 11) → ∀ (H : Heap) (locs : List Loc), Hp E G m s H locs → ∀ ls : Array Slot, lv_has ls 7 [(0, .ref x0), (1, .int x1), (2, .int x2), (3, .int x3), (4, .int x4), (5, .int (bz x5))] → W p l e rmX11_readExp s mth args below meth c H locs 0 0 (MQ below (cQv E G m9) args s 0 0 (fun q => E.2.2.1 ≤ q)) (F0 mth 18 ls [])) {x0 : Nat} {x1 : Int32} {x2 : Int32} {x3 : Int32} {x5 : Bool} {x6 : Int32} {m : MM} (hM : B_X11_readExp_281 G k18 x0 x1 x2 x3 x5 x6 m = some (r9, m9)) (tx0 : Ty E G x0 11) : ∀ (H : Heap) (locs : List Loc), Hp E G m s H locs → ∀ ls : Array Slot, lv_has ls 7 [(0, .ref x0), (1, .int x1), (2, .int x2), (3, .int x3), (5, .int (bz x5)), (6, .int x6)] → W p l e rmX11_readExp s mth args below meth c H locs 0 0 (MQ below (cQv E G m9) args s 0 0 (fun q => E.2.2.1 ≤ q)) (F0 mth 281 ls []) := by
  intro H locs h ls hl
  unfold B_X11_readExp_281 at hM
  refine lv_aload_n C.1 C.2.1 dX11_readExp_281 rfl (lv_at hl 0 rfl) ?_
  refine gt_11_52 C h tx0 fl_X11_130 dX11_readExp_282 ?_
  obtain ⟨b_12, hb_12, hM⟩ := nb_some hM
  have tb_12 : Ty E G b_12 12 := (fun b hb => tyf h tx0 hb) _ hb_12
  refine st_ref hb_12 ?_
  refine lv_aload_n C.1 C.2.1 dX11_readExp_285 rfl (lv_at hl 0 rfl) ?_
  refine gt_11_53 C h tx0 fl_X11_281 dX11_readExp_286 ?_
  refine lv_iload C.1 C.2.1 dX11_readExp_289 (lv_at hl 5 rfl) ?_
  obtain ⟨hi, hM⟩ := ib_some hM
  refine h_iast C h tb_12 hi dX11_readExp_291 (fun H locs h => ?_)
  refine lv_aload_n C.1 C.2.1 dX11_readExp_292 rfl (lv_at hl 0 rfl) ?_
  refine lv_dup C.1 C.2.1 dX11_readExp_293 rfl ?_
  refine gt_11_53 C h tx0 fl_X11_281 dX11_readExp_294 ?_
  refine lv_iconst (v := 1) C.1 C.2.1 dX11_readExp_297 (by decide) ?_
  refine lv_iadd C.1 C.2.1 dX11_readExp_298 ?_
  refine pt_11_53 C h tx0 fl_X11_281 dX11_readExp_299 (fun H locs h => ?_)
  refine lv_aload_n C.1 C.2.1 dX11_readExp_302 rfl (lv_at hl 0 rfl) ?_
  obtain ⟨r_13, m_14, hc_13, hM⟩ := bd_some hM
  refine h_callVv C h (As := []) (rest := []) m_14 (c_X11_next hc_13 tx0) 11 rfl (by decide) tx0 im_yX11_next se_yX11_next cy_X11_next rfl ml_X11_256 ⟨by decide, by decide⟩ ⟨Nat.zero_le _, Nat.zero_le _⟩ hl.1 rfl (Nat.le_of_ble_eq_true rfl) dX11_readExp_303 (fun H locs h => ?_)
  refine lv_iconst (v := 1) C.1 C.2.1 dX11_readExp_306 (by decide) ?_
  refine lv_istore (lv' := [(4, .int 1), (0, .ref x0), (1, .int x1), (2, .int x2), (3, .int x3), (5, .int (bz x5)), (6, .int x6)]) C.1 C.2.1 dX11_readExp_307 hl (by decide) rfl (fun ls hl => ?_)
  refine lv_goto (tgt := 18) C.1 C.2.1 dX11_readExp_309 (by decide) ?_
  exact hk18 _ _ _ _ _ _ _ hM tx0 _ _ h ls (lv_sub hl [1, 2, 3, 4, 0, 5] rfl)
def B_X11_readExp_224 (G : GG) (k18 : Nat → Int32 → Int32 → Int32 → Int32 → Bool → MM → Option (Unit × MM)) : Nat → Nat → Int32 → Int32 → Int32 → Bool → Int32 → MM → Option (Unit × MM)
  | 0, _, _, _, _, _, _, _ => none
  | fu + 1, x0, x1, x2, x3, x5, x6, m =>
    if (gI m x0 53) ≤ x1 then
      B_X11_readExp_281 G k18 x0 x1 x2 x3 x5 x6 m
    else
      nb (gR m x0 52) fun b_15 =>
        ib ((gI m x0 53) - 1) (G.2.2 b_15) <|
          bd (M_X11_rank G (gI m b_15 (((gI m x0 53) - 1).toNatClampNeg)) m) fun r_16 m_17 =>
            bd (M_X11_rank G x6 m_17) fun r_18 m_19 =>
              if r_16 < r_18 then
                B_X11_readExp_281 G k18 x0 x1 x2 x3 x5 x6 m_19
              else
                nb (gR (sI m_19 x0 53 ((gI m_19 x0 53) - 1)) x0 52) fun b_20 =>
                  ib (gI (sI m_19 x0 53 ((gI m_19 x0 53) - 1)) x0 53) (G.2.2 b_20) <|
                    bd (M_X11_emit G x0 (gI (sI m_19 x0 53 ((gI m_19 x0 53) - 1)) b_20 ((gI (sI m_19 x0 53 ((gI m_19 x0 53) - 1)) x0 53).toNatClampNeg)) 0 (sI m_19 x0 53 ((gI m_19 x0 53) - 1))) fun _ m_22 =>
                      B_X11_readExp_224 G k18 fu x0 x1 x2 x3 x5 x6 m_22
set_option maxRecDepth 100000 in
set_option maxHeartbeats 4000000 in
theorem cB_X11_readExp_224 {p : Program} {l : Launch} {e : Env} {s : State} {mth : MethodId} {args : Array Value} {below : List Frame} {meth : Method} {c : Code} {E : EE} {G : GG} {r9 : Unit} {m9 : MM} {k18 : Nat → Int32 → Int32 → Int32 → Int32 → Bool → MM → Option (Unit × MM)} (C : Cx E G p s mth args meth c cX11_readExp RX11 "readExp" 7 none) (hk18 : ∀ (x0 : Nat) (x1 : Int32) (x2 : Int32) (x3 : Int32) (x4 : Int32) (x5 : Bool) (m : MM), k18 x0 x1 x2 x3 x4 x5 m = some (r9, m9) → (Ty E G x0 11) → ∀ (H : Heap) (locs : List Loc), Hp E G m s H locs → ∀ ls : Array Slot, lv_has ls 7 [(0, .ref x0), (1, .int x1), (2, .int x2), (3, .int x3), (4, .int x4), (5, .int (bz x5))] → W p l e rmX11_readExp s mth args below meth c H locs 0 0 (MQ below (cQv E G m9) args s 0 0 (fun q => E.2.2.1 ≤ q)) (F0 mth 18 ls [])) : ∀ (fu : Nat) (x0 : Nat) (x1 : Int32) (x2 : Int32) (x3 : Int32) (x5 : Bool) (x6 : Int32) (m : MM), B_X11_readExp_224 G k18 fu x0 x1 x2 x3 x5 x6 m = some (r9, m9) → (Ty E G x0 11) → ∀ (H : Heap) (locs : List Loc), Hp E G m s H locs → ∀ ls : Array Slot, lv_has ls 7 [(0, .ref x0), (1, .int x1), (2, .int x2), (3, .int x3), (5, .int (bz x5)), (6, .int x6)] → W p l e rmX11_readExp s mth args below meth c H locs 0 0 (MQ below (cQv E G m9) args s 0 0 (fun q => E.2.2.1 ≤ q)) (F0 mth 224 ls []) := by
  intro fu
  induction fu with
  | zero =>
    intro x0 x1 x2 x3 x5 x6 m hM
    rw [B_X11_readExp_224] at hM
    cases hM
  | succ fu ih =>
    intro x0 x1 x2 x3 x5 x6 m hM tx0 H locs h ls hl
    rw [B_X11_readExp_224] at hM
    refine lv_aload_n C.1 C.2.1 dX11_readExp_224 rfl (lv_at hl 0 rfl) ?_
    refine gt_11_53 C h tx0 fl_X11_281 dX11_readExp_225 ?_
    refine lv_iload_n C.1 C.2.1 dX11_readExp_228 rfl (lv_at hl 1 rfl) ?_
    refine lv_icmp_le (tgt := 281) C.1 C.2.1 dX11_readExp_229 (by decide) (fun q => ?_) (fun q => ?_)
    · have hM := ite_t q hM
      exact cB_X11_readExp_281 C hk18 hM tx0 _ _ h ls (lv_sub hl [0, 1, 2, 3, 4, 5] rfl)
    · have hM := ite_f q hM
      refine lv_aload_n C.1 C.2.1 dX11_readExp_232 rfl (lv_at hl 0 rfl) ?_
      refine gt_11_52 C h tx0 fl_X11_130 dX11_readExp_233 ?_
      obtain ⟨b_15, hb_15, hM⟩ := nb_some hM
      have tb_15 : Ty E G b_15 12 := (fun b hb => tyf h tx0 hb) _ hb_15
      refine st_ref hb_15 ?_
      refine lv_aload_n C.1 C.2.1 dX11_readExp_236 rfl (lv_at hl 0 rfl) ?_
      refine gt_11_53 C h tx0 fl_X11_281 dX11_readExp_237 ?_
      refine lv_iconst (v := 1) C.1 C.2.1 dX11_readExp_240 (by decide) ?_
      refine lv_isub C.1 C.2.1 dX11_readExp_241 ?_
      obtain ⟨hi, hM⟩ := ib_some hM
      refine h_iald C h tb_15 hi dX11_readExp_242 ?_
      obtain ⟨r_16, m_17, hc_16, hM⟩ := bd_some hM
      refine h_callSi C h (As := [.int (gI m b_15 (((gI m x0 53) - 1).toNatClampNeg))]) (rest := []) r_16 m_17 (c_X11_rank hc_16 ) st_yX11_rank cy_X11_rank rfl ml_X11_290 ⟨by decide, by decide⟩ ⟨Nat.zero_le _, Nat.zero_le _⟩ hl.1 rfl (Nat.le_of_ble_eq_true rfl) dX11_readExp_243 (fun H locs h => ?_)
      refine lv_iload C.1 C.2.1 dX11_readExp_246 (lv_at hl 5 rfl) ?_
      obtain ⟨r_18, m_19, hc_18, hM⟩ := bd_some hM
      refine h_callSi C h (As := [.int x6]) (rest := [.int r_16]) r_18 m_19 (c_X11_rank hc_18 ) st_yX11_rank cy_X11_rank rfl ml_X11_290 ⟨by decide, by decide⟩ ⟨Nat.zero_le _, Nat.zero_le _⟩ hl.1 rfl (Nat.le_of_ble_eq_true rfl) dX11_readExp_248 (fun H locs h => ?_)
      refine lv_icmp_lt (tgt := 281) C.1 C.2.1 dX11_readExp_251 (by decide) (fun q => ?_) (fun q => ?_)
      · have hM := ite_t q hM
        exact cB_X11_readExp_281 C hk18 hM tx0 _ _ h ls (lv_sub hl [0, 1, 2, 3, 4, 5] rfl)
      · have hM := ite_f q hM
        refine lv_aload_n C.1 C.2.1 dX11_readExp_254 rfl (lv_at hl 0 rfl) ?_
        refine lv_dup C.1 C.2.1 dX11_readExp_255 rfl ?_
        refine gt_11_53 C h tx0 fl_X11_281 dX11_readExp_256 ?_
        refine lv_iconst (v := 1) C.1 C.2.1 dX11_readExp_259 (by decide) ?_
        refine lv_isub C.1 C.2.1 dX11_readExp_260 ?_
        refine pt_11_53 C h tx0 fl_X11_281 dX11_readExp_261 (fun H locs h => ?_)
        refine lv_aload_n C.1 C.2.1 dX11_readExp_264 rfl (lv_at hl 0 rfl) ?_
        refine lv_aload_n C.1 C.2.1 dX11_readExp_265 rfl (lv_at hl 0 rfl) ?_
        refine gt_11_52 C h tx0 fl_X11_130 dX11_readExp_266 ?_
        obtain ⟨b_20, hb_20, hM⟩ := nb_some hM
        have tb_20 : Ty E G b_20 12 := (fun b hb => tyf h tx0 hb) _ hb_20
        refine st_ref hb_20 ?_
        refine lv_aload_n C.1 C.2.1 dX11_readExp_269 rfl (lv_at hl 0 rfl) ?_
        refine gt_11_53 C h tx0 fl_X11_281 dX11_readExp_270 ?_
        obtain ⟨hi, hM⟩ := ib_some hM
        refine h_iald C h tb_20 hi dX11_readExp_273 ?_
        refine lv_iconst (v := 0) C.1 C.2.1 dX11_readExp_274 (by decide) ?_
        obtain ⟨r_21, m_22, hc_21, hM⟩ := bd_some hM
        refine h_callVv C h (As := [.int (gI (sI m_19 x0 53 ((gI m_19 x0 53) - 1)) b_20 ((gI (sI m_19 x0 53 ((gI m_19 x0 53) - 1)) x0 53).toNatClampNeg)), .int 0]) (rest := []) m_22 (c_X11_emit hc_21 tx0) 11 rfl (by decide) tx0 im_yX11_emit se_yX11_emit cy_X11_emit rfl ml_X11_293 ⟨by decide, by decide⟩ ⟨Nat.zero_le _, Nat.zero_le _⟩ hl.1 rfl (Nat.le_of_ble_eq_true rfl) dX11_readExp_275 (fun H locs h => ?_)
        refine lv_goto (tgt := 224) C.1 C.2.1 dX11_readExp_278 (by decide) ?_
        exact ih _ _ _ _ _ _ _ hM tx0 _ _ h ls (lv_sub hl [0, 1, 2, 3, 4, 5] rfl)
def B_X11_readExp_209 (G : GG) (k18 : Nat → Int32 → Int32 → Int32 → Int32 → Bool → MM → Option (Unit × MM)) (x0 : Nat) (x1 : Int32) (x2 : Int32) (x3 : Int32) (x5 : Bool) (s0 : Int32) (m : MM) : Option (Unit × MM) :=
  if (x3 + 1) ≤ 20 then
    B_X11_readExp_224 G k18 FU x0 x1 x2 (x3 + 1) x5 s0 m
  else
    bd (M_X11_stop G x0 m) fun _ m_24 =>
      B_X11_readExp_224 G k18 FU x0 x1 x2 (x3 + 1) x5 s0 m_24
set_option maxRecDepth 100000 in
set_option maxHeartbeats 4000000 in
theorem cB_X11_readExp_209 {p : Program} {l : Launch} {e : Env} {s : State} {mth : MethodId} {args : Array Value} {below : List Frame} {meth : Method} {c : Code} {E : EE} {G : GG} {r9 : Unit} {m9 : MM} {k18 : Nat → Int32 → Int32 → Int32 → Int32 → Bool → MM → Option (Unit × MM)} (C : Cx E G p s mth args meth c cX11_readExp RX11 "readExp" 7 none) (hk18 : ∀ (x0 : Nat) (x1 : Int32) (x2 : Int32) (x3 : Int32) (x4 : Int32) (x5 : Bool) (m : MM), k18 x0 x1 x2 x3 x4 x5 m = some (r9, m9) → (Ty E G x0 11) → ∀ (H : Heap) (locs : List Loc), Hp E G m s H locs → ∀ ls : Array Slot, lv_has ls 7 [(0, .ref x0), (1, .int x1), (2, .int x2), (3, .int x3), (4, .int x4), (5, .int (bz x5))] → W p l e rmX11_readExp s mth args below meth c H locs 0 0 (MQ below (cQv E G m9) args s 0 0 (fun q => E.2.2.1 ≤ q)) (F0 mth 18 ls [])) {x0 : Nat} {x1 : Int32} {x2 : Int32} {x3 : Int32} {x5 : Bool} {s0 : Int32} {m : MM} (hM : B_X11_readExp_209 G k18 x0 x1 x2 x3 x5 s0 m = some (r9, m9)) (tx0 : Ty E G x0 11) : ∀ (H : Heap) (locs : List Loc), Hp E G m s H locs → ∀ ls : Array Slot, lv_has ls 7 [(0, .ref x0), (1, .int x1), (2, .int x2), (3, .int x3), (5, .int (bz x5))] → W p l e rmX11_readExp s mth args below meth c H locs 0 0 (MQ below (cQv E G m9) args s 0 0 (fun q => E.2.2.1 ≤ q)) (F0 mth 209 ls [.int s0]) := by
  intro H locs h ls hl
  unfold B_X11_readExp_209 at hM
  refine lv_istore (lv' := [(6, .int s0), (0, .ref x0), (1, .int x1), (2, .int x2), (3, .int x3), (5, .int (bz x5))]) C.1 C.2.1 dX11_readExp_209 hl (by decide) rfl (fun ls hl => ?_)
  refine lv_iinc (v := x3 + 1) (lv' := [(3, .int (x3 + 1)), (6, .int s0), (0, .ref x0), (1, .int x1), (2, .int x2), (5, .int (bz x5))]) C.1 C.2.1 dX11_readExp_211 hl (k := 4) rfl rfl (by decide) rfl (fun ls hl => ?_)
  refine lv_iload_n C.1 C.2.1 dX11_readExp_214 rfl (lv_at hl 0 rfl) ?_
  refine lv_bipush (v := 20) C.1 C.2.1 dX11_readExp_215 (by decide) ?_
  refine lv_icmp_le (tgt := 224) C.1 C.2.1 dX11_readExp_217 (by decide) (fun q => ?_) (fun q => ?_)
  · have hM := ite_t q hM
    exact cB_X11_readExp_224 C hk18 _ _ _ _ _ _ _ _ hM tx0 _ _ h ls (lv_sub hl [2, 3, 4, 0, 5, 1] rfl)
  · have hM := ite_f q hM
    refine lv_aload_n C.1 C.2.1 dX11_readExp_220 rfl (lv_at hl 2 rfl) ?_
    obtain ⟨r_23, m_24, hc_23, hM⟩ := bd_some hM
    refine h_callVv C h (As := []) (rest := []) m_24 (c_X11_stop hc_23 tx0) 11 rfl (by decide) tx0 im_yX11_stop se_yX11_stop cy_X11_stop rfl ml_X11_259 ⟨by decide, by decide⟩ ⟨Nat.zero_le _, Nat.zero_le _⟩ hl.1 rfl (Nat.le_of_ble_eq_true rfl) dX11_readExp_221 (fun H locs h => ?_)
    exact cB_X11_readExp_224 C hk18 _ _ _ _ _ _ _ _ hM tx0 _ _ h ls (lv_sub hl [2, 3, 4, 0, 5, 1] rfl)
def B_X11_readExp_165 (G : GG) (k18 : Nat → Int32 → Int32 → Int32 → Int32 → Bool → MM → Option (Unit × MM)) (x0 : Nat) (x1 : Int32) (x2 : Int32) (x3 : Int32) (x5 : Bool) (m : MM) : Option (Unit × MM) :=
  bd (M_X11_isAt G x0 43 m) fun r_25 m_26 =>
    if r_25 = true then
      B_X11_readExp_209 G k18 x0 x1 x2 x3 x5 7 m_26
    else
      bd (M_X11_isAt G x0 45 m_26) fun r_27 m_28 =>
        if r_27 = true then
          B_X11_readExp_209 G k18 x0 x1 x2 x3 x5 8 m_28
        else
          bd (M_X11_isAt G x0 42 m_28) fun r_29 m_30 =>
            if r_29 = true then
              B_X11_readExp_209 G k18 x0 x1 x2 x3 x5 9 m_30
            else
              B_X11_readExp_209 G k18 x0 x1 x2 x3 x5 10 m_30
set_option maxRecDepth 100000 in
set_option maxHeartbeats 4000000 in
theorem cB_X11_readExp_165 {p : Program} {l : Launch} {e : Env} {s : State} {mth : MethodId} {args : Array Value} {below : List Frame} {meth : Method} {c : Code} {E : EE} {G : GG} {r9 : Unit} {m9 : MM} {k18 : Nat → Int32 → Int32 → Int32 → Int32 → Bool → MM → Option (Unit × MM)} (C : Cx E G p s mth args meth c cX11_readExp RX11 "readExp" 7 none) (hk18 : ∀ (x0 : Nat) (x1 : Int32) (x2 : Int32) (x3 : Int32) (x4 : Int32) (x5 : Bool) (m : MM), k18 x0 x1 x2 x3 x4 x5 m = some (r9, m9) → (Ty E G x0 11) → ∀ (H : Heap) (locs : List Loc), Hp E G m s H locs → ∀ ls : Array Slot, lv_has ls 7 [(0, .ref x0), (1, .int x1), (2, .int x2), (3, .int x3), (4, .int x4), (5, .int (bz x5))] → W p l e rmX11_readExp s mth args below meth c H locs 0 0 (MQ below (cQv E G m9) args s 0 0 (fun q => E.2.2.1 ≤ q)) (F0 mth 18 ls [])) {x0 : Nat} {x1 : Int32} {x2 : Int32} {x3 : Int32} {x5 : Bool} {m : MM} (hM : B_X11_readExp_165 G k18 x0 x1 x2 x3 x5 m = some (r9, m9)) (tx0 : Ty E G x0 11) : ∀ (H : Heap) (locs : List Loc), Hp E G m s H locs → ∀ ls : Array Slot, lv_has ls 7 [(0, .ref x0), (1, .int x1), (2, .int x2), (3, .int x3), (5, .int (bz x5))] → W p l e rmX11_readExp s mth args below meth c H locs 0 0 (MQ below (cQv E G m9) args s 0 0 (fun q => E.2.2.1 ≤ q)) (F0 mth 165 ls []) := by
  intro H locs h ls hl
  unfold B_X11_readExp_165 at hM
  refine lv_aload_n C.1 C.2.1 dX11_readExp_165 rfl (lv_at hl 0 rfl) ?_
  refine lv_bipush (v := 43) C.1 C.2.1 dX11_readExp_166 (by decide) ?_
  obtain ⟨r_25, m_26, hc_25, hM⟩ := bd_some hM
  refine h_callVi C h (As := [.int 43]) (rest := []) (bz r_25) m_26 (c_X11_isAt hc_25 tx0) 11 rfl (by decide) tx0 im_yX11_isAt se_yX11_isAt cy_X11_isAt rfl ml_X11_253 ⟨by decide, by decide⟩ ⟨Nat.zero_le _, Nat.zero_le _⟩ hl.1 rfl (Nat.le_of_ble_eq_true rfl) dX11_readExp_168 (fun H locs h => ?_)
  refine h_ifz (tgt := 179) C.1 C.2.1 dX11_readExp_171 (by decide) (fun q => ?_) (fun q => ?_)
  · have hM := ite_f q hM
    refine lv_aload_n C.1 C.2.1 dX11_readExp_179 rfl (lv_at hl 0 rfl) ?_
    refine lv_bipush (v := 45) C.1 C.2.1 dX11_readExp_180 (by decide) ?_
    obtain ⟨r_27, m_28, hc_27, hM⟩ := bd_some hM
    refine h_callVi C h (As := [.int 45]) (rest := []) (bz r_27) m_28 (c_X11_isAt hc_27 tx0) 11 rfl (by decide) tx0 im_yX11_isAt se_yX11_isAt cy_X11_isAt rfl ml_X11_253 ⟨by decide, by decide⟩ ⟨Nat.zero_le _, Nat.zero_le _⟩ hl.1 rfl (Nat.le_of_ble_eq_true rfl) dX11_readExp_182 (fun H locs h => ?_)
    refine h_ifz (tgt := 193) C.1 C.2.1 dX11_readExp_185 (by decide) (fun q => ?_) (fun q => ?_)
    · have hM := ite_f q hM
      refine lv_aload_n C.1 C.2.1 dX11_readExp_193 rfl (lv_at hl 0 rfl) ?_
      refine lv_bipush (v := 42) C.1 C.2.1 dX11_readExp_194 (by decide) ?_
      obtain ⟨r_29, m_30, hc_29, hM⟩ := bd_some hM
      refine h_callVi C h (As := [.int 42]) (rest := []) (bz r_29) m_30 (c_X11_isAt hc_29 tx0) 11 rfl (by decide) tx0 im_yX11_isAt se_yX11_isAt cy_X11_isAt rfl ml_X11_253 ⟨by decide, by decide⟩ ⟨Nat.zero_le _, Nat.zero_le _⟩ hl.1 rfl (Nat.le_of_ble_eq_true rfl) dX11_readExp_196 (fun H locs h => ?_)
      refine h_ifz (tgt := 207) C.1 C.2.1 dX11_readExp_199 (by decide) (fun q => ?_) (fun q => ?_)
      · have hM := ite_f q hM
        refine lv_bipush (v := 10) C.1 C.2.1 dX11_readExp_207 (by decide) ?_
        exact cB_X11_readExp_209 C hk18 hM tx0 _ _ h ls (lv_sub hl [0, 1, 2, 3, 4] rfl)
      · have hM := ite_t q hM
        refine lv_bipush (v := 9) C.1 C.2.1 dX11_readExp_202 (by decide) ?_
        refine lv_goto (tgt := 209) C.1 C.2.1 dX11_readExp_204 (by decide) ?_
        exact cB_X11_readExp_209 C hk18 hM tx0 _ _ h ls (lv_sub hl [0, 1, 2, 3, 4] rfl)
    · have hM := ite_t q hM
      refine lv_bipush (v := 8) C.1 C.2.1 dX11_readExp_188 (by decide) ?_
      refine lv_goto (tgt := 209) C.1 C.2.1 dX11_readExp_190 (by decide) ?_
      exact cB_X11_readExp_209 C hk18 hM tx0 _ _ h ls (lv_sub hl [0, 1, 2, 3, 4] rfl)
  · have hM := ite_t q hM
    refine lv_bipush (v := 7) C.1 C.2.1 dX11_readExp_174 (by decide) ?_
    refine lv_goto (tgt := 209) C.1 C.2.1 dX11_readExp_176 (by decide) ?_
    exact cB_X11_readExp_209 C hk18 hM tx0 _ _ h ls (lv_sub hl [0, 1, 2, 3, 4] rfl)
def B_X11_readExp_329 (G : GG) (k18 : Nat → Int32 → Int32 → Int32 → Int32 → Bool → MM → Option (Unit × MM)) : Nat → Nat → Int32 → Int32 → Int32 → Int32 → Bool → MM → Option (Unit × MM)
  | 0, _, _, _, _, _, _, _ => none
  | fu + 1, x0, x1, x2, x3, x4, x5, m =>
    nb (gR m x0 52) fun b_31 =>
      ib ((gI m x0 53) - 1) (G.2.2 b_31) <|
        if (gI m b_31 (((gI m x0 53) - 1).toNatClampNeg)) = 12 then
          bd (M_X11_next G x0 (sI m x0 53 ((gI m x0 53) - 1))) fun _ m_33 =>
            bd (M_X11_closeMinus G x0 x1 m_33) fun r_34 m_35 =>
              k18 x0 x1 ((x2 + (-1)) - r_34) x3 x4 x5 m_35
        else
          nb (gR (sI m x0 53 ((gI m x0 53) - 1)) x0 52) fun b_36 =>
            ib (gI (sI m x0 53 ((gI m x0 53) - 1)) x0 53) (G.2.2 b_36) <|
              bd (M_X11_emit G x0 (gI (sI m x0 53 ((gI m x0 53) - 1)) b_36 ((gI (sI m x0 53 ((gI m x0 53) - 1)) x0 53).toNatClampNeg)) 0 (sI m x0 53 ((gI m x0 53) - 1))) fun _ m_38 =>
                B_X11_readExp_329 G k18 fu x0 x1 x2 x3 x4 x5 m_38
set_option maxRecDepth 100000 in
set_option maxHeartbeats 4000000 in
theorem cB_X11_readExp_329 {p : Program} {l : Launch} {e : Env} {s : State} {mth : MethodId} {args : Array Value} {below : List Frame} {meth : Method} {c : Code} {E : EE} {G : GG} {r9 : Unit} {m9 : MM} {k18 : Nat → Int32 → Int32 → Int32 → Int32 → Bool → MM → Option (Unit × MM)} (C : Cx E G p s mth args meth c cX11_readExp RX11 "readExp" 7 none) (hk18 : ∀ (x0 : Nat) (x1 : Int32) (x2 : Int32) (x3 : Int32) (x4 : Int32) (x5 : Bool) (m : MM), k18 x0 x1 x2 x3 x4 x5 m = some (r9, m9) → (Ty E G x0 11) → ∀ (H : Heap) (locs : List Loc), Hp E G m s H locs → ∀ ls : Array Slot, lv_has ls 7 [(0, .ref x0), (1, .int x1), (2, .int x2), (3, .int x3), (4, .int x4), (5, .int (bz x5))] → W p l e rmX11_readExp s mth args below meth c H locs 0 0 (MQ below (cQv E G m9) args s 0 0 (fun q => E.2.2.1 ≤ q)) (F0 mth 18 ls [])) : ∀ (fu : Nat) (x0 : Nat) (x1 : Int32) (x2 : Int32) (x3 : Int32) (x4 : Int32) (x5 : Bool) (m : MM), B_X11_readExp_329 G k18 fu x0 x1 x2 x3 x4 x5 m = some (r9, m9) → (Ty E G x0 11) → ∀ (H : Heap) (locs : List Loc), Hp E G m s H locs → ∀ ls : Array Slot, lv_has ls 7 [(0, .ref x0), (1, .int x1), (2, .int x2), (3, .int x3), (4, .int x4), (5, .int (bz x5))] → W p l e rmX11_readExp s mth args below meth c H locs 0 0 (MQ below (cQv E G m9) args s 0 0 (fun q => E.2.2.1 ≤ q)) (F0 mth 329 ls []) := by
  intro fu
  induction fu with
  | zero =>
    intro x0 x1 x2 x3 x4 x5 m hM
    rw [B_X11_readExp_329] at hM
    cases hM
  | succ fu ih =>
    intro x0 x1 x2 x3 x4 x5 m hM tx0 H locs h ls hl
    rw [B_X11_readExp_329] at hM
    refine lv_aload_n C.1 C.2.1 dX11_readExp_329 rfl (lv_at hl 0 rfl) ?_
    refine gt_11_52 C h tx0 fl_X11_130 dX11_readExp_330 ?_
    obtain ⟨b_31, hb_31, hM⟩ := nb_some hM
    have tb_31 : Ty E G b_31 12 := (fun b hb => tyf h tx0 hb) _ hb_31
    refine st_ref hb_31 ?_
    refine lv_aload_n C.1 C.2.1 dX11_readExp_333 rfl (lv_at hl 0 rfl) ?_
    refine gt_11_53 C h tx0 fl_X11_281 dX11_readExp_334 ?_
    refine lv_iconst (v := 1) C.1 C.2.1 dX11_readExp_337 (by decide) ?_
    refine lv_isub C.1 C.2.1 dX11_readExp_338 ?_
    obtain ⟨hi, hM⟩ := ib_some hM
    refine h_iald C h tb_31 hi dX11_readExp_339 ?_
    refine lv_bipush (v := 12) C.1 C.2.1 dX11_readExp_340 (by decide) ?_
    refine lv_icmp_eq (tgt := 372) C.1 C.2.1 dX11_readExp_342 (by decide) (fun q => ?_) (fun q => ?_)
    · have hM := ite_t q hM
      refine lv_aload_n C.1 C.2.1 dX11_readExp_372 rfl (lv_at hl 0 rfl) ?_
      refine lv_dup C.1 C.2.1 dX11_readExp_373 rfl ?_
      refine gt_11_53 C h tx0 fl_X11_281 dX11_readExp_374 ?_
      refine lv_iconst (v := 1) C.1 C.2.1 dX11_readExp_377 (by decide) ?_
      refine lv_isub C.1 C.2.1 dX11_readExp_378 ?_
      refine pt_11_53 C h tx0 fl_X11_281 dX11_readExp_379 (fun H locs h => ?_)
      refine lv_iinc (v := x2 + (-1)) (lv' := [(2, .int (x2 + (-1))), (0, .ref x0), (1, .int x1), (3, .int x3), (4, .int x4), (5, .int (bz x5))]) C.1 C.2.1 dX11_readExp_382 hl (k := 2) rfl rfl (by decide) rfl (fun ls hl => ?_)
      refine lv_aload_n C.1 C.2.1 dX11_readExp_385 rfl (lv_at hl 1 rfl) ?_
      obtain ⟨r_32, m_33, hc_32, hM⟩ := bd_some hM
      refine h_callVv C h (As := []) (rest := []) m_33 (c_X11_next hc_32 tx0) 11 rfl (by decide) tx0 im_yX11_next se_yX11_next cy_X11_next rfl ml_X11_256 ⟨by decide, by decide⟩ ⟨Nat.zero_le _, Nat.zero_le _⟩ hl.1 rfl (Nat.le_of_ble_eq_true rfl) dX11_readExp_386 (fun H locs h => ?_)
      refine lv_iload_n C.1 C.2.1 dX11_readExp_389 rfl (lv_at hl 0 rfl) ?_
      refine lv_aload_n C.1 C.2.1 dX11_readExp_390 rfl (lv_at hl 1 rfl) ?_
      refine lv_iload_n C.1 C.2.1 dX11_readExp_391 rfl (lv_at hl 2 rfl) ?_
      obtain ⟨r_34, m_35, hc_34, hM⟩ := bd_some hM
      refine h_callVi C h (As := [.int x1]) (rest := [.int (x2 + (-1))]) r_34 m_35 (c_X11_closeMinus hc_34 tx0) 11 rfl (by decide) tx0 im_yX11_closeMinus se_yX11_closeMinus cy_X11_closeMinus rfl ml_X11_287 ⟨by decide, by decide⟩ ⟨Nat.zero_le _, Nat.zero_le _⟩ hl.1 rfl (Nat.le_of_ble_eq_true rfl) dX11_readExp_392 (fun H locs h => ?_)
      refine lv_isub C.1 C.2.1 dX11_readExp_395 ?_
      refine lv_istore_n (lv' := [(2, .int ((x2 + (-1)) - r_34)), (0, .ref x0), (1, .int x1), (3, .int x3), (4, .int x4), (5, .int (bz x5))]) C.1 C.2.1 dX11_readExp_396 rfl hl (by decide) rfl (fun ls hl => ?_)
      refine lv_goto (tgt := 18) C.1 C.2.1 dX11_readExp_397 (by decide) ?_
      exact hk18 _ _ _ _ _ _ _ hM tx0 _ _ h ls (lv_sub hl [1, 2, 0, 3, 4, 5] rfl)
    · have hM := ite_f q hM
      refine lv_aload_n C.1 C.2.1 dX11_readExp_345 rfl (lv_at hl 0 rfl) ?_
      refine lv_dup C.1 C.2.1 dX11_readExp_346 rfl ?_
      refine gt_11_53 C h tx0 fl_X11_281 dX11_readExp_347 ?_
      refine lv_iconst (v := 1) C.1 C.2.1 dX11_readExp_350 (by decide) ?_
      refine lv_isub C.1 C.2.1 dX11_readExp_351 ?_
      refine pt_11_53 C h tx0 fl_X11_281 dX11_readExp_352 (fun H locs h => ?_)
      refine lv_aload_n C.1 C.2.1 dX11_readExp_355 rfl (lv_at hl 0 rfl) ?_
      refine lv_aload_n C.1 C.2.1 dX11_readExp_356 rfl (lv_at hl 0 rfl) ?_
      refine gt_11_52 C h tx0 fl_X11_130 dX11_readExp_357 ?_
      obtain ⟨b_36, hb_36, hM⟩ := nb_some hM
      have tb_36 : Ty E G b_36 12 := (fun b hb => tyf h tx0 hb) _ hb_36
      refine st_ref hb_36 ?_
      refine lv_aload_n C.1 C.2.1 dX11_readExp_360 rfl (lv_at hl 0 rfl) ?_
      refine gt_11_53 C h tx0 fl_X11_281 dX11_readExp_361 ?_
      obtain ⟨hi, hM⟩ := ib_some hM
      refine h_iald C h tb_36 hi dX11_readExp_364 ?_
      refine lv_iconst (v := 0) C.1 C.2.1 dX11_readExp_365 (by decide) ?_
      obtain ⟨r_37, m_38, hc_37, hM⟩ := bd_some hM
      refine h_callVv C h (As := [.int (gI (sI m x0 53 ((gI m x0 53) - 1)) b_36 ((gI (sI m x0 53 ((gI m x0 53) - 1)) x0 53).toNatClampNeg)), .int 0]) (rest := []) m_38 (c_X11_emit hc_37 tx0) 11 rfl (by decide) tx0 im_yX11_emit se_yX11_emit cy_X11_emit rfl ml_X11_293 ⟨by decide, by decide⟩ ⟨Nat.zero_le _, Nat.zero_le _⟩ hl.1 rfl (Nat.le_of_ble_eq_true rfl) dX11_readExp_366 (fun H locs h => ?_)
      refine lv_goto (tgt := 329) C.1 C.2.1 dX11_readExp_369 (by decide) ?_
      exact ih _ _ _ _ _ _ _ hM tx0 _ _ h ls (lv_sub hl [0, 1, 2, 3, 4, 5] rfl)
def B_X11_readExp_53 (G : GG) (k18 : Nat → Int32 → Int32 → Int32 → Int32 → Bool → MM → Option (Unit × MM)) (x0 : Nat) (x1 : Int32) (x2 : Int32) (x3 : Int32) (x4 : Int32) (x5 : Bool) (m : MM) : Option (Unit × MM) :=
  if x2 = 8 then
    bd (M_X11_stop G x0 m) fun _ m_47 =>
      k18 x0 x1 x2 x3 x4 x5 m_47
  else
    nb (gR m x0 52) fun b_39 =>
      bd (M_X11_isAt G x0 40 m) fun r_40 m_41 =>
        if r_40 = true then
          ib (gI m x0 53) (G.2.2 b_39) <|
            bd (M_X11_next G x0 (sI (sI m_41 b_39 ((gI m x0 53).toNatClampNeg) 12) x0 53 ((gI (sI m_41 b_39 ((gI m x0 53).toNatClampNeg) 12) x0 53) + 1))) fun _ m_45 =>
              k18 x0 x1 (x2 + 1) x3 x4 x5 m_45
        else
          ib (gI m x0 53) (G.2.2 b_39) <|
            bd (M_X11_next G x0 (sI (sI m_41 b_39 ((gI m x0 53).toNatClampNeg) 11) x0 53 ((gI (sI m_41 b_39 ((gI m x0 53).toNatClampNeg) 11) x0 53) + 1))) fun _ m_43 =>
              k18 x0 x1 (x2 + 1) x3 x4 x5 m_43
set_option maxRecDepth 100000 in
set_option maxHeartbeats 4000000 in
theorem cB_X11_readExp_53 {p : Program} {l : Launch} {e : Env} {s : State} {mth : MethodId} {args : Array Value} {below : List Frame} {meth : Method} {c : Code} {E : EE} {G : GG} {r9 : Unit} {m9 : MM} {k18 : Nat → Int32 → Int32 → Int32 → Int32 → Bool → MM → Option (Unit × MM)} (C : Cx E G p s mth args meth c cX11_readExp RX11 "readExp" 7 none) (hk18 : ∀ (x0 : Nat) (x1 : Int32) (x2 : Int32) (x3 : Int32) (x4 : Int32) (x5 : Bool) (m : MM), k18 x0 x1 x2 x3 x4 x5 m = some (r9, m9) → (Ty E G x0 11) → ∀ (H : Heap) (locs : List Loc), Hp E G m s H locs → ∀ ls : Array Slot, lv_has ls 7 [(0, .ref x0), (1, .int x1), (2, .int x2), (3, .int x3), (4, .int x4), (5, .int (bz x5))] → W p l e rmX11_readExp s mth args below meth c H locs 0 0 (MQ below (cQv E G m9) args s 0 0 (fun q => E.2.2.1 ≤ q)) (F0 mth 18 ls [])) {x0 : Nat} {x1 : Int32} {x2 : Int32} {x3 : Int32} {x4 : Int32} {x5 : Bool} {m : MM} (hM : B_X11_readExp_53 G k18 x0 x1 x2 x3 x4 x5 m = some (r9, m9)) (tx0 : Ty E G x0 11) : ∀ (H : Heap) (locs : List Loc), Hp E G m s H locs → ∀ ls : Array Slot, lv_has ls 7 [(0, .ref x0), (1, .int x1), (2, .int x2), (3, .int x3), (4, .int x4), (5, .int (bz x5))] → W p l e rmX11_readExp s mth args below meth c H locs 0 0 (MQ below (cQv E G m9) args s 0 0 (fun q => E.2.2.1 ≤ q)) (F0 mth 53 ls []) := by
  intro H locs h ls hl
  unfold B_X11_readExp_53 at hM
  refine lv_iload_n C.1 C.2.1 dX11_readExp_53 rfl (lv_at hl 2 rfl) ?_
  refine lv_bipush (v := 8) C.1 C.2.1 dX11_readExp_54 (by decide) ?_
  refine lv_icmp_ne (tgt := 66) C.1 C.2.1 dX11_readExp_56 (by decide) (fun q => ?_) (fun q => ?_)
  · have hM := ite_f q hM
    refine lv_iinc (v := x2 + 1) (lv' := [(2, .int (x2 + 1)), (0, .ref x0), (1, .int x1), (3, .int x3), (4, .int x4), (5, .int (bz x5))]) C.1 C.2.1 dX11_readExp_66 hl (k := 2) rfl rfl (by decide) rfl (fun ls hl => ?_)
    refine lv_aload_n C.1 C.2.1 dX11_readExp_69 rfl (lv_at hl 1 rfl) ?_
    refine gt_11_52 C h tx0 fl_X11_130 dX11_readExp_70 ?_
    obtain ⟨b_39, hb_39, hM⟩ := nb_some hM
    have tb_39 : Ty E G b_39 12 := (fun b hb => tyf h tx0 hb) _ hb_39
    refine st_ref hb_39 ?_
    refine lv_aload_n C.1 C.2.1 dX11_readExp_73 rfl (lv_at hl 1 rfl) ?_
    refine gt_11_53 C h tx0 fl_X11_281 dX11_readExp_74 ?_
    refine lv_aload_n C.1 C.2.1 dX11_readExp_77 rfl (lv_at hl 1 rfl) ?_
    refine lv_bipush (v := 40) C.1 C.2.1 dX11_readExp_78 (by decide) ?_
    obtain ⟨r_40, m_41, hc_40, hM⟩ := bd_some hM
    refine h_callVi C h (As := [.int 40]) (rest := [.int (gI m x0 53), .ref b_39]) (bz r_40) m_41 (c_X11_isAt hc_40 tx0) 11 rfl (by decide) tx0 im_yX11_isAt se_yX11_isAt cy_X11_isAt rfl ml_X11_253 ⟨by decide, by decide⟩ ⟨Nat.zero_le _, Nat.zero_le _⟩ hl.1 rfl (Nat.le_of_ble_eq_true rfl) dX11_readExp_80 (fun H locs h => ?_)
    refine h_ifz (tgt := 91) C.1 C.2.1 dX11_readExp_83 (by decide) (fun q => ?_) (fun q => ?_)
    · have hM := ite_f q hM
      refine lv_bipush (v := 11) C.1 C.2.1 dX11_readExp_91 (by decide) ?_
      obtain ⟨hi, hM⟩ := ib_some hM
      refine h_iast C h tb_39 hi dX11_readExp_93 (fun H locs h => ?_)
      refine lv_aload_n C.1 C.2.1 dX11_readExp_94 rfl (lv_at hl 1 rfl) ?_
      refine lv_dup C.1 C.2.1 dX11_readExp_95 rfl ?_
      refine gt_11_53 C h tx0 fl_X11_281 dX11_readExp_96 ?_
      refine lv_iconst (v := 1) C.1 C.2.1 dX11_readExp_99 (by decide) ?_
      refine lv_iadd C.1 C.2.1 dX11_readExp_100 ?_
      refine pt_11_53 C h tx0 fl_X11_281 dX11_readExp_101 (fun H locs h => ?_)
      refine lv_aload_n C.1 C.2.1 dX11_readExp_104 rfl (lv_at hl 1 rfl) ?_
      obtain ⟨r_42, m_43, hc_42, hM⟩ := bd_some hM
      refine h_callVv C h (As := []) (rest := []) m_43 (c_X11_next hc_42 tx0) 11 rfl (by decide) tx0 im_yX11_next se_yX11_next cy_X11_next rfl ml_X11_256 ⟨by decide, by decide⟩ ⟨Nat.zero_le _, Nat.zero_le _⟩ hl.1 rfl (Nat.le_of_ble_eq_true rfl) dX11_readExp_105 (fun H locs h => ?_)
      refine lv_goto (tgt := 18) C.1 C.2.1 dX11_readExp_108 (by decide) ?_
      exact hk18 _ _ _ _ _ _ _ hM tx0 _ _ h ls (lv_sub hl [1, 2, 0, 3, 4, 5] rfl)
    · have hM := ite_t q hM
      refine lv_bipush (v := 12) C.1 C.2.1 dX11_readExp_86 (by decide) ?_
      refine lv_goto (tgt := 93) C.1 C.2.1 dX11_readExp_88 (by decide) ?_
      obtain ⟨hi, hM⟩ := ib_some hM
      refine h_iast C h tb_39 hi dX11_readExp_93 (fun H locs h => ?_)
      refine lv_aload_n C.1 C.2.1 dX11_readExp_94 rfl (lv_at hl 1 rfl) ?_
      refine lv_dup C.1 C.2.1 dX11_readExp_95 rfl ?_
      refine gt_11_53 C h tx0 fl_X11_281 dX11_readExp_96 ?_
      refine lv_iconst (v := 1) C.1 C.2.1 dX11_readExp_99 (by decide) ?_
      refine lv_iadd C.1 C.2.1 dX11_readExp_100 ?_
      refine pt_11_53 C h tx0 fl_X11_281 dX11_readExp_101 (fun H locs h => ?_)
      refine lv_aload_n C.1 C.2.1 dX11_readExp_104 rfl (lv_at hl 1 rfl) ?_
      obtain ⟨r_44, m_45, hc_44, hM⟩ := bd_some hM
      refine h_callVv C h (As := []) (rest := []) m_45 (c_X11_next hc_44 tx0) 11 rfl (by decide) tx0 im_yX11_next se_yX11_next cy_X11_next rfl ml_X11_256 ⟨by decide, by decide⟩ ⟨Nat.zero_le _, Nat.zero_le _⟩ hl.1 rfl (Nat.le_of_ble_eq_true rfl) dX11_readExp_105 (fun H locs h => ?_)
      refine lv_goto (tgt := 18) C.1 C.2.1 dX11_readExp_108 (by decide) ?_
      exact hk18 _ _ _ _ _ _ _ hM tx0 _ _ h ls (lv_sub hl [1, 2, 0, 3, 4, 5] rfl)
  · have hM := ite_t q hM
    refine lv_aload_n C.1 C.2.1 dX11_readExp_59 rfl (lv_at hl 0 rfl) ?_
    obtain ⟨r_46, m_47, hc_46, hM⟩ := bd_some hM
    refine h_callVv C h (As := []) (rest := []) m_47 (c_X11_stop hc_46 tx0) 11 rfl (by decide) tx0 im_yX11_stop se_yX11_stop cy_X11_stop rfl ml_X11_259 ⟨by decide, by decide⟩ ⟨Nat.zero_le _, Nat.zero_le _⟩ hl.1 rfl (Nat.le_of_ble_eq_true rfl) dX11_readExp_60 (fun H locs h => ?_)
    refine lv_goto (tgt := 18) C.1 C.2.1 dX11_readExp_63 (by decide) ?_
    exact hk18 _ _ _ _ _ _ _ hM tx0 _ _ h ls (lv_sub hl [0, 1, 2, 3, 4, 5] rfl)
def B_X11_readExp_18 (G : GG) : Nat → Nat → Int32 → Int32 → Int32 → Int32 → Bool → MM → Option (Unit × MM)
  | 0, _, _, _, _, _, _, _ => none
  | fu + 1, x0, x1, x2, x3, x4, x5, m =>
    if x5 = true then
      bd (M_X11_isGood G x0 m) fun r_48 m_49 =>
        if r_48 = true then
          if x4 = 0 then
            bd (M_X11_isAt G x0 43 m_49) fun r_50 m_51 =>
              if r_50 = true then
                B_X11_readExp_165 G (B_X11_readExp_18 G fu) x0 x1 x2 x3 x5 m_51
              else
                bd (M_X11_isAt G x0 45 m_51) fun r_52 m_53 =>
                  if r_52 = true then
                    B_X11_readExp_165 G (B_X11_readExp_18 G fu) x0 x1 x2 x3 x5 m_53
                  else
                    bd (M_X11_isAt G x0 42 m_53) fun r_54 m_55 =>
                      if r_54 = true then
                        B_X11_readExp_165 G (B_X11_readExp_18 G fu) x0 x1 x2 x3 x5 m_55
                      else
                        bd (M_X11_isAt G x0 47 m_55) fun r_56 m_57 =>
                          if r_56 = true then
                            B_X11_readExp_165 G (B_X11_readExp_18 G fu) x0 x1 x2 x3 x5 m_57
                          else
                            bd (M_X11_isAt G x0 41 m_57) fun r_58 m_59 =>
                              if r_58 = true then
                                bd (M_X11_hasOpen G x0 x1 m_59) fun r_60 m_61 =>
                                  if r_60 = true then
                                    B_X11_readExp_329 G (B_X11_readExp_18 G fu) FU x0 x1 x2 x3 x4 x5 m_61
                                  else
                                    B_X11_readExp_18 G fu x0 x1 x2 x3 x4 false m_61
                              else
                                B_X11_readExp_18 G fu x0 x1 x2 x3 x4 false m_59
          else
            bd (M_X11_isAt G x0 40 m_49) fun r_62 m_63 =>
              if r_62 = true then
                B_X11_readExp_53 G (B_X11_readExp_18 G fu) x0 x1 x2 x3 x4 x5 m_63
              else
                bd (M_X11_isAt G x0 45 m_63) fun r_64 m_65 =>
                  if r_64 = true then
                    B_X11_readExp_53 G (B_X11_readExp_18 G fu) x0 x1 x2 x3 x4 x5 m_65
                  else
                    bd (M_X11_readOne G x0 m_65) fun _ m_67 =>
                      bd (M_X11_closeMinus G x0 x1 m_67) fun r_68 m_69 =>
                        B_X11_readExp_18 G fu x0 x1 (x2 - r_68) x3 0 x5 m_69
        else
          B_X11_readExp_406 G x0 x1 m_49
    else
      B_X11_readExp_406 G x0 x1 m
set_option maxRecDepth 100000 in
set_option maxHeartbeats 4000000 in
theorem cB_X11_readExp_18 {p : Program} {l : Launch} {e : Env} {s : State} {mth : MethodId} {args : Array Value} {below : List Frame} {meth : Method} {c : Code} {E : EE} {G : GG} {r9 : Unit} {m9 : MM} (C : Cx E G p s mth args meth c cX11_readExp RX11 "readExp" 7 none) : ∀ (fu : Nat) (x0 : Nat) (x1 : Int32) (x2 : Int32) (x3 : Int32) (x4 : Int32) (x5 : Bool) (m : MM), B_X11_readExp_18 G fu x0 x1 x2 x3 x4 x5 m = some (r9, m9) → (Ty E G x0 11) → ∀ (H : Heap) (locs : List Loc), Hp E G m s H locs → ∀ ls : Array Slot, lv_has ls 7 [(0, .ref x0), (1, .int x1), (2, .int x2), (3, .int x3), (4, .int x4), (5, .int (bz x5))] → W p l e rmX11_readExp s mth args below meth c H locs 0 0 (MQ below (cQv E G m9) args s 0 0 (fun q => E.2.2.1 ≤ q)) (F0 mth 18 ls []) := by
  intro fu
  induction fu with
  | zero =>
    intro x0 x1 x2 x3 x4 x5 m hM
    rw [B_X11_readExp_18] at hM
    cases hM
  | succ fu ih =>
    intro x0 x1 x2 x3 x4 x5 m hM tx0 H locs h ls hl
    rw [B_X11_readExp_18] at hM
    refine lv_iload C.1 C.2.1 dX11_readExp_18 (lv_at hl 5 rfl) ?_
    refine h_ifz (tgt := 406) C.1 C.2.1 dX11_readExp_20 (by decide) (fun q => ?_) (fun q => ?_)
    · have hM := ite_f q hM
      exact cB_X11_readExp_406 C hM tx0 _ _ h ls (lv_sub hl [0, 1] rfl)
    · have hM := ite_t q hM
      refine lv_aload_n C.1 C.2.1 dX11_readExp_23 rfl (lv_at hl 0 rfl) ?_
      obtain ⟨r_48, m_49, hc_48, hM⟩ := bd_some hM
      refine h_callVi C h (As := []) (rest := []) (bz r_48) m_49 (c_X11_isGood hc_48 tx0) 11 rfl (by decide) tx0 im_yX11_isGood se_yX11_isGood cy_X11_isGood rfl ml_X11_249 ⟨by decide, by decide⟩ ⟨Nat.zero_le _, Nat.zero_le _⟩ hl.1 rfl (Nat.le_of_ble_eq_true rfl) dX11_readExp_24 (fun H locs h => ?_)
      refine h_ifz (tgt := 406) C.1 C.2.1 dX11_readExp_27 (by decide) (fun q => ?_) (fun q => ?_)
      · have hM := ite_f q hM
        exact cB_X11_readExp_406 C hM tx0 _ _ h ls (lv_sub hl [0, 1] rfl)
      · have hM := ite_t q hM
        refine lv_iload C.1 C.2.1 dX11_readExp_30 (lv_at hl 4 rfl) ?_
        refine lv_if_eq (tgt := 129) C.1 C.2.1 dX11_readExp_32 (by decide) (fun q => ?_) (fun q => ?_)
        · have hM := ite_t q hM
          refine lv_aload_n C.1 C.2.1 dX11_readExp_129 rfl (lv_at hl 0 rfl) ?_
          refine lv_bipush (v := 43) C.1 C.2.1 dX11_readExp_130 (by decide) ?_
          obtain ⟨r_50, m_51, hc_50, hM⟩ := bd_some hM
          refine h_callVi C h (As := [.int 43]) (rest := []) (bz r_50) m_51 (c_X11_isAt hc_50 tx0) 11 rfl (by decide) tx0 im_yX11_isAt se_yX11_isAt cy_X11_isAt rfl ml_X11_253 ⟨by decide, by decide⟩ ⟨Nat.zero_le _, Nat.zero_le _⟩ hl.1 rfl (Nat.le_of_ble_eq_true rfl) dX11_readExp_132 (fun H locs h => ?_)
          refine h_ifnz (tgt := 165) C.1 C.2.1 dX11_readExp_135 (by decide) (fun q => ?_) (fun q => ?_)
          · have hM := ite_t q hM
            exact cB_X11_readExp_165 C ih hM tx0 _ _ h ls (lv_sub hl [0, 1, 2, 3, 5] rfl)
          · have hM := ite_f q hM
            refine lv_aload_n C.1 C.2.1 dX11_readExp_138 rfl (lv_at hl 0 rfl) ?_
            refine lv_bipush (v := 45) C.1 C.2.1 dX11_readExp_139 (by decide) ?_
            obtain ⟨r_52, m_53, hc_52, hM⟩ := bd_some hM
            refine h_callVi C h (As := [.int 45]) (rest := []) (bz r_52) m_53 (c_X11_isAt hc_52 tx0) 11 rfl (by decide) tx0 im_yX11_isAt se_yX11_isAt cy_X11_isAt rfl ml_X11_253 ⟨by decide, by decide⟩ ⟨Nat.zero_le _, Nat.zero_le _⟩ hl.1 rfl (Nat.le_of_ble_eq_true rfl) dX11_readExp_141 (fun H locs h => ?_)
            refine h_ifnz (tgt := 165) C.1 C.2.1 dX11_readExp_144 (by decide) (fun q => ?_) (fun q => ?_)
            · have hM := ite_t q hM
              exact cB_X11_readExp_165 C ih hM tx0 _ _ h ls (lv_sub hl [0, 1, 2, 3, 5] rfl)
            · have hM := ite_f q hM
              refine lv_aload_n C.1 C.2.1 dX11_readExp_147 rfl (lv_at hl 0 rfl) ?_
              refine lv_bipush (v := 42) C.1 C.2.1 dX11_readExp_148 (by decide) ?_
              obtain ⟨r_54, m_55, hc_54, hM⟩ := bd_some hM
              refine h_callVi C h (As := [.int 42]) (rest := []) (bz r_54) m_55 (c_X11_isAt hc_54 tx0) 11 rfl (by decide) tx0 im_yX11_isAt se_yX11_isAt cy_X11_isAt rfl ml_X11_253 ⟨by decide, by decide⟩ ⟨Nat.zero_le _, Nat.zero_le _⟩ hl.1 rfl (Nat.le_of_ble_eq_true rfl) dX11_readExp_150 (fun H locs h => ?_)
              refine h_ifnz (tgt := 165) C.1 C.2.1 dX11_readExp_153 (by decide) (fun q => ?_) (fun q => ?_)
              · have hM := ite_t q hM
                exact cB_X11_readExp_165 C ih hM tx0 _ _ h ls (lv_sub hl [0, 1, 2, 3, 5] rfl)
              · have hM := ite_f q hM
                refine lv_aload_n C.1 C.2.1 dX11_readExp_156 rfl (lv_at hl 0 rfl) ?_
                refine lv_bipush (v := 47) C.1 C.2.1 dX11_readExp_157 (by decide) ?_
                obtain ⟨r_56, m_57, hc_56, hM⟩ := bd_some hM
                refine h_callVi C h (As := [.int 47]) (rest := []) (bz r_56) m_57 (c_X11_isAt hc_56 tx0) 11 rfl (by decide) tx0 im_yX11_isAt se_yX11_isAt cy_X11_isAt rfl ml_X11_253 ⟨by decide, by decide⟩ ⟨Nat.zero_le _, Nat.zero_le _⟩ hl.1 rfl (Nat.le_of_ble_eq_true rfl) dX11_readExp_159 (fun H locs h => ?_)
                refine h_ifz (tgt := 312) C.1 C.2.1 dX11_readExp_162 (by decide) (fun q => ?_) (fun q => ?_)
                · have hM := ite_f q hM
                  refine lv_aload_n C.1 C.2.1 dX11_readExp_312 rfl (lv_at hl 0 rfl) ?_
                  refine lv_bipush (v := 41) C.1 C.2.1 dX11_readExp_313 (by decide) ?_
                  obtain ⟨r_58, m_59, hc_58, hM⟩ := bd_some hM
                  refine h_callVi C h (As := [.int 41]) (rest := []) (bz r_58) m_59 (c_X11_isAt hc_58 tx0) 11 rfl (by decide) tx0 im_yX11_isAt se_yX11_isAt cy_X11_isAt rfl ml_X11_253 ⟨by decide, by decide⟩ ⟨Nat.zero_le _, Nat.zero_le _⟩ hl.1 rfl (Nat.le_of_ble_eq_true rfl) dX11_readExp_315 (fun H locs h => ?_)
                  refine h_ifz (tgt := 400) C.1 C.2.1 dX11_readExp_318 (by decide) (fun q => ?_) (fun q => ?_)
                  · have hM := ite_f q hM
                    refine lv_iconst (v := 0) C.1 C.2.1 dX11_readExp_400 (by decide) ?_
                    refine lv_istore (lv' := [(5, .int 0), (0, .ref x0), (1, .int x1), (2, .int x2), (3, .int x3), (4, .int x4)]) C.1 C.2.1 dX11_readExp_401 hl (by decide) rfl (fun ls hl => ?_)
                    refine lv_goto (tgt := 18) C.1 C.2.1 dX11_readExp_403 (by decide) ?_
                    exact ih _ _ _ _ _ _ _ hM tx0 _ _ h ls (lv_sub hl [1, 2, 3, 4, 5, 0] rfl)
                  · have hM := ite_t q hM
                    refine lv_aload_n C.1 C.2.1 dX11_readExp_321 rfl (lv_at hl 0 rfl) ?_
                    refine lv_iload_n C.1 C.2.1 dX11_readExp_322 rfl (lv_at hl 1 rfl) ?_
                    obtain ⟨r_60, m_61, hc_60, hM⟩ := bd_some hM
                    refine h_callVi C h (As := [.int x1]) (rest := []) (bz r_60) m_61 (c_X11_hasOpen hc_60 tx0) 11 rfl (by decide) tx0 im_yX11_hasOpen se_yX11_hasOpen cy_X11_hasOpen rfl ml_X11_297 ⟨by decide, by decide⟩ ⟨Nat.zero_le _, Nat.zero_le _⟩ hl.1 rfl (Nat.le_of_ble_eq_true rfl) dX11_readExp_323 (fun H locs h => ?_)
                    refine h_ifz (tgt := 400) C.1 C.2.1 dX11_readExp_326 (by decide) (fun q => ?_) (fun q => ?_)
                    · have hM := ite_f q hM
                      refine lv_iconst (v := 0) C.1 C.2.1 dX11_readExp_400 (by decide) ?_
                      refine lv_istore (lv' := [(5, .int 0), (0, .ref x0), (1, .int x1), (2, .int x2), (3, .int x3), (4, .int x4)]) C.1 C.2.1 dX11_readExp_401 hl (by decide) rfl (fun ls hl => ?_)
                      refine lv_goto (tgt := 18) C.1 C.2.1 dX11_readExp_403 (by decide) ?_
                      exact ih _ _ _ _ _ _ _ hM tx0 _ _ h ls (lv_sub hl [1, 2, 3, 4, 5, 0] rfl)
                    · have hM := ite_t q hM
                      exact cB_X11_readExp_329 C ih _ _ _ _ _ _ _ _ hM tx0 _ _ h ls (lv_sub hl [0, 1, 2, 3, 4, 5] rfl)
                · have hM := ite_t q hM
                  exact cB_X11_readExp_165 C ih hM tx0 _ _ h ls (lv_sub hl [0, 1, 2, 3, 5] rfl)
        · have hM := ite_f q hM
          refine lv_aload_n C.1 C.2.1 dX11_readExp_35 rfl (lv_at hl 0 rfl) ?_
          refine lv_bipush (v := 40) C.1 C.2.1 dX11_readExp_36 (by decide) ?_
          obtain ⟨r_62, m_63, hc_62, hM⟩ := bd_some hM
          refine h_callVi C h (As := [.int 40]) (rest := []) (bz r_62) m_63 (c_X11_isAt hc_62 tx0) 11 rfl (by decide) tx0 im_yX11_isAt se_yX11_isAt cy_X11_isAt rfl ml_X11_253 ⟨by decide, by decide⟩ ⟨Nat.zero_le _, Nat.zero_le _⟩ hl.1 rfl (Nat.le_of_ble_eq_true rfl) dX11_readExp_38 (fun H locs h => ?_)
          refine h_ifnz (tgt := 53) C.1 C.2.1 dX11_readExp_41 (by decide) (fun q => ?_) (fun q => ?_)
          · have hM := ite_t q hM
            exact cB_X11_readExp_53 C ih hM tx0 _ _ h ls (lv_sub hl [0, 1, 2, 3, 4, 5] rfl)
          · have hM := ite_f q hM
            refine lv_aload_n C.1 C.2.1 dX11_readExp_44 rfl (lv_at hl 0 rfl) ?_
            refine lv_bipush (v := 45) C.1 C.2.1 dX11_readExp_45 (by decide) ?_
            obtain ⟨r_64, m_65, hc_64, hM⟩ := bd_some hM
            refine h_callVi C h (As := [.int 45]) (rest := []) (bz r_64) m_65 (c_X11_isAt hc_64 tx0) 11 rfl (by decide) tx0 im_yX11_isAt se_yX11_isAt cy_X11_isAt rfl ml_X11_253 ⟨by decide, by decide⟩ ⟨Nat.zero_le _, Nat.zero_le _⟩ hl.1 rfl (Nat.le_of_ble_eq_true rfl) dX11_readExp_47 (fun H locs h => ?_)
            refine h_ifz (tgt := 111) C.1 C.2.1 dX11_readExp_50 (by decide) (fun q => ?_) (fun q => ?_)
            · have hM := ite_f q hM
              refine lv_aload_n C.1 C.2.1 dX11_readExp_111 rfl (lv_at hl 0 rfl) ?_
              obtain ⟨r_66, m_67, hc_66, hM⟩ := bd_some hM
              refine h_callVv C h (As := []) (rest := []) m_67 (c_X11_readOne hc_66 tx0) 11 rfl (by decide) tx0 im_yX11_readOne se_yX11_readOne cy_X11_readOne rfl ml_X11_284 ⟨by decide, by decide⟩ ⟨Nat.zero_le _, Nat.zero_le _⟩ hl.1 rfl (Nat.le_of_ble_eq_true rfl) dX11_readExp_112 (fun H locs h => ?_)
              refine lv_iconst (v := 0) C.1 C.2.1 dX11_readExp_115 (by decide) ?_
              refine lv_istore (lv' := [(4, .int 0), (0, .ref x0), (1, .int x1), (2, .int x2), (3, .int x3), (5, .int (bz x5))]) C.1 C.2.1 dX11_readExp_116 hl (by decide) rfl (fun ls hl => ?_)
              refine lv_iload_n C.1 C.2.1 dX11_readExp_118 rfl (lv_at hl 3 rfl) ?_
              refine lv_aload_n C.1 C.2.1 dX11_readExp_119 rfl (lv_at hl 1 rfl) ?_
              refine lv_iload_n C.1 C.2.1 dX11_readExp_120 rfl (lv_at hl 2 rfl) ?_
              obtain ⟨r_68, m_69, hc_68, hM⟩ := bd_some hM
              refine h_callVi C h (As := [.int x1]) (rest := [.int x2]) r_68 m_69 (c_X11_closeMinus hc_68 tx0) 11 rfl (by decide) tx0 im_yX11_closeMinus se_yX11_closeMinus cy_X11_closeMinus rfl ml_X11_287 ⟨by decide, by decide⟩ ⟨Nat.zero_le _, Nat.zero_le _⟩ hl.1 rfl (Nat.le_of_ble_eq_true rfl) dX11_readExp_121 (fun H locs h => ?_)
              refine lv_isub C.1 C.2.1 dX11_readExp_124 ?_
              refine lv_istore_n (lv' := [(2, .int (x2 - r_68)), (4, .int 0), (0, .ref x0), (1, .int x1), (3, .int x3), (5, .int (bz x5))]) C.1 C.2.1 dX11_readExp_125 rfl hl (by decide) rfl (fun ls hl => ?_)
              refine lv_goto (tgt := 18) C.1 C.2.1 dX11_readExp_126 (by decide) ?_
              exact ih _ _ _ _ _ _ _ hM tx0 _ _ h ls (lv_sub hl [2, 3, 0, 4, 1, 5] rfl)
            · have hM := ite_t q hM
              exact cB_X11_readExp_53 C ih hM tx0 _ _ h ls (lv_sub hl [0, 1, 2, 3, 4, 5] rfl)
def M_X11_readExp (G : GG) (x0 : Nat) (m : MM) : Option (Unit × MM) :=
  bd (M_X11_isGood G x0 m) fun r_70 m_71 =>
    B_X11_readExp_18 G FU x0 (gI m x0 53) 0 0 1 r_70 m_71
set_option maxRecDepth 100000 in
set_option maxHeartbeats 4000000 in
theorem cM_X11_readExp {p : Program} {l : Launch} {e : Env} {s : State} {mth : MethodId} {args : Array Value} {below : List Frame} {meth : Method} {c : Code} {E : EE} {G : GG} {r9 : Unit} {m9 : MM} (C : Cx E G p s mth args meth c cX11_readExp RX11 "readExp" 7 none) {x0 : Nat} {m : MM} (hM : M_X11_readExp G x0 m = some (r9, m9)) (tx0 : Ty E G x0 11) : ∀ (H : Heap) (locs : List Loc), Hp E G m s H locs → ∀ ls : Array Slot, lv_has ls 7 [(0, .ref x0)] → W p l e rmX11_readExp s mth args below meth c H locs 0 0 (MQ below (cQv E G m9) args s 0 0 (fun q => E.2.2.1 ≤ q)) (F0 mth 0 ls []) := by
  intro H locs h ls hl
  unfold M_X11_readExp at hM
  refine lv_aload_n C.1 C.2.1 dX11_readExp_0 rfl (lv_at hl 0 rfl) ?_
  refine gt_11_53 C h tx0 fl_X11_281 dX11_readExp_1 ?_
  refine lv_istore_n (lv' := [(1, .int (gI m x0 53)), (0, .ref x0)]) C.1 C.2.1 dX11_readExp_4 rfl hl (by decide) rfl (fun ls hl => ?_)
  refine lv_iconst (v := 0) C.1 C.2.1 dX11_readExp_5 (by decide) ?_
  refine lv_istore_n (lv' := [(2, .int 0), (1, .int (gI m x0 53)), (0, .ref x0)]) C.1 C.2.1 dX11_readExp_6 rfl hl (by decide) rfl (fun ls hl => ?_)
  refine lv_iconst (v := 0) C.1 C.2.1 dX11_readExp_7 (by decide) ?_
  refine lv_istore_n (lv' := [(3, .int 0), (2, .int 0), (1, .int (gI m x0 53)), (0, .ref x0)]) C.1 C.2.1 dX11_readExp_8 rfl hl (by decide) rfl (fun ls hl => ?_)
  refine lv_iconst (v := 1) C.1 C.2.1 dX11_readExp_9 (by decide) ?_
  refine lv_istore (lv' := [(4, .int 1), (3, .int 0), (2, .int 0), (1, .int (gI m x0 53)), (0, .ref x0)]) C.1 C.2.1 dX11_readExp_10 hl (by decide) rfl (fun ls hl => ?_)
  refine lv_aload_n C.1 C.2.1 dX11_readExp_12 rfl (lv_at hl 4 rfl) ?_
  obtain ⟨r_70, m_71, hc_70, hM⟩ := bd_some hM
  refine h_callVi C h (As := []) (rest := []) (bz r_70) m_71 (c_X11_isGood hc_70 tx0) 11 rfl (by decide) tx0 im_yX11_isGood se_yX11_isGood cy_X11_isGood rfl ml_X11_249 ⟨by decide, by decide⟩ ⟨Nat.zero_le _, Nat.zero_le _⟩ hl.1 rfl (Nat.le_of_ble_eq_true rfl) dX11_readExp_13 (fun H locs h => ?_)
  refine lv_istore (lv' := [(5, .int (bz r_70)), (4, .int 1), (3, .int 0), (2, .int 0), (1, .int (gI m x0 53)), (0, .ref x0)]) C.1 C.2.1 dX11_readExp_16 hl (by decide) rfl (fun ls hl => ?_)
  exact cB_X11_readExp_18 C _ _ _ _ _ _ _ _ hM tx0 _ _ h ls (lv_sub hl [5, 4, 3, 2, 1, 0] rfl)
theorem cy_X11_readExp : Cy yX11_readExp cX11_readExp 7 none 0 := ⟨cd_yX11_readExp, ii_X11, by decide, by decide, by decide +kernel⟩
set_option maxRecDepth 100000 in
theorem c_X11_readExp {l : Launch} {E : EE} {G : GG} {x0 : Nat} {m m9 : MM} {r9 : Unit} (hM : M_X11_readExp G x0 m = some (r9, m9)) (tx0 : Ty E G x0 11) : Mc l E yX11_readExp cX11_readExp 7 none rmX11_readExp [.ref x0] G m (cQv E G m9) := M_of (by decide) (Nat.le_of_ble_eq_true rfl) (fun p e s mth below meth c C h ls hl => cM_X11_readExp C hM tx0 _ _ h ls hl)
