def RJ0 : String := "java/lang/String"
def RJ1 : String := "java/lang/StringLatin1"
def RJ3 : String := "jdk/internal/util/Preconditions"
abbrev cJ0_length_8abf5 : ByteArray := prog_16_method_54_code
def yJ0_length_8abf5 : MethodName := ⟨RJ0, "length", "()I"⟩
abbrev cJ0_charAt_5068e : ByteArray := prog_16_method_56_code
def yJ0_charAt_5068e : MethodName := ⟨RJ0, "charAt", "(I)C"⟩
abbrev cJ0_indexOf_0f7a4 : ByteArray := prog_16_method_79_code
def yJ0_indexOf_0f7a4 : MethodName := ⟨RJ0, "indexOf", "(I)I"⟩
abbrev cJ0_indexOf_7cf53 : ByteArray := prog_16_method_80_code
def yJ0_indexOf_7cf53 : MethodName := ⟨RJ0, "indexOf", "(II)I"⟩
abbrev cJ0_coder_7d493 : ByteArray := prog_16_method_152_code
def yJ0_coder_7d493 : MethodName := ⟨RJ0, "coder", "()B"⟩
abbrev cJ0_isLatin1_aae02 : ByteArray := prog_16_method_154_code
def yJ0_isLatin1_aae02 : MethodName := ⟨RJ0, "isLatin1", "()Z"⟩
abbrev cJ0_checkIndex_df160 : ByteArray := prog_16_method_155_code
def yJ0_checkIndex_df160 : MethodName := ⟨RJ0, "checkIndex", "(II)V"⟩
abbrev cJ1_charAt_3b067 : ByteArray := prog_17_method_2_code
def yJ1_charAt_3b067 : MethodName := ⟨RJ1, "charAt", "([BI)C"⟩
abbrev cJ1_canEncode_9a6ad : ByteArray := prog_17_method_4_code
def yJ1_canEncode_9a6ad : MethodName := ⟨RJ1, "canEncode", "(I)Z"⟩
abbrev cJ1_indexOf_4cfef : ByteArray := prog_17_method_22_code
def yJ1_indexOf_4cfef : MethodName := ⟨RJ1, "indexOf", "([BIII)I"⟩
abbrev cJ1_indexOfChar_4cfef : ByteArray := prog_17_method_23_code
def yJ1_indexOfChar_4cfef : MethodName := ⟨RJ1, "indexOfChar", "([BIII)I"⟩
abbrev cJ3_checkIndex_8e157 : ByteArray := prog_19_method_11_code
def yJ3_checkIndex_8e157 : MethodName := ⟨RJ3, "checkIndex", "(IILjava/util/function/BiFunction;)I"⟩
theorem ii_J0 : Cond.initialized RJ0 ∈ lwg := lwg_tb (i := 12) (by decide +kernel) (by decide +kernel)
theorem ii_J1 : Cond.initialized RJ1 ∈ lwg := lwg_tb (i := 13) (by decide +kernel) (by decide +kernel)
theorem ii_J3 : Cond.initialized RJ3 ∈ lwg := lwg_tb (i := 14) (by decide +kernel) (by decide +kernel)
theorem ii_Math : Cond.initialized "java/lang/Math" ∈ lwg := lwg_tb (i := 16) (by decide +kernel) (by decide +kernel)
theorem im_yJ0_length_8abf5 : Cond.instanceMethod yJ0_length_8abf5 ∈ lwg := lwg_tb (i := 433) (by decide +kernel) (by decide +kernel)
theorem se_yJ0_length_8abf5 : Cond.selects RJ0 yJ0_length_8abf5 yJ0_length_8abf5 ∈ lwg := lwg_tb (i := 434) (by decide +kernel) (by decide +kernel)
theorem cd_yJ0_length_8abf5 : Cond.code yJ0_length_8abf5 cJ0_length_8abf5 1 (some .int) ∈ lwg := lwg_tb (i := 435) (by decide +kernel) (by decide +kernel)
theorem ml_J0_335 : Cond.methodLink RJ0 335 yJ0_coder_7d493 ∈ lwg := lwg_tb (i := 436) (by decide +kernel) (by decide +kernel)
theorem im_yJ0_coder_7d493 : Cond.instanceMethod yJ0_coder_7d493 ∈ lwg := lwg_tb (i := 437) (by decide +kernel) (by decide +kernel)
theorem se_yJ0_coder_7d493 : Cond.selects RJ0 yJ0_coder_7d493 yJ0_coder_7d493 ∈ lwg := lwg_tb (i := 438) (by decide +kernel) (by decide +kernel)
theorem cd_yJ0_coder_7d493 : Cond.code yJ0_coder_7d493 cJ0_coder_7d493 1 (some .byte) ∈ lwg := lwg_tb (i := 439) (by decide +kernel) (by decide +kernel)
theorem fl_J0_38 : Cond.fieldLink RJ0 38 "java/lang/String" "COMPACT_STRINGS" "Z" ∈ lwg := lwg_tb (i := 440) (by decide +kernel) (by decide +kernel)
theorem im_yJ0_charAt_5068e : Cond.instanceMethod yJ0_charAt_5068e ∈ lwg := lwg_tb (i := 443) (by decide +kernel) (by decide +kernel)
theorem se_yJ0_charAt_5068e : Cond.selects RJ0 yJ0_charAt_5068e yJ0_charAt_5068e ∈ lwg := lwg_tb (i := 444) (by decide +kernel) (by decide +kernel)
theorem cd_yJ0_charAt_5068e : Cond.code yJ0_charAt_5068e cJ0_charAt_5068e 2 (some .char) ∈ lwg := lwg_tb (i := 445) (by decide +kernel) (by decide +kernel)
theorem ml_J0_492 : Cond.methodLink RJ0 492 yJ0_isLatin1_aae02 ∈ lwg := lwg_tb (i := 446) (by decide +kernel) (by decide +kernel)
theorem im_yJ0_isLatin1_aae02 : Cond.instanceMethod yJ0_isLatin1_aae02 ∈ lwg := lwg_tb (i := 447) (by decide +kernel) (by decide +kernel)
theorem se_yJ0_isLatin1_aae02 : Cond.selects RJ0 yJ0_isLatin1_aae02 yJ0_isLatin1_aae02 ∈ lwg := lwg_tb (i := 448) (by decide +kernel) (by decide +kernel)
theorem cd_yJ0_isLatin1_aae02 : Cond.code yJ0_isLatin1_aae02 cJ0_isLatin1_aae02 1 (some .boolean) ∈ lwg := lwg_tb (i := 449) (by decide +kernel) (by decide +kernel)
theorem ml_J0_495 : Cond.methodLink RJ0 495 yJ1_charAt_3b067 ∈ lwg := lwg_tb (i := 450) (by decide +kernel) (by decide +kernel)
theorem st_yJ1_charAt_3b067 : Cond.static yJ1_charAt_3b067 ∈ lwg := lwg_tb (i := 451) (by decide +kernel) (by decide +kernel)
theorem cd_yJ1_charAt_3b067 : Cond.code yJ1_charAt_3b067 cJ1_charAt_3b067 2 (some .char) ∈ lwg := lwg_tb (i := 452) (by decide +kernel) (by decide +kernel)
theorem ml_J1_9 : Cond.methodLink RJ1 9 yJ0_checkIndex_df160 ∈ lwg := lwg_tb (i := 453) (by decide +kernel) (by decide +kernel)
theorem st_yJ0_checkIndex_df160 : Cond.static yJ0_checkIndex_df160 ∈ lwg := lwg_tb (i := 454) (by decide +kernel) (by decide +kernel)
theorem cd_yJ0_checkIndex_df160 : Cond.code yJ0_checkIndex_df160 cJ0_checkIndex_df160 2 none ∈ lwg := lwg_tb (i := 455) (by decide +kernel) (by decide +kernel)
theorem fl_J0_1053 : Cond.fieldLink RJ0 1053 "jdk/internal/util/Preconditions" "SIOOBE_FORMATTER" "Ljava/util/function/BiFunction;" ∈ lwg := lwg_tb (i := 456) (by decide +kernel) (by decide +kernel)
theorem ml_J0_1059 : Cond.methodLink RJ0 1059 yJ3_checkIndex_8e157 ∈ lwg := lwg_tb (i := 458) (by decide +kernel) (by decide +kernel)
theorem st_yJ3_checkIndex_8e157 : Cond.static yJ3_checkIndex_8e157 ∈ lwg := lwg_tb (i := 459) (by decide +kernel) (by decide +kernel)
theorem cd_yJ3_checkIndex_8e157 : Cond.code yJ3_checkIndex_8e157 cJ3_checkIndex_8e157 3 (some .int) ∈ lwg := lwg_tb (i := 460) (by decide +kernel) (by decide +kernel)
theorem im_yJ0_indexOf_0f7a4 : Cond.instanceMethod yJ0_indexOf_0f7a4 ∈ lwg := lwg_tb (i := 506) (by decide +kernel) (by decide +kernel)
theorem se_yJ0_indexOf_0f7a4 : Cond.selects RJ0 yJ0_indexOf_0f7a4 yJ0_indexOf_0f7a4 ∈ lwg := lwg_tb (i := 507) (by decide +kernel) (by decide +kernel)
theorem cd_yJ0_indexOf_0f7a4 : Cond.code yJ0_indexOf_0f7a4 cJ0_indexOf_0f7a4 2 (some .int) ∈ lwg := lwg_tb (i := 508) (by decide +kernel) (by decide +kernel)
theorem ml_J0_633 : Cond.methodLink RJ0 633 yJ0_indexOf_7cf53 ∈ lwg := lwg_tb (i := 509) (by decide +kernel) (by decide +kernel)
theorem im_yJ0_indexOf_7cf53 : Cond.instanceMethod yJ0_indexOf_7cf53 ∈ lwg := lwg_tb (i := 510) (by decide +kernel) (by decide +kernel)
theorem se_yJ0_indexOf_7cf53 : Cond.selects RJ0 yJ0_indexOf_7cf53 yJ0_indexOf_7cf53 ∈ lwg := lwg_tb (i := 511) (by decide +kernel) (by decide +kernel)
theorem cd_yJ0_indexOf_7cf53 : Cond.code yJ0_indexOf_7cf53 cJ0_indexOf_7cf53 3 (some .int) ∈ lwg := lwg_tb (i := 512) (by decide +kernel) (by decide +kernel)
theorem ml_J0_505 : Cond.methodLink RJ0 505 yJ0_length_8abf5 ∈ lwg := lwg_tb (i := 513) (by decide +kernel) (by decide +kernel)
theorem ml_J0_637 : Cond.methodLink RJ0 637 yJ1_indexOf_4cfef ∈ lwg := lwg_tb (i := 514) (by decide +kernel) (by decide +kernel)
theorem st_yJ1_indexOf_4cfef : Cond.static yJ1_indexOf_4cfef ∈ lwg := lwg_tb (i := 515) (by decide +kernel) (by decide +kernel)
theorem cd_yJ1_indexOf_4cfef : Cond.code yJ1_indexOf_4cfef cJ1_indexOf_4cfef 4 (some .int) ∈ lwg := lwg_tb (i := 516) (by decide +kernel) (by decide +kernel)
theorem ml_J1_88 : Cond.methodLink RJ1 88 yJ1_canEncode_9a6ad ∈ lwg := lwg_tb (i := 517) (by decide +kernel) (by decide +kernel)
theorem st_yJ1_canEncode_9a6ad : Cond.static yJ1_canEncode_9a6ad ∈ lwg := lwg_tb (i := 518) (by decide +kernel) (by decide +kernel)
theorem cd_yJ1_canEncode_9a6ad : Cond.code yJ1_canEncode_9a6ad cJ1_canEncode_9a6ad 1 (some .boolean) ∈ lwg := lwg_tb (i := 519) (by decide +kernel) (by decide +kernel)
theorem ml_J1_92 : Cond.methodLink RJ1 92 Lib.Math.max.name ∈ lwg := lwg_tb (i := 520) (by decide +kernel) (by decide +kernel)
theorem st_max : Cond.static Lib.Math.max.name ∈ lwg := lwg_tb (i := 521) (by decide +kernel) (by decide +kernel)
theorem cd_max : Cond.code Lib.Math.max.name Lib.Math.max.code 2 (some .int) ∈ lwg := lwg_tb (i := 522) (by decide +kernel) (by decide +kernel)
theorem ml_J1_38 : Cond.methodLink RJ1 38 Lib.Math.min.name ∈ lwg := lwg_tb (i := 523) (by decide +kernel) (by decide +kernel)
theorem st_min : Cond.static Lib.Math.min.name ∈ lwg := lwg_tb (i := 524) (by decide +kernel) (by decide +kernel)
theorem cd_min : Cond.code Lib.Math.min.name Lib.Math.min.code 2 (some .int) ∈ lwg := lwg_tb (i := 525) (by decide +kernel) (by decide +kernel)
theorem ml_J1_95 : Cond.methodLink RJ1 95 yJ1_indexOfChar_4cfef ∈ lwg := lwg_tb (i := 526) (by decide +kernel) (by decide +kernel)
theorem st_yJ1_indexOfChar_4cfef : Cond.static yJ1_indexOfChar_4cfef ∈ lwg := lwg_tb (i := 527) (by decide +kernel) (by decide +kernel)
theorem cd_yJ1_indexOfChar_4cfef : Cond.code yJ1_indexOfChar_4cfef cJ1_indexOfChar_4cfef 6 (some .int) ∈ lwg := lwg_tb (i := 528) (by decide +kernel) (by decide +kernel)
theorem fl_J0_9 : Cond.fieldLink RJ0 9 "java/lang/String" "value" "[B" ∈ lwg := lwg_tb (i := 1441) (by decide +kernel) (by decide +kernel)
theorem fl_J0_15 : Cond.fieldLink RJ0 15 "java/lang/String" "coder" "B" ∈ lwg := lwg_tb (i := 1442) (by decide +kernel) (by decide +kernel)
def ch (x : Int32) : Int32 := (x.toUInt32 % 65536).toInt32
section StrRows
variable {p : Program} {l : Launch} {e : Env} {R : Room} {s : State} {mth : MethodId} {args : Array Value} {below : List Frame} {meth : Method} {c : Code} {H : Heap} {locs : List Loc} {cells slots : Nat} {Q : State → Prop} {E : EE} {G : GG} {m : MM} {cc : ByteArray} {own nm : String} {nL : Nat} {ret : Option FieldType} {pc : Nat} {ls : Array Slot} {rest : List Value} {w : Nat}
theorem h_sval (C : Cx E G p s mth args meth c cc own nm nL ret) (h : Hp E G m s H locs) (hw : w < 10) {index : Nat} (hlink : Cond.fieldLink own index "java/lang/String" "value" "[B" ∈ lwg) (hdg : decode cc pc = .ok (.getfield index, 3)) (kk : W p l e R s mth args below meth c H locs cells slots Q (F0 mth (pc + 3) ls (.ref (E.2.2.2.2 w) :: rest))) : W p l e R s mth args below meth c H locs cells slots Q (F0 mth pc ls (.ref (E.2.2.2.1 w) :: rest)) := by
  obtain ⟨hx, hb, hml, hown, hts, hr, hlk, hK, hS, hbs⟩ := C
  exact vk_getf hx hb (hS.1.1 w hw).2.2.1 h.2.2 hown (hts _ hlink) (fun _ z => z) hdg kk
theorem h_scod (C : Cx E G p s mth args meth c cc own nm nL ret) (h : Hp E G m s H locs) (hw : w < 10) {index : Nat} (hlink : Cond.fieldLink own index "java/lang/String" "coder" "B" ∈ lwg) (hdg : decode cc pc = .ok (.getfield index, 3)) (kk : W p l e R s mth args below meth c H locs cells slots Q (F0 mth (pc + 3) ls (.int 0 :: rest))) : W p l e R s mth args below meth c H locs cells slots Q (F0 mth pc ls (.ref (E.2.2.2.1 w) :: rest)) := by
  obtain ⟨hx, hb, hml, hown, hts, hr, hlk, hK, hS, hbs⟩ := C
  exact vk_getf hx hb (hS.1.1 w hw).2.1 h.2.2 hown (hts _ hlink) (fun _ z => z) hdg kk
theorem h_slen (C : Cx E G p s mth args meth c cc own nm nL ret) (h : Hp E G m s H locs) (hw : w < 10) (hdg : decode cc pc = .ok (.arraylength, 1)) (kk : W p l e R s mth args below meth c H locs cells slots Q (F0 mth (pc + 1) ls (.int (nI (lenS.getD w 0)) :: rest))) : W p l e R s mth args below meth c H locs cells slots Q (F0 mth pc ls (.ref (E.2.2.2.2 w) :: rest)) := by
  obtain ⟨hx, hb, hml, hown, hts, hr, hlk, hK, hS, hbs⟩ := C
  exact va_tlen hx hb (hS.1.1 w hw).2.2.2 h.2.2 rfl hdg kk
theorem h_sbald (C : Cx E G p s mth args meth c cc own nm nL ret) (h : Hp E G m s H locs) (hw : w < 10) {i : Int32} (hin : vp_in i (lenS.getD w 0)) (hdg : decode cc pc = .ok (.baload, 1)) (kk : W p l e R s mth args below meth c H locs cells slots Q (F0 mth (pc + 1) ls (.int ((bytS.getD w []).getD i.toNatClampNeg 0) :: rest))) : W p l e R s mth args below meth c H locs cells slots Q (F0 mth pc ls (.int i :: .ref (E.2.2.2.2 w) :: rest)) := by
  obtain ⟨hx, hb, hml, hown, hts, hr, hlk, hK, hS, hbs⟩ := C
  exact va_tb hx hb (hS.1.1 w hw).2.2.2 h.2.2 hin rfl hdg kk
theorem h_cs (C : Cx E G p s mth args meth c cc own nm nL ret) (h : Hp E G m s H locs) {index : Nat} (hlink : Cond.fieldLink own index "java/lang/String" "COMPACT_STRINGS" "Z" ∈ lwg) (hdg : decode cc pc = .ok (.getstatic index, 3)) (kk : W p l e R s mth args below meth c H locs cells slots Q (F0 mth (pc + 3) ls (.int 1 :: rest))) : W p l e R s mth args below meth c H locs cells slots Q (F0 mth pc ls rest) := by
  obtain ⟨hx, hb, hml, hown, hts, hr, hlk, hK, hS, hbs⟩ := C
  exact va_gets hx hb hS.2.2.1 h.2.2 hown (hts _ hlink) (fun _ z => z) hdg kk
theorem h_fmt (C : Cx E G p s mth args meth c cc own nm nL ret) (h : Hp E G m s H locs) {index : Nat} (hlink : Cond.fieldLink own index "jdk/internal/util/Preconditions" "SIOOBE_FORMATTER" "Ljava/util/function/BiFunction;" ∈ lwg) (hdg : decode cc pc = .ok (.getstatic index, 3)) (kk : ∀ x : Option Nat, W p l e R s mth args below meth c H locs cells slots Q (F0 mth (pc + 3) ls (va_rf x :: rest))) : W p l e R s mth args below meth c H locs cells slots Q (F0 mth pc ls rest) := by
  obtain ⟨hx, hb, hml, hown, hts, hr, hlk, hK, hS, hbs⟩ := C
  rcases hS.2.2.2 with hz | ⟨t, hz⟩
  · exact va_gets hx hb hz h.2.2 hown (hts _ hlink) (fun _ z => z) hdg (kk none)
  · exact va_gets hx hb hz h.2.2 hown (hts _ hlink) (fun _ z => z) hdg (kk (some t))
theorem h_cret {v : Int32} (C : Cx E G p s mth args meth c cc own nm nL (some .char)) (h : Hp E G m s H locs) (hdg : decode cc pc = .ok (.ireturn, 1)) : W p l e R s mth args below meth c H locs cells slots (MQ below (cQi E (ch v) G m) args s cells slots (fun q => E.2.2.1 ≤ q)) (F0 mth pc ls [.int (ch v)]) := by
  obtain ⟨hx, hb, hml, hown, hts, hr, hlk, -⟩ := id C
  exact W.zret hx hb hr (pk_nc v) (fun t ht hW => ⟨⟨ch v, (), rfl, rfl, WD.at C h ht hW⟩, h.2.2.F ht⟩) h.2.2.2.2 hdg hlk
theorem h_bret {v : Int32} (C : Cx E G p s mth args meth c cc own nm nL (some .byte)) (h : Hp E G m s H locs) (hn : narrow .byte (.int v) = .int v) (hdg : decode cc pc = .ok (.ireturn, 1)) : W p l e R s mth args below meth c H locs cells slots (MQ below (cQi E v G m) args s cells slots (fun q => E.2.2.1 ≤ q)) (F0 mth pc ls [.int v]) := by
  obtain ⟨hx, hb, hml, hown, hts, hr, hlk, -⟩ := id C
  exact W.zret hx hb hr hn (fun t ht hW => ⟨⟨v, (), rfl, rfl, WD.at C h ht hW⟩, h.2.2.F ht⟩) h.2.2.2.2 hdg hlk
theorem h_callTi (C : Cx E G p s mth args meth c cc own nm nL ret) (h : Hp E G m s H locs) {y : MethodName} {bytes : ByteArray} {maxL n index : Nat} {ret1 : Option FieldType} {rm : Room} {As st : List Value} (r : Int32) {G1 : GG} (m1 : MM) (hM : Mc l E y bytes maxL ret1 rm (.ref (E.2.2.2.1 w) :: As) G m (cQi E r G1 m1)) (hw : w < 10) (hin : Cond.instanceMethod y ∈ lwg) (hse : Cond.selects "java/lang/String" y y ∈ lwg) (hy : Cy y bytes maxL ret1 n) (hn : As.length = n) (hlk : Cond.methodLink own index y ∈ lwg) (hR : rm.frames + 1 ≤ R.frames ∧ 8 + (maxL + 11) + rm.locals ≤ R.locals) (hf : cells + rm.cells ≤ R.cells ∧ slots + rm.slots ≤ R.slots) (hsz : ls.size = nL) (hst : st = As.reverse ++ .ref (E.2.2.2.1 w) :: rest) (hrest : (rest.map fun v => v.category).sum ≤ 8) (hdg : decode cc pc = .ok (.invokevirtual index, 3))
    (kk : ∀ (H : Heap) (locs : List Loc), Hp E G1 m1 s H locs → W p l e R s mth args below meth c H locs (cells + rm.cells) (slots + rm.slots) Q (F0 mth (pc + 3) ls (.int r :: rest))) : W p l e R s mth args below meth c H locs cells slots Q (F0 mth pc ls st) := by
  have hB := callB_my (R := R) C hy hlk hR
  obtain ⟨hx, hb0, hml, hown, hts, -, -, -, hS, -⟩ := id C
  refine va_calli (va_runV (As := As) (rest := rest) ⟨hx, hb0, hml, hown, hts⟩ hM ⟨hB, hts _ hin, hts _ hse⟩ ⟨WD.blind, vk_recv hS.1 hw h.2.2, fun U hU hW => ⟨rfl, WD.at C h hU hW⟩⟩ rfl hn hsz hst (lv_room hrest) hdg hf) h.2.2 (fun q _ hq => hq) (fun q hq => hq) (fun r1 u t H1 locs1 ht hvm hp hB1 hz1 hk1 hS1 => ?_)
  cases hp
  subst ht
  exact kk _ _ ⟨hB1.1, hB1.2.1, hS1⟩
end StrRows
theorem dJ0_length_8abf5_0 : decode cJ0_length_8abf5 0 = .ok (.aload_n 0, 1) := by decide +kernel
theorem dJ0_length_8abf5_1 : decode cJ0_length_8abf5 1 = .ok (.getfield 9, 3) := by decide +kernel
theorem dJ0_length_8abf5_4 : decode cJ0_length_8abf5 4 = .ok (.arraylength, 1) := by decide +kernel
theorem dJ0_length_8abf5_5 : decode cJ0_length_8abf5 5 = .ok (.aload_n 0, 1) := by decide +kernel
theorem dJ0_length_8abf5_6 : decode cJ0_length_8abf5 6 = .ok (.invokevirtual 335, 3) := by decide +kernel
theorem dJ0_length_8abf5_9 : decode cJ0_length_8abf5 9 = .ok (.ishr, 1) := by decide +kernel
theorem dJ0_length_8abf5_10 : decode cJ0_length_8abf5 10 = .ok (.ireturn, 1) := by decide +kernel
theorem dJ0_charAt_5068e_0 : decode cJ0_charAt_5068e 0 = .ok (.aload_n 0, 1) := by decide +kernel
theorem dJ0_charAt_5068e_1 : decode cJ0_charAt_5068e 1 = .ok (.invokevirtual 492, 3) := by decide +kernel
theorem dJ0_charAt_5068e_4 : decode cJ0_charAt_5068e 4 = .ok (.ifCond .eq 12, 3) := by decide +kernel
theorem dJ0_charAt_5068e_7 : decode cJ0_charAt_5068e 7 = .ok (.aload_n 0, 1) := by decide +kernel
theorem dJ0_charAt_5068e_8 : decode cJ0_charAt_5068e 8 = .ok (.getfield 9, 3) := by decide +kernel
theorem dJ0_charAt_5068e_11 : decode cJ0_charAt_5068e 11 = .ok (.iload_n 1, 1) := by decide +kernel
theorem dJ0_charAt_5068e_12 : decode cJ0_charAt_5068e 12 = .ok (.invokestatic 495, 3) := by decide +kernel
theorem dJ0_charAt_5068e_15 : decode cJ0_charAt_5068e 15 = .ok (.ireturn, 1) := by decide +kernel
theorem dJ0_charAt_5068e_16 : decode cJ0_charAt_5068e 16 = .ok (.aload_n 0, 1) := by decide +kernel
theorem dJ0_charAt_5068e_17 : decode cJ0_charAt_5068e 17 = .ok (.getfield 9, 3) := by decide +kernel
theorem dJ0_charAt_5068e_20 : decode cJ0_charAt_5068e 20 = .ok (.iload_n 1, 1) := by decide +kernel
theorem dJ0_charAt_5068e_21 : decode cJ0_charAt_5068e 21 = .ok (.invokestatic 498, 3) := by decide +kernel
theorem dJ0_charAt_5068e_24 : decode cJ0_charAt_5068e 24 = .ok (.ireturn, 1) := by decide +kernel
theorem dJ0_indexOf_0f7a4_0 : decode cJ0_indexOf_0f7a4 0 = .ok (.aload_n 0, 1) := by decide +kernel
theorem dJ0_indexOf_0f7a4_1 : decode cJ0_indexOf_0f7a4 1 = .ok (.iload_n 1, 1) := by decide +kernel
theorem dJ0_indexOf_0f7a4_2 : decode cJ0_indexOf_0f7a4 2 = .ok (.iconst 0, 1) := by decide +kernel
theorem dJ0_indexOf_0f7a4_3 : decode cJ0_indexOf_0f7a4 3 = .ok (.invokevirtual 633, 3) := by decide +kernel
theorem dJ0_indexOf_0f7a4_6 : decode cJ0_indexOf_0f7a4 6 = .ok (.ireturn, 1) := by decide +kernel
theorem dJ0_indexOf_7cf53_0 : decode cJ0_indexOf_7cf53 0 = .ok (.aload_n 0, 1) := by decide +kernel
theorem dJ0_indexOf_7cf53_1 : decode cJ0_indexOf_7cf53 1 = .ok (.invokevirtual 492, 3) := by decide +kernel
theorem dJ0_indexOf_7cf53_4 : decode cJ0_indexOf_7cf53 4 = .ok (.ifCond .eq 19, 3) := by decide +kernel
theorem dJ0_indexOf_7cf53_7 : decode cJ0_indexOf_7cf53 7 = .ok (.aload_n 0, 1) := by decide +kernel
theorem dJ0_indexOf_7cf53_8 : decode cJ0_indexOf_7cf53 8 = .ok (.getfield 9, 3) := by decide +kernel
theorem dJ0_indexOf_7cf53_11 : decode cJ0_indexOf_7cf53 11 = .ok (.iload_n 1, 1) := by decide +kernel
theorem dJ0_indexOf_7cf53_12 : decode cJ0_indexOf_7cf53 12 = .ok (.iload_n 2, 1) := by decide +kernel
theorem dJ0_indexOf_7cf53_13 : decode cJ0_indexOf_7cf53 13 = .ok (.aload_n 0, 1) := by decide +kernel
theorem dJ0_indexOf_7cf53_14 : decode cJ0_indexOf_7cf53 14 = .ok (.invokevirtual 505, 3) := by decide +kernel
theorem dJ0_indexOf_7cf53_17 : decode cJ0_indexOf_7cf53 17 = .ok (.invokestatic 637, 3) := by decide +kernel
theorem dJ0_indexOf_7cf53_20 : decode cJ0_indexOf_7cf53 20 = .ok (.goto 16, 3) := by decide +kernel
theorem dJ0_indexOf_7cf53_23 : decode cJ0_indexOf_7cf53 23 = .ok (.aload_n 0, 1) := by decide +kernel
theorem dJ0_indexOf_7cf53_24 : decode cJ0_indexOf_7cf53 24 = .ok (.getfield 9, 3) := by decide +kernel
theorem dJ0_indexOf_7cf53_27 : decode cJ0_indexOf_7cf53 27 = .ok (.iload_n 1, 1) := by decide +kernel
theorem dJ0_indexOf_7cf53_28 : decode cJ0_indexOf_7cf53 28 = .ok (.iload_n 2, 1) := by decide +kernel
theorem dJ0_indexOf_7cf53_29 : decode cJ0_indexOf_7cf53 29 = .ok (.aload_n 0, 1) := by decide +kernel
theorem dJ0_indexOf_7cf53_30 : decode cJ0_indexOf_7cf53 30 = .ok (.invokevirtual 505, 3) := by decide +kernel
theorem dJ0_indexOf_7cf53_33 : decode cJ0_indexOf_7cf53 33 = .ok (.invokestatic 640, 3) := by decide +kernel
theorem dJ0_indexOf_7cf53_36 : decode cJ0_indexOf_7cf53 36 = .ok (.ireturn, 1) := by decide +kernel
theorem dJ0_coder_7d493_0 : decode cJ0_coder_7d493 0 = .ok (.getstatic 38, 3) := by decide +kernel
theorem dJ0_coder_7d493_3 : decode cJ0_coder_7d493 3 = .ok (.ifCond .eq 10, 3) := by decide +kernel
theorem dJ0_coder_7d493_6 : decode cJ0_coder_7d493 6 = .ok (.aload_n 0, 1) := by decide +kernel
theorem dJ0_coder_7d493_7 : decode cJ0_coder_7d493 7 = .ok (.getfield 15, 3) := by decide +kernel
theorem dJ0_coder_7d493_10 : decode cJ0_coder_7d493 10 = .ok (.goto 4, 3) := by decide +kernel
theorem dJ0_coder_7d493_13 : decode cJ0_coder_7d493 13 = .ok (.iconst 1, 1) := by decide +kernel
theorem dJ0_coder_7d493_14 : decode cJ0_coder_7d493 14 = .ok (.ireturn, 1) := by decide +kernel
theorem dJ0_isLatin1_aae02_0 : decode cJ0_isLatin1_aae02 0 = .ok (.getstatic 38, 3) := by decide +kernel
theorem dJ0_isLatin1_aae02_3 : decode cJ0_isLatin1_aae02 3 = .ok (.ifCond .eq 14, 3) := by decide +kernel
theorem dJ0_isLatin1_aae02_6 : decode cJ0_isLatin1_aae02 6 = .ok (.aload_n 0, 1) := by decide +kernel
theorem dJ0_isLatin1_aae02_7 : decode cJ0_isLatin1_aae02 7 = .ok (.getfield 15, 3) := by decide +kernel
theorem dJ0_isLatin1_aae02_10 : decode cJ0_isLatin1_aae02 10 = .ok (.ifCond .ne 7, 3) := by decide +kernel
theorem dJ0_isLatin1_aae02_13 : decode cJ0_isLatin1_aae02 13 = .ok (.iconst 1, 1) := by decide +kernel
theorem dJ0_isLatin1_aae02_14 : decode cJ0_isLatin1_aae02 14 = .ok (.goto 4, 3) := by decide +kernel
theorem dJ0_isLatin1_aae02_17 : decode cJ0_isLatin1_aae02 17 = .ok (.iconst 0, 1) := by decide +kernel
theorem dJ0_isLatin1_aae02_18 : decode cJ0_isLatin1_aae02 18 = .ok (.ireturn, 1) := by decide +kernel
theorem dJ0_checkIndex_df160_0 : decode cJ0_checkIndex_df160 0 = .ok (.iload_n 0, 1) := by decide +kernel
theorem dJ0_checkIndex_df160_1 : decode cJ0_checkIndex_df160 1 = .ok (.iload_n 1, 1) := by decide +kernel
theorem dJ0_checkIndex_df160_2 : decode cJ0_checkIndex_df160 2 = .ok (.getstatic 1053, 3) := by decide +kernel
theorem dJ0_checkIndex_df160_5 : decode cJ0_checkIndex_df160 5 = .ok (.invokestatic 1059, 3) := by decide +kernel
theorem dJ0_checkIndex_df160_8 : decode cJ0_checkIndex_df160 8 = .ok (.pop, 1) := by decide +kernel
theorem dJ0_checkIndex_df160_9 : decode cJ0_checkIndex_df160 9 = .ok (.return_, 1) := by decide +kernel
theorem dJ1_charAt_3b067_0 : decode cJ1_charAt_3b067 0 = .ok (.iload_n 1, 1) := by decide +kernel
theorem dJ1_charAt_3b067_1 : decode cJ1_charAt_3b067 1 = .ok (.aload_n 0, 1) := by decide +kernel
theorem dJ1_charAt_3b067_2 : decode cJ1_charAt_3b067 2 = .ok (.arraylength, 1) := by decide +kernel
theorem dJ1_charAt_3b067_3 : decode cJ1_charAt_3b067 3 = .ok (.invokestatic 9, 3) := by decide +kernel
theorem dJ1_charAt_3b067_6 : decode cJ1_charAt_3b067 6 = .ok (.aload_n 0, 1) := by decide +kernel
theorem dJ1_charAt_3b067_7 : decode cJ1_charAt_3b067 7 = .ok (.iload_n 1, 1) := by decide +kernel
theorem dJ1_charAt_3b067_8 : decode cJ1_charAt_3b067 8 = .ok (.baload, 1) := by decide +kernel
theorem dJ1_charAt_3b067_9 : decode cJ1_charAt_3b067 9 = .ok (.sipush 255, 3) := by decide +kernel
theorem dJ1_charAt_3b067_12 : decode cJ1_charAt_3b067 12 = .ok (.iand, 1) := by decide +kernel
theorem dJ1_charAt_3b067_13 : decode cJ1_charAt_3b067 13 = .ok (.i2c, 1) := by decide +kernel
theorem dJ1_charAt_3b067_14 : decode cJ1_charAt_3b067 14 = .ok (.ireturn, 1) := by decide +kernel
theorem dJ1_canEncode_9a6ad_0 : decode cJ1_canEncode_9a6ad 0 = .ok (.iload_n 0, 1) := by decide +kernel
theorem dJ1_canEncode_9a6ad_1 : decode cJ1_canEncode_9a6ad 1 = .ok (.ifCond .lt 14, 3) := by decide +kernel
theorem dJ1_canEncode_9a6ad_4 : decode cJ1_canEncode_9a6ad 4 = .ok (.iload_n 0, 1) := by decide +kernel
theorem dJ1_canEncode_9a6ad_5 : decode cJ1_canEncode_9a6ad 5 = .ok (.sipush 255, 3) := by decide +kernel
theorem dJ1_canEncode_9a6ad_8 : decode cJ1_canEncode_9a6ad 8 = .ok (.if_icmp .gt 7, 3) := by decide +kernel
theorem dJ1_canEncode_9a6ad_11 : decode cJ1_canEncode_9a6ad 11 = .ok (.iconst 1, 1) := by decide +kernel
theorem dJ1_canEncode_9a6ad_12 : decode cJ1_canEncode_9a6ad 12 = .ok (.goto 4, 3) := by decide +kernel
theorem dJ1_canEncode_9a6ad_15 : decode cJ1_canEncode_9a6ad 15 = .ok (.iconst 0, 1) := by decide +kernel
theorem dJ1_canEncode_9a6ad_16 : decode cJ1_canEncode_9a6ad 16 = .ok (.ireturn, 1) := by decide +kernel
theorem dJ1_indexOf_4cfef_0 : decode cJ1_indexOf_4cfef 0 = .ok (.iload_n 1, 1) := by decide +kernel
theorem dJ1_indexOf_4cfef_1 : decode cJ1_indexOf_4cfef 1 = .ok (.invokestatic 88, 3) := by decide +kernel
theorem dJ1_indexOf_4cfef_4 : decode cJ1_indexOf_4cfef 4 = .ok (.ifCond .ne 5, 3) := by decide +kernel
theorem dJ1_indexOf_4cfef_7 : decode cJ1_indexOf_4cfef 7 = .ok (.iconst (-1), 1) := by decide +kernel
theorem dJ1_indexOf_4cfef_8 : decode cJ1_indexOf_4cfef 8 = .ok (.ireturn, 1) := by decide +kernel
theorem dJ1_indexOf_4cfef_9 : decode cJ1_indexOf_4cfef 9 = .ok (.iload_n 2, 1) := by decide +kernel
theorem dJ1_indexOf_4cfef_10 : decode cJ1_indexOf_4cfef 10 = .ok (.iconst 0, 1) := by decide +kernel
theorem dJ1_indexOf_4cfef_11 : decode cJ1_indexOf_4cfef 11 = .ok (.invokestatic 92, 3) := by decide +kernel
theorem dJ1_indexOf_4cfef_14 : decode cJ1_indexOf_4cfef 14 = .ok (.istore_n 2, 1) := by decide +kernel
theorem dJ1_indexOf_4cfef_15 : decode cJ1_indexOf_4cfef 15 = .ok (.iload_n 3, 1) := by decide +kernel
theorem dJ1_indexOf_4cfef_16 : decode cJ1_indexOf_4cfef 16 = .ok (.aload_n 0, 1) := by decide +kernel
theorem dJ1_indexOf_4cfef_17 : decode cJ1_indexOf_4cfef 17 = .ok (.arraylength, 1) := by decide +kernel
theorem dJ1_indexOf_4cfef_18 : decode cJ1_indexOf_4cfef 18 = .ok (.invokestatic 38, 3) := by decide +kernel
theorem dJ1_indexOf_4cfef_21 : decode cJ1_indexOf_4cfef 21 = .ok (.istore_n 3, 1) := by decide +kernel
theorem dJ1_indexOf_4cfef_22 : decode cJ1_indexOf_4cfef 22 = .ok (.iload_n 2, 1) := by decide +kernel
theorem dJ1_indexOf_4cfef_23 : decode cJ1_indexOf_4cfef 23 = .ok (.iload_n 3, 1) := by decide +kernel
theorem dJ1_indexOf_4cfef_24 : decode cJ1_indexOf_4cfef 24 = .ok (.if_icmp .lt 5, 3) := by decide +kernel
theorem dJ1_indexOf_4cfef_27 : decode cJ1_indexOf_4cfef 27 = .ok (.iconst (-1), 1) := by decide +kernel
theorem dJ1_indexOf_4cfef_28 : decode cJ1_indexOf_4cfef 28 = .ok (.ireturn, 1) := by decide +kernel
theorem dJ1_indexOf_4cfef_29 : decode cJ1_indexOf_4cfef 29 = .ok (.aload_n 0, 1) := by decide +kernel
theorem dJ1_indexOf_4cfef_30 : decode cJ1_indexOf_4cfef 30 = .ok (.iload_n 1, 1) := by decide +kernel
theorem dJ1_indexOf_4cfef_31 : decode cJ1_indexOf_4cfef 31 = .ok (.iload_n 2, 1) := by decide +kernel
theorem dJ1_indexOf_4cfef_32 : decode cJ1_indexOf_4cfef 32 = .ok (.iload_n 3, 1) := by decide +kernel
theorem dJ1_indexOf_4cfef_33 : decode cJ1_indexOf_4cfef 33 = .ok (.invokestatic 95, 3) := by decide +kernel
theorem dJ1_indexOf_4cfef_36 : decode cJ1_indexOf_4cfef 36 = .ok (.ireturn, 1) := by decide +kernel
theorem dJ1_indexOfChar_4cfef_0 : decode cJ1_indexOfChar_4cfef 0 = .ok (.iload_n 1, 1) := by decide +kernel
theorem dJ1_indexOfChar_4cfef_1 : decode cJ1_indexOfChar_4cfef 1 = .ok (.i2b, 1) := by decide +kernel
theorem dJ1_indexOfChar_4cfef_2 : decode cJ1_indexOfChar_4cfef 2 = .ok (.istore 4, 2) := by decide +kernel
theorem dJ1_indexOfChar_4cfef_4 : decode cJ1_indexOfChar_4cfef 4 = .ok (.iload_n 2, 1) := by decide +kernel
theorem dJ1_indexOfChar_4cfef_5 : decode cJ1_indexOfChar_4cfef 5 = .ok (.istore 5, 2) := by decide +kernel
theorem dJ1_indexOfChar_4cfef_7 : decode cJ1_indexOfChar_4cfef 7 = .ok (.iload 5, 2) := by decide +kernel
theorem dJ1_indexOfChar_4cfef_9 : decode cJ1_indexOfChar_4cfef 9 = .ok (.iload_n 3, 1) := by decide +kernel
theorem dJ1_indexOfChar_4cfef_10 : decode cJ1_indexOfChar_4cfef 10 = .ok (.if_icmp .ge 21, 3) := by decide +kernel
theorem dJ1_indexOfChar_4cfef_13 : decode cJ1_indexOfChar_4cfef 13 = .ok (.aload_n 0, 1) := by decide +kernel
theorem dJ1_indexOfChar_4cfef_14 : decode cJ1_indexOfChar_4cfef 14 = .ok (.iload 5, 2) := by decide +kernel
theorem dJ1_indexOfChar_4cfef_16 : decode cJ1_indexOfChar_4cfef 16 = .ok (.baload, 1) := by decide +kernel
theorem dJ1_indexOfChar_4cfef_17 : decode cJ1_indexOfChar_4cfef 17 = .ok (.iload 4, 2) := by decide +kernel
theorem dJ1_indexOfChar_4cfef_19 : decode cJ1_indexOfChar_4cfef 19 = .ok (.if_icmp .ne 6, 3) := by decide +kernel
theorem dJ1_indexOfChar_4cfef_22 : decode cJ1_indexOfChar_4cfef 22 = .ok (.iload 5, 2) := by decide +kernel
theorem dJ1_indexOfChar_4cfef_24 : decode cJ1_indexOfChar_4cfef 24 = .ok (.ireturn, 1) := by decide +kernel
theorem dJ1_indexOfChar_4cfef_25 : decode cJ1_indexOfChar_4cfef 25 = .ok (.iinc 5 1, 3) := by decide +kernel
theorem dJ1_indexOfChar_4cfef_28 : decode cJ1_indexOfChar_4cfef 28 = .ok (.goto (-21), 3) := by decide +kernel
theorem dJ1_indexOfChar_4cfef_31 : decode cJ1_indexOfChar_4cfef 31 = .ok (.iconst (-1), 1) := by decide +kernel
theorem dJ1_indexOfChar_4cfef_32 : decode cJ1_indexOfChar_4cfef 32 = .ok (.ireturn, 1) := by decide +kernel
theorem dJ3_checkIndex_8e157_0 : decode cJ3_checkIndex_8e157 0 = .ok (.iload_n 0, 1) := by decide +kernel
theorem dJ3_checkIndex_8e157_1 : decode cJ3_checkIndex_8e157 1 = .ok (.ifCond .lt 8, 3) := by decide +kernel
theorem dJ3_checkIndex_8e157_4 : decode cJ3_checkIndex_8e157 4 = .ok (.iload_n 0, 1) := by decide +kernel
theorem dJ3_checkIndex_8e157_5 : decode cJ3_checkIndex_8e157 5 = .ok (.iload_n 1, 1) := by decide +kernel
theorem dJ3_checkIndex_8e157_6 : decode cJ3_checkIndex_8e157 6 = .ok (.if_icmp .lt 10, 3) := by decide +kernel
theorem dJ3_checkIndex_8e157_9 : decode cJ3_checkIndex_8e157 9 = .ok (.aload_n 2, 1) := by decide +kernel
theorem dJ3_checkIndex_8e157_10 : decode cJ3_checkIndex_8e157 10 = .ok (.iload_n 0, 1) := by decide +kernel
theorem dJ3_checkIndex_8e157_11 : decode cJ3_checkIndex_8e157 11 = .ok (.iload_n 1, 1) := by decide +kernel
theorem dJ3_checkIndex_8e157_12 : decode cJ3_checkIndex_8e157 12 = .ok (.invokestatic 95, 3) := by decide +kernel
theorem dJ3_checkIndex_8e157_15 : decode cJ3_checkIndex_8e157 15 = .ok (.athrow, 1) := by decide +kernel
theorem dJ3_checkIndex_8e157_16 : decode cJ3_checkIndex_8e157 16 = .ok (.iload_n 0, 1) := by decide +kernel
theorem dJ3_checkIndex_8e157_17 : decode cJ3_checkIndex_8e157 17 = .ok (.ireturn, 1) := by decide +kernel
abbrev rmJ0_coder_7d493 : Room := { frames := 0, cells := 0, slots := 0, locals := 0 }
def M_J0_coder_7d493 (G : GG) (x0 : Nat) (m : MM) : Option (Int32 × MM) :=
  some (0, m)
set_option maxRecDepth 100000 in
set_option maxHeartbeats 4000000 in
theorem cM_J0_coder_7d493 {p : Program} {l : Launch} {e : Env} {s : State} {mth : MethodId} {args : Array Value} {below : List Frame} {meth : Method} {c : Code} {E : EE} {G : GG} {r9 : Int32} {m9 : MM} (C : Cx E G p s mth args meth c cJ0_coder_7d493 RJ0 "coder" 1 (some .byte)) {x0 : Nat} {m : MM} (hM : M_J0_coder_7d493 G x0 m = some (r9, m9)) (hsx0 : x0 < 10) : ∀ (H : Heap) (locs : List Loc), Hp E G m s H locs → ∀ ls : Array Slot, lv_has ls 1 [(0, .ref (E.2.2.2.1 x0))] → W p l e rmJ0_coder_7d493 s mth args below meth c H locs 0 0 (MQ below (cQi E r9 G m9) args s 0 0 (fun q => E.2.2.1 ≤ q)) (F0 mth 0 ls []) := by
  intro H locs h ls hl
  unfold M_J0_coder_7d493 at hM
  refine h_cs C h fl_J0_38 dJ0_coder_7d493_0 ?_
  refine lv_if_eq (tgt := 13) C.1 C.2.1 dJ0_coder_7d493_3 (by decide) (fun q => absurd q (by decide)) (fun _ => ?_)
  refine lv_aload_n C.1 C.2.1 dJ0_coder_7d493_6 rfl (lv_at hl 0 rfl) ?_
  refine h_scod C h hsx0 fl_J0_15 dJ0_coder_7d493_7 ?_
  refine lv_goto (tgt := 14) C.1 C.2.1 dJ0_coder_7d493_10 (by decide) ?_
  obtain ⟨rfl, rfl⟩ := so_inj hM
  exact h_bret C h (by decide) dJ0_coder_7d493_14
theorem cy_J0_coder_7d493 : Cy yJ0_coder_7d493 cJ0_coder_7d493 1 (some .byte) 0 := ⟨cd_yJ0_coder_7d493, ii_J0, by decide, by decide, by decide +kernel⟩
set_option maxRecDepth 100000 in
theorem c_J0_coder_7d493 {l : Launch} {E : EE} {G : GG} {x0 : Nat} {m m9 : MM} {r9 : Int32} (hM : M_J0_coder_7d493 G x0 m = some (r9, m9)) (hsx0 : x0 < 10) : Mc l E yJ0_coder_7d493 cJ0_coder_7d493 1 (some .byte) rmJ0_coder_7d493 [.ref (E.2.2.2.1 x0)] G m (cQi E r9 G m9) := M_of (by decide) (Nat.le_of_ble_eq_true rfl) (fun p e s mth below meth c C h ls hl => cM_J0_coder_7d493 C hM hsx0 _ _ h ls hl)
abbrev rmJ0_length_8abf5 : Room := { frames := 1, cells := 0, slots := 0, locals := 20 }
def M_J0_length_8abf5 (G : GG) (x0 : Nat) (m : MM) : Option (Int32 × MM) :=
  bd (M_J0_coder_7d493 G x0 m) fun r_1 m_2 =>
    some ((nI (lenS.getD x0 0)) >>> (r_1 &&& 31), m_2)
set_option maxRecDepth 100000 in
set_option maxHeartbeats 4000000 in
theorem cM_J0_length_8abf5 {p : Program} {l : Launch} {e : Env} {s : State} {mth : MethodId} {args : Array Value} {below : List Frame} {meth : Method} {c : Code} {E : EE} {G : GG} {r9 : Int32} {m9 : MM} (C : Cx E G p s mth args meth c cJ0_length_8abf5 RJ0 "length" 1 (some .int)) {x0 : Nat} {m : MM} (hM : M_J0_length_8abf5 G x0 m = some (r9, m9)) (hsx0 : x0 < 10) : ∀ (H : Heap) (locs : List Loc), Hp E G m s H locs → ∀ ls : Array Slot, lv_has ls 1 [(0, .ref (E.2.2.2.1 x0))] → W p l e rmJ0_length_8abf5 s mth args below meth c H locs 0 0 (MQ below (cQi E r9 G m9) args s 0 0 (fun q => E.2.2.1 ≤ q)) (F0 mth 0 ls []) := by
  intro H locs h ls hl
  unfold M_J0_length_8abf5 at hM
  refine lv_aload_n C.1 C.2.1 dJ0_length_8abf5_0 rfl (lv_at hl 0 rfl) ?_
  refine h_sval C h hsx0 fl_J0_9 dJ0_length_8abf5_1 ?_
  refine h_slen C h hsx0 dJ0_length_8abf5_4 ?_
  refine lv_aload_n C.1 C.2.1 dJ0_length_8abf5_5 rfl (lv_at hl 0 rfl) ?_
  obtain ⟨r_1, m_2, hc_1, hM⟩ := bd_some hM
  refine h_callTi C h (As := []) (rest := [.int (nI (lenS.getD x0 0))]) r_1 m_2 (c_J0_coder_7d493 hc_1 hsx0) hsx0 im_yJ0_coder_7d493 se_yJ0_coder_7d493 cy_J0_coder_7d493 rfl ml_J0_335 ⟨by decide, by decide⟩ ⟨Nat.zero_le _, Nat.zero_le _⟩ hl.1 rfl (Nat.le_of_ble_eq_true rfl) dJ0_length_8abf5_6 (fun H locs h => ?_)
  refine lv_ishr C.1 C.2.1 dJ0_length_8abf5_9 ?_
  obtain ⟨rfl, rfl⟩ := so_inj hM
  exact h_iret C h dJ0_length_8abf5_10
theorem cy_J0_length_8abf5 : Cy yJ0_length_8abf5 cJ0_length_8abf5 1 (some .int) 0 := ⟨cd_yJ0_length_8abf5, ii_J0, by decide, by decide, by decide +kernel⟩
set_option maxRecDepth 100000 in
theorem c_J0_length_8abf5 {l : Launch} {E : EE} {G : GG} {x0 : Nat} {m m9 : MM} {r9 : Int32} (hM : M_J0_length_8abf5 G x0 m = some (r9, m9)) (hsx0 : x0 < 10) : Mc l E yJ0_length_8abf5 cJ0_length_8abf5 1 (some .int) rmJ0_length_8abf5 [.ref (E.2.2.2.1 x0)] G m (cQi E r9 G m9) := M_of (by decide) (Nat.le_of_ble_eq_true rfl) (fun p e s mth below meth c C h ls hl => cM_J0_length_8abf5 C hM hsx0 _ _ h ls hl)
abbrev rmJ0_isLatin1_aae02 : Room := { frames := 0, cells := 0, slots := 0, locals := 0 }
def M_J0_isLatin1_aae02 (G : GG) (x0 : Nat) (m : MM) : Option (Bool × MM) :=
  some (true, m)
set_option maxRecDepth 100000 in
set_option maxHeartbeats 4000000 in
theorem cM_J0_isLatin1_aae02 {p : Program} {l : Launch} {e : Env} {s : State} {mth : MethodId} {args : Array Value} {below : List Frame} {meth : Method} {c : Code} {E : EE} {G : GG} {r9 : Bool} {m9 : MM} (C : Cx E G p s mth args meth c cJ0_isLatin1_aae02 RJ0 "isLatin1" 1 (some .boolean)) {x0 : Nat} {m : MM} (hM : M_J0_isLatin1_aae02 G x0 m = some (r9, m9)) (hsx0 : x0 < 10) : ∀ (H : Heap) (locs : List Loc), Hp E G m s H locs → ∀ ls : Array Slot, lv_has ls 1 [(0, .ref (E.2.2.2.1 x0))] → W p l e rmJ0_isLatin1_aae02 s mth args below meth c H locs 0 0 (MQ below (cQi E (bz r9) G m9) args s 0 0 (fun q => E.2.2.1 ≤ q)) (F0 mth 0 ls []) := by
  intro H locs h ls hl
  unfold M_J0_isLatin1_aae02 at hM
  refine h_cs C h fl_J0_38 dJ0_isLatin1_aae02_0 ?_
  refine lv_if_eq (tgt := 17) C.1 C.2.1 dJ0_isLatin1_aae02_3 (by decide) (fun q => absurd q (by decide)) (fun _ => ?_)
  refine lv_aload_n C.1 C.2.1 dJ0_isLatin1_aae02_6 rfl (lv_at hl 0 rfl) ?_
  refine h_scod C h hsx0 fl_J0_15 dJ0_isLatin1_aae02_7 ?_
  refine lv_if_ne (tgt := 17) C.1 C.2.1 dJ0_isLatin1_aae02_10 (by decide) (fun q => absurd q (by decide)) (fun _ => ?_)
  refine lv_iconst (v := 1) C.1 C.2.1 dJ0_isLatin1_aae02_13 (by decide) ?_
  refine lv_goto (tgt := 18) C.1 C.2.1 dJ0_isLatin1_aae02_14 (by decide) ?_
  obtain ⟨rfl, rfl⟩ := so_inj hM
  exact h_zret C h (bz_ok _).1 dJ0_isLatin1_aae02_18
theorem cy_J0_isLatin1_aae02 : Cy yJ0_isLatin1_aae02 cJ0_isLatin1_aae02 1 (some .boolean) 0 := ⟨cd_yJ0_isLatin1_aae02, ii_J0, by decide, by decide, by decide +kernel⟩
set_option maxRecDepth 100000 in
theorem c_J0_isLatin1_aae02 {l : Launch} {E : EE} {G : GG} {x0 : Nat} {m m9 : MM} {r9 : Bool} (hM : M_J0_isLatin1_aae02 G x0 m = some (r9, m9)) (hsx0 : x0 < 10) : Mc l E yJ0_isLatin1_aae02 cJ0_isLatin1_aae02 1 (some .boolean) rmJ0_isLatin1_aae02 [.ref (E.2.2.2.1 x0)] G m (cQi E (bz r9) G m9) := M_of (by decide) (Nat.le_of_ble_eq_true rfl) (fun p e s mth below meth c C h ls hl => cM_J0_isLatin1_aae02 C hM hsx0 _ _ h ls hl)
abbrev rmJ3_checkIndex_8e157 : Room := { frames := 0, cells := 0, slots := 0, locals := 0 }
def B_J3_checkIndex_8e157_9 (G : GG) (x0 : Int32) (x1 : Int32) (m : MM) : Option (Int32 × MM) :=
  none
set_option maxRecDepth 100000 in
set_option maxHeartbeats 4000000 in
theorem cB_J3_checkIndex_8e157_9 {p : Program} {l : Launch} {e : Env} {s : State} {mth : MethodId} {args : Array Value} {below : List Frame} {meth : Method} {c : Code} {E : EE} {G : GG} {r9 : Int32} {m9 : MM} (C : Cx E G p s mth args meth c cJ3_checkIndex_8e157 RJ3 "checkIndex" 3 (some .int)) {x0 : Int32} {x1 : Int32} {x2 : Option Nat} {m : MM} (hM : B_J3_checkIndex_8e157_9 G x0 x1 m = some (r9, m9))  : ∀ (H : Heap) (locs : List Loc), Hp E G m s H locs → ∀ ls : Array Slot, lv_has ls 3 [(0, .int x0), (1, .int x1), (2, va_rf x2)] → W p l e rmJ3_checkIndex_8e157 s mth args below meth c H locs 0 0 (MQ below (cQi E r9 G m9) args s 0 0 (fun q => E.2.2.1 ≤ q)) (F0 mth 9 ls []) := by
  intro H locs h ls hl
  unfold B_J3_checkIndex_8e157_9 at hM
  cases hM
def M_J3_checkIndex_8e157 (G : GG) (x0 : Int32) (x1 : Int32) (m : MM) : Option (Int32 × MM) :=
  if x0 < 0 then
    B_J3_checkIndex_8e157_9 G x0 x1 m
  else
    if x0 < x1 then
      some (x0, m)
    else
      B_J3_checkIndex_8e157_9 G x0 x1 m
set_option maxRecDepth 100000 in
set_option maxHeartbeats 4000000 in
theorem cM_J3_checkIndex_8e157 {p : Program} {l : Launch} {e : Env} {s : State} {mth : MethodId} {args : Array Value} {below : List Frame} {meth : Method} {c : Code} {E : EE} {G : GG} {r9 : Int32} {m9 : MM} (C : Cx E G p s mth args meth c cJ3_checkIndex_8e157 RJ3 "checkIndex" 3 (some .int)) {x0 : Int32} {x1 : Int32} {x2 : Option Nat} {m : MM} (hM : M_J3_checkIndex_8e157 G x0 x1 m = some (r9, m9))  : ∀ (H : Heap) (locs : List Loc), Hp E G m s H locs → ∀ ls : Array Slot, lv_has ls 3 [(0, .int x0), (1, .int x1), (2, va_rf x2)] → W p l e rmJ3_checkIndex_8e157 s mth args below meth c H locs 0 0 (MQ below (cQi E r9 G m9) args s 0 0 (fun q => E.2.2.1 ≤ q)) (F0 mth 0 ls []) := by
  intro H locs h ls hl
  unfold M_J3_checkIndex_8e157 at hM
  refine lv_iload_n C.1 C.2.1 dJ3_checkIndex_8e157_0 rfl (lv_at hl 0 rfl) ?_
  refine lv_if_lt (tgt := 9) C.1 C.2.1 dJ3_checkIndex_8e157_1 (by decide) (fun q => ?_) (fun q => ?_)
  · have hM := ite_t q hM
    exact cB_J3_checkIndex_8e157_9 C hM  _ _ h ls (lv_sub hl [0, 1, 2] rfl)
  · have hM := ite_f q hM
    refine lv_iload_n C.1 C.2.1 dJ3_checkIndex_8e157_4 rfl (lv_at hl 0 rfl) ?_
    refine lv_iload_n C.1 C.2.1 dJ3_checkIndex_8e157_5 rfl (lv_at hl 1 rfl) ?_
    refine lv_icmp_lt (tgt := 16) C.1 C.2.1 dJ3_checkIndex_8e157_6 (by decide) (fun q => ?_) (fun q => ?_)
    · have hM := ite_t q hM
      refine lv_iload_n C.1 C.2.1 dJ3_checkIndex_8e157_16 rfl (lv_at hl 0 rfl) ?_
      obtain ⟨rfl, rfl⟩ := so_inj hM
      exact h_iret C h dJ3_checkIndex_8e157_17
    · have hM := ite_f q hM
      exact cB_J3_checkIndex_8e157_9 C hM  _ _ h ls (lv_sub hl [0, 1, 2] rfl)
theorem cy_J3_checkIndex_8e157 : Cy yJ3_checkIndex_8e157 cJ3_checkIndex_8e157 3 (some .int) 3 := ⟨cd_yJ3_checkIndex_8e157, ii_J3, by decide, by decide, by decide +kernel⟩
set_option maxRecDepth 100000 in
theorem c_J3_checkIndex_8e157 {l : Launch} {E : EE} {G : GG} {x0 : Int32} {x1 : Int32} {x2 : Option Nat} {m m9 : MM} {r9 : Int32} (hM : M_J3_checkIndex_8e157 G x0 x1 m = some (r9, m9))  : Mc l E yJ3_checkIndex_8e157 cJ3_checkIndex_8e157 3 (some .int) rmJ3_checkIndex_8e157 [.int x0, .int x1, va_rf x2] G m (cQi E r9 G m9) := M_of (by decide) (by cases x2 <;> exact Nat.le_of_ble_eq_true rfl) (fun p e s mth below meth c C h ls hl => cM_J3_checkIndex_8e157 C hM  _ _ h ls hl)
abbrev rmJ0_checkIndex_df160 : Room := { frames := 1, cells := 0, slots := 0, locals := 22 }
def M_J0_checkIndex_df160 (G : GG) (x0 : Int32) (x1 : Int32) (m : MM) : Option (Unit × MM) :=
  bd (M_J3_checkIndex_8e157 G x0 x1 m) fun r_2 m_3 =>
    some ((), m_3)
set_option maxRecDepth 100000 in
set_option maxHeartbeats 4000000 in
theorem cM_J0_checkIndex_df160 {p : Program} {l : Launch} {e : Env} {s : State} {mth : MethodId} {args : Array Value} {below : List Frame} {meth : Method} {c : Code} {E : EE} {G : GG} {r9 : Unit} {m9 : MM} (C : Cx E G p s mth args meth c cJ0_checkIndex_df160 RJ0 "checkIndex" 2 none) {x0 : Int32} {x1 : Int32} {m : MM} (hM : M_J0_checkIndex_df160 G x0 x1 m = some (r9, m9))  : ∀ (H : Heap) (locs : List Loc), Hp E G m s H locs → ∀ ls : Array Slot, lv_has ls 2 [(0, .int x0), (1, .int x1)] → W p l e rmJ0_checkIndex_df160 s mth args below meth c H locs 0 0 (MQ below (cQv E G m9) args s 0 0 (fun q => E.2.2.1 ≤ q)) (F0 mth 0 ls []) := by
  intro H locs h ls hl
  unfold M_J0_checkIndex_df160 at hM
  refine lv_iload_n C.1 C.2.1 dJ0_checkIndex_df160_0 rfl (lv_at hl 0 rfl) ?_
  refine lv_iload_n C.1 C.2.1 dJ0_checkIndex_df160_1 rfl (lv_at hl 1 rfl) ?_
  refine h_fmt C h fl_J0_1053 dJ0_checkIndex_df160_2 (fun fm_1 => ?_)
  obtain ⟨r_2, m_3, hc_2, hM⟩ := bd_some hM
  refine h_callSi C h (As := [.int x0, .int x1, va_rf fm_1]) (rest := []) r_2 m_3 (c_J3_checkIndex_8e157 hc_2 ) st_yJ3_checkIndex_8e157 cy_J3_checkIndex_8e157 rfl ml_J0_1059 ⟨by decide, by decide⟩ ⟨Nat.zero_le _, Nat.zero_le _⟩ hl.1 rfl (Nat.le_of_ble_eq_true rfl) dJ0_checkIndex_df160_5 (fun H locs h => ?_)
  refine lv_pop C.1 C.2.1 dJ0_checkIndex_df160_8 rfl ?_
  obtain ⟨rfl, rfl⟩ := so_inj hM
  exact h_vret C h dJ0_checkIndex_df160_9
theorem cy_J0_checkIndex_df160 : Cy yJ0_checkIndex_df160 cJ0_checkIndex_df160 2 none 2 := ⟨cd_yJ0_checkIndex_df160, ii_J0, by decide, by decide, by decide +kernel⟩
set_option maxRecDepth 100000 in
theorem c_J0_checkIndex_df160 {l : Launch} {E : EE} {G : GG} {x0 : Int32} {x1 : Int32} {m m9 : MM} {r9 : Unit} (hM : M_J0_checkIndex_df160 G x0 x1 m = some (r9, m9))  : Mc l E yJ0_checkIndex_df160 cJ0_checkIndex_df160 2 none rmJ0_checkIndex_df160 [.int x0, .int x1] G m (cQv E G m9) := M_of (by decide) (Nat.le_of_ble_eq_true rfl) (fun p e s mth below meth c C h ls hl => cM_J0_checkIndex_df160 C hM  _ _ h ls hl)
abbrev rmJ1_charAt_3b067 : Room := { frames := 2, cells := 0, slots := 0, locals := 43 }
def M_J1_charAt_3b067 (G : GG) (x0 : Nat) (x1 : Int32) (m : MM) : Option (Int32 × MM) :=
  bd (M_J0_checkIndex_df160 G x1 (nI (lenS.getD x0 0)) m) fun _ m_2 =>
    ib x1 (lenS.getD x0 0) <|
      some ((((bytS.getD x0 []).getD x1.toNatClampNeg 0) &&& 255), m_2)
set_option maxRecDepth 100000 in
set_option maxHeartbeats 4000000 in
theorem cM_J1_charAt_3b067 {p : Program} {l : Launch} {e : Env} {s : State} {mth : MethodId} {args : Array Value} {below : List Frame} {meth : Method} {c : Code} {E : EE} {G : GG} {r9 : Int32} {m9 : MM} (C : Cx E G p s mth args meth c cJ1_charAt_3b067 RJ1 "charAt" 2 (some .char)) {x0 : Nat} {x1 : Int32} {m : MM} (hM : M_J1_charAt_3b067 G x0 x1 m = some (r9, m9)) (hsx0 : x0 < 10) : ∀ (H : Heap) (locs : List Loc), Hp E G m s H locs → ∀ ls : Array Slot, lv_has ls 2 [(0, .ref (E.2.2.2.2 x0)), (1, .int x1)] → W p l e rmJ1_charAt_3b067 s mth args below meth c H locs 0 0 (MQ below (cQi E (ch r9) G m9) args s 0 0 (fun q => E.2.2.1 ≤ q)) (F0 mth 0 ls []) := by
  intro H locs h ls hl
  unfold M_J1_charAt_3b067 at hM
  refine lv_iload_n C.1 C.2.1 dJ1_charAt_3b067_0 rfl (lv_at hl 1 rfl) ?_
  refine lv_aload_n C.1 C.2.1 dJ1_charAt_3b067_1 rfl (lv_at hl 0 rfl) ?_
  refine h_slen C h hsx0 dJ1_charAt_3b067_2 ?_
  obtain ⟨r_1, m_2, hc_1, hM⟩ := bd_some hM
  refine h_callSv C h (As := [.int x1, .int (nI (lenS.getD x0 0))]) (rest := []) m_2 (c_J0_checkIndex_df160 hc_1 ) st_yJ0_checkIndex_df160 cy_J0_checkIndex_df160 rfl ml_J1_9 ⟨by decide, by decide⟩ ⟨Nat.zero_le _, Nat.zero_le _⟩ hl.1 rfl (Nat.le_of_ble_eq_true rfl) dJ1_charAt_3b067_3 (fun H locs h => ?_)
  refine lv_aload_n C.1 C.2.1 dJ1_charAt_3b067_6 rfl (lv_at hl 0 rfl) ?_
  refine lv_iload_n C.1 C.2.1 dJ1_charAt_3b067_7 rfl (lv_at hl 1 rfl) ?_
  obtain ⟨hi, hM⟩ := ib_some hM
  refine h_sbald C h hsx0 hi dJ1_charAt_3b067_8 ?_
  refine lv_sipush (v := 255) C.1 C.2.1 dJ1_charAt_3b067_9 (by decide) ?_
  refine lv_iand C.1 C.2.1 dJ1_charAt_3b067_12 ?_
  refine lv_i2c (v := ch (((bytS.getD x0 []).getD x1.toNatClampNeg 0) &&& 255)) C.1 C.2.1 dJ1_charAt_3b067_13 rfl ?_
  obtain ⟨rfl, rfl⟩ := so_inj hM
  exact h_cret C h dJ1_charAt_3b067_14
theorem cy_J1_charAt_3b067 : Cy yJ1_charAt_3b067 cJ1_charAt_3b067 2 (some .char) 2 := ⟨cd_yJ1_charAt_3b067, ii_J1, by decide, by decide, by decide +kernel⟩
set_option maxRecDepth 100000 in
theorem c_J1_charAt_3b067 {l : Launch} {E : EE} {G : GG} {x0 : Nat} {x1 : Int32} {m m9 : MM} {r9 : Int32} (hM : M_J1_charAt_3b067 G x0 x1 m = some (r9, m9)) (hsx0 : x0 < 10) : Mc l E yJ1_charAt_3b067 cJ1_charAt_3b067 2 (some .char) rmJ1_charAt_3b067 [.ref (E.2.2.2.2 x0), .int x1] G m (cQi E (ch r9) G m9) := M_of (by decide) (Nat.le_of_ble_eq_true rfl) (fun p e s mth below meth c C h ls hl => cM_J1_charAt_3b067 C hM hsx0 _ _ h ls hl)
abbrev rmJ0_charAt_5068e : Room := { frames := 3, cells := 0, slots := 0, locals := 64 }
def M_J0_charAt_5068e (G : GG) (x0 : Nat) (x1 : Int32) (m : MM) : Option (Int32 × MM) :=
  bd (M_J0_isLatin1_aae02 G x0 m) fun r_1 m_2 =>
    if r_1 = true then
      bd (M_J1_charAt_3b067 G x0 x1 m_2) fun r_3 m_4 =>
        some (r_3, m_4)
    else
      none
set_option maxRecDepth 100000 in
set_option maxHeartbeats 4000000 in
theorem cM_J0_charAt_5068e {p : Program} {l : Launch} {e : Env} {s : State} {mth : MethodId} {args : Array Value} {below : List Frame} {meth : Method} {c : Code} {E : EE} {G : GG} {r9 : Int32} {m9 : MM} (C : Cx E G p s mth args meth c cJ0_charAt_5068e RJ0 "charAt" 2 (some .char)) {x0 : Nat} {x1 : Int32} {m : MM} (hM : M_J0_charAt_5068e G x0 x1 m = some (r9, m9)) (hsx0 : x0 < 10) : ∀ (H : Heap) (locs : List Loc), Hp E G m s H locs → ∀ ls : Array Slot, lv_has ls 2 [(0, .ref (E.2.2.2.1 x0)), (1, .int x1)] → W p l e rmJ0_charAt_5068e s mth args below meth c H locs 0 0 (MQ below (cQi E (ch r9) G m9) args s 0 0 (fun q => E.2.2.1 ≤ q)) (F0 mth 0 ls []) := by
  intro H locs h ls hl
  unfold M_J0_charAt_5068e at hM
  refine lv_aload_n C.1 C.2.1 dJ0_charAt_5068e_0 rfl (lv_at hl 0 rfl) ?_
  obtain ⟨r_1, m_2, hc_1, hM⟩ := bd_some hM
  refine h_callTi C h (As := []) (rest := []) (bz r_1) m_2 (c_J0_isLatin1_aae02 hc_1 hsx0) hsx0 im_yJ0_isLatin1_aae02 se_yJ0_isLatin1_aae02 cy_J0_isLatin1_aae02 rfl ml_J0_492 ⟨by decide, by decide⟩ ⟨Nat.zero_le _, Nat.zero_le _⟩ hl.1 rfl (Nat.le_of_ble_eq_true rfl) dJ0_charAt_5068e_1 (fun H locs h => ?_)
  refine h_ifz (tgt := 16) C.1 C.2.1 dJ0_charAt_5068e_4 (by decide) (fun q => ?_) (fun q => ?_)
  · have hM := ite_f q hM
    refine lv_aload_n C.1 C.2.1 dJ0_charAt_5068e_16 rfl (lv_at hl 0 rfl) ?_
    refine h_sval C h hsx0 fl_J0_9 dJ0_charAt_5068e_17 ?_
    refine lv_iload_n C.1 C.2.1 dJ0_charAt_5068e_20 rfl (lv_at hl 1 rfl) ?_
    cases hM
  · have hM := ite_t q hM
    refine lv_aload_n C.1 C.2.1 dJ0_charAt_5068e_7 rfl (lv_at hl 0 rfl) ?_
    refine h_sval C h hsx0 fl_J0_9 dJ0_charAt_5068e_8 ?_
    refine lv_iload_n C.1 C.2.1 dJ0_charAt_5068e_11 rfl (lv_at hl 1 rfl) ?_
    obtain ⟨r_3, m_4, hc_3, hM⟩ := bd_some hM
    refine h_callSi C h (As := [.ref (E.2.2.2.2 x0), .int x1]) (rest := []) (ch r_3) m_4 (c_J1_charAt_3b067 hc_3 hsx0) st_yJ1_charAt_3b067 cy_J1_charAt_3b067 rfl ml_J0_495 ⟨by decide, by decide⟩ ⟨Nat.zero_le _, Nat.zero_le _⟩ hl.1 rfl (Nat.le_of_ble_eq_true rfl) dJ0_charAt_5068e_12 (fun H locs h => ?_)
    obtain ⟨rfl, rfl⟩ := so_inj hM
    exact h_cret C h dJ0_charAt_5068e_15
theorem cy_J0_charAt_5068e : Cy yJ0_charAt_5068e cJ0_charAt_5068e 2 (some .char) 1 := ⟨cd_yJ0_charAt_5068e, ii_J0, by decide, by decide, by decide +kernel⟩
set_option maxRecDepth 100000 in
theorem c_J0_charAt_5068e {l : Launch} {E : EE} {G : GG} {x0 : Nat} {x1 : Int32} {m m9 : MM} {r9 : Int32} (hM : M_J0_charAt_5068e G x0 x1 m = some (r9, m9)) (hsx0 : x0 < 10) : Mc l E yJ0_charAt_5068e cJ0_charAt_5068e 2 (some .char) rmJ0_charAt_5068e [.ref (E.2.2.2.1 x0), .int x1] G m (cQi E (ch r9) G m9) := M_of (by decide) (Nat.le_of_ble_eq_true rfl) (fun p e s mth below meth c C h ls hl => cM_J0_charAt_5068e C hM hsx0 _ _ h ls hl)
abbrev rmJ1_canEncode_9a6ad : Room := { frames := 0, cells := 0, slots := 0, locals := 0 }
def M_J1_canEncode_9a6ad (G : GG) (x0 : Int32) (m : MM) : Option (Bool × MM) :=
  if x0 < 0 then
    some (false, m)
  else
    if 255 < x0 then
      some (false, m)
    else
      some (true, m)
set_option maxRecDepth 100000 in
set_option maxHeartbeats 4000000 in
theorem cM_J1_canEncode_9a6ad {p : Program} {l : Launch} {e : Env} {s : State} {mth : MethodId} {args : Array Value} {below : List Frame} {meth : Method} {c : Code} {E : EE} {G : GG} {r9 : Bool} {m9 : MM} (C : Cx E G p s mth args meth c cJ1_canEncode_9a6ad RJ1 "canEncode" 1 (some .boolean)) {x0 : Int32} {m : MM} (hM : M_J1_canEncode_9a6ad G x0 m = some (r9, m9))  : ∀ (H : Heap) (locs : List Loc), Hp E G m s H locs → ∀ ls : Array Slot, lv_has ls 1 [(0, .int x0)] → W p l e rmJ1_canEncode_9a6ad s mth args below meth c H locs 0 0 (MQ below (cQi E (bz r9) G m9) args s 0 0 (fun q => E.2.2.1 ≤ q)) (F0 mth 0 ls []) := by
  intro H locs h ls hl
  unfold M_J1_canEncode_9a6ad at hM
  refine lv_iload_n C.1 C.2.1 dJ1_canEncode_9a6ad_0 rfl (lv_at hl 0 rfl) ?_
  refine lv_if_lt (tgt := 15) C.1 C.2.1 dJ1_canEncode_9a6ad_1 (by decide) (fun q => ?_) (fun q => ?_)
  · have hM := ite_t q hM
    refine lv_iconst (v := 0) C.1 C.2.1 dJ1_canEncode_9a6ad_15 (by decide) ?_
    obtain ⟨rfl, rfl⟩ := so_inj hM
    exact h_zret C h (bz_ok _).1 dJ1_canEncode_9a6ad_16
  · have hM := ite_f q hM
    refine lv_iload_n C.1 C.2.1 dJ1_canEncode_9a6ad_4 rfl (lv_at hl 0 rfl) ?_
    refine lv_sipush (v := 255) C.1 C.2.1 dJ1_canEncode_9a6ad_5 (by decide) ?_
    refine lv_icmp_gt (tgt := 15) C.1 C.2.1 dJ1_canEncode_9a6ad_8 (by decide) (fun q => ?_) (fun q => ?_)
    · have hM := ite_t q hM
      refine lv_iconst (v := 0) C.1 C.2.1 dJ1_canEncode_9a6ad_15 (by decide) ?_
      obtain ⟨rfl, rfl⟩ := so_inj hM
      exact h_zret C h (bz_ok _).1 dJ1_canEncode_9a6ad_16
    · have hM := ite_f q hM
      refine lv_iconst (v := 1) C.1 C.2.1 dJ1_canEncode_9a6ad_11 (by decide) ?_
      refine lv_goto (tgt := 16) C.1 C.2.1 dJ1_canEncode_9a6ad_12 (by decide) ?_
      obtain ⟨rfl, rfl⟩ := so_inj hM
      exact h_zret C h (bz_ok _).1 dJ1_canEncode_9a6ad_16
theorem cy_J1_canEncode_9a6ad : Cy yJ1_canEncode_9a6ad cJ1_canEncode_9a6ad 1 (some .boolean) 1 := ⟨cd_yJ1_canEncode_9a6ad, ii_J1, by decide, by decide, by decide +kernel⟩
set_option maxRecDepth 100000 in
theorem c_J1_canEncode_9a6ad {l : Launch} {E : EE} {G : GG} {x0 : Int32} {m m9 : MM} {r9 : Bool} (hM : M_J1_canEncode_9a6ad G x0 m = some (r9, m9))  : Mc l E yJ1_canEncode_9a6ad cJ1_canEncode_9a6ad 1 (some .boolean) rmJ1_canEncode_9a6ad [.int x0] G m (cQi E (bz r9) G m9) := M_of (by decide) (Nat.le_of_ble_eq_true rfl) (fun p e s mth below meth c C h ls hl => cM_J1_canEncode_9a6ad C hM  _ _ h ls hl)
abbrev rmJ1_indexOfChar_4cfef : Room := { frames := 0, cells := 0, slots := 0, locals := 0 }
def B_J1_indexOfChar_4cfef_7 (G : GG) : Nat → Nat → Int32 → Int32 → Int32 → MM → Option (Int32 × MM)
  | 0, _, _, _, _, _ => none
  | fu + 1, x0, x3, x4, x5, m =>
    if x3 ≤ x5 then
      some ((-1), m)
    else
      ib x5 (lenS.getD x0 0) <|
        if ((bytS.getD x0 []).getD x5.toNatClampNeg 0) = x4 then
          some (x5, m)
        else
          B_J1_indexOfChar_4cfef_7 G fu x0 x3 x4 (x5 + 1) m
set_option maxRecDepth 100000 in
set_option maxHeartbeats 4000000 in
theorem cB_J1_indexOfChar_4cfef_7 {p : Program} {l : Launch} {e : Env} {s : State} {mth : MethodId} {args : Array Value} {below : List Frame} {meth : Method} {c : Code} {E : EE} {G : GG} {r9 : Int32} {m9 : MM} (C : Cx E G p s mth args meth c cJ1_indexOfChar_4cfef RJ1 "indexOfChar" 6 (some .int)) : ∀ (fu : Nat) (x0 : Nat) (x3 : Int32) (x4 : Int32) (x5 : Int32) (m : MM), B_J1_indexOfChar_4cfef_7 G fu x0 x3 x4 x5 m = some (r9, m9) → (x0 < 10) → ∀ (H : Heap) (locs : List Loc), Hp E G m s H locs → ∀ ls : Array Slot, lv_has ls 6 [(0, .ref (E.2.2.2.2 x0)), (3, .int x3), (4, .int x4), (5, .int x5)] → W p l e rmJ1_indexOfChar_4cfef s mth args below meth c H locs 0 0 (MQ below (cQi E r9 G m9) args s 0 0 (fun q => E.2.2.1 ≤ q)) (F0 mth 7 ls []) := by
  intro fu
  induction fu with
  | zero =>
    intro x0 x3 x4 x5 m hM
    rw [B_J1_indexOfChar_4cfef_7] at hM
    cases hM
  | succ fu ih =>
    intro x0 x3 x4 x5 m hM hsx0 H locs h ls hl
    rw [B_J1_indexOfChar_4cfef_7] at hM
    refine lv_iload C.1 C.2.1 dJ1_indexOfChar_4cfef_7 (lv_at hl 3 rfl) ?_
    refine lv_iload_n C.1 C.2.1 dJ1_indexOfChar_4cfef_9 rfl (lv_at hl 1 rfl) ?_
    refine lv_icmp_ge (tgt := 31) C.1 C.2.1 dJ1_indexOfChar_4cfef_10 (by decide) (fun q => ?_) (fun q => ?_)
    · have hM := ite_t q hM
      refine lv_iconst (v := (-1)) C.1 C.2.1 dJ1_indexOfChar_4cfef_31 (by decide) ?_
      obtain ⟨rfl, rfl⟩ := so_inj hM
      exact h_iret C h dJ1_indexOfChar_4cfef_32
    · have hM := ite_f q hM
      refine lv_aload_n C.1 C.2.1 dJ1_indexOfChar_4cfef_13 rfl (lv_at hl 0 rfl) ?_
      refine lv_iload C.1 C.2.1 dJ1_indexOfChar_4cfef_14 (lv_at hl 3 rfl) ?_
      obtain ⟨hi, hM⟩ := ib_some hM
      refine h_sbald C h hsx0 hi dJ1_indexOfChar_4cfef_16 ?_
      refine lv_iload C.1 C.2.1 dJ1_indexOfChar_4cfef_17 (lv_at hl 2 rfl) ?_
      refine lv_icmp_ne (tgt := 25) C.1 C.2.1 dJ1_indexOfChar_4cfef_19 (by decide) (fun q => ?_) (fun q => ?_)
      · have hM := ite_f q hM
        refine lv_iinc (v := x5 + 1) (lv' := [(5, .int (x5 + 1)), (0, .ref (E.2.2.2.2 x0)), (3, .int x3), (4, .int x4)]) C.1 C.2.1 dJ1_indexOfChar_4cfef_25 hl (k := 3) rfl rfl (by decide) rfl (fun ls hl => ?_)
        refine lv_goto (tgt := 7) C.1 C.2.1 dJ1_indexOfChar_4cfef_28 (by decide) ?_
        exact ih _ _ _ _ _ hM hsx0 _ _ h ls (lv_sub hl [1, 2, 3, 0] rfl)
      · have hM := ite_t q hM
        refine lv_iload C.1 C.2.1 dJ1_indexOfChar_4cfef_22 (lv_at hl 3 rfl) ?_
        obtain ⟨rfl, rfl⟩ := so_inj hM
        exact h_iret C h dJ1_indexOfChar_4cfef_24
def M_J1_indexOfChar_4cfef (G : GG) (x0 : Nat) (x1 : Int32) (x2 : Int32) (x3 : Int32) (m : MM) : Option (Int32 × MM) :=
  B_J1_indexOfChar_4cfef_7 G FU x0 x3 x1.toInt8.toInt32 x2 m
set_option maxRecDepth 100000 in
set_option maxHeartbeats 4000000 in
theorem cM_J1_indexOfChar_4cfef {p : Program} {l : Launch} {e : Env} {s : State} {mth : MethodId} {args : Array Value} {below : List Frame} {meth : Method} {c : Code} {E : EE} {G : GG} {r9 : Int32} {m9 : MM} (C : Cx E G p s mth args meth c cJ1_indexOfChar_4cfef RJ1 "indexOfChar" 6 (some .int)) {x0 : Nat} {x1 : Int32} {x2 : Int32} {x3 : Int32} {m : MM} (hM : M_J1_indexOfChar_4cfef G x0 x1 x2 x3 m = some (r9, m9)) (hsx0 : x0 < 10) : ∀ (H : Heap) (locs : List Loc), Hp E G m s H locs → ∀ ls : Array Slot, lv_has ls 6 [(0, .ref (E.2.2.2.2 x0)), (1, .int x1), (2, .int x2), (3, .int x3)] → W p l e rmJ1_indexOfChar_4cfef s mth args below meth c H locs 0 0 (MQ below (cQi E r9 G m9) args s 0 0 (fun q => E.2.2.1 ≤ q)) (F0 mth 0 ls []) := by
  intro H locs h ls hl
  unfold M_J1_indexOfChar_4cfef at hM
  refine lv_iload_n C.1 C.2.1 dJ1_indexOfChar_4cfef_0 rfl (lv_at hl 1 rfl) ?_
  refine lv_i2b (v := x1.toInt8.toInt32) C.1 C.2.1 dJ1_indexOfChar_4cfef_1 rfl ?_
  refine lv_istore (lv' := [(4, .int x1.toInt8.toInt32), (0, .ref (E.2.2.2.2 x0)), (1, .int x1), (2, .int x2), (3, .int x3)]) C.1 C.2.1 dJ1_indexOfChar_4cfef_2 hl (by decide) rfl (fun ls hl => ?_)
  refine lv_iload_n C.1 C.2.1 dJ1_indexOfChar_4cfef_4 rfl (lv_at hl 3 rfl) ?_
  refine lv_istore (lv' := [(5, .int x2), (4, .int x1.toInt8.toInt32), (0, .ref (E.2.2.2.2 x0)), (1, .int x1), (2, .int x2), (3, .int x3)]) C.1 C.2.1 dJ1_indexOfChar_4cfef_5 hl (by decide) rfl (fun ls hl => ?_)
  exact cB_J1_indexOfChar_4cfef_7 C _ _ _ _ _ _ hM hsx0 _ _ h ls (lv_sub hl [2, 5, 1, 0] rfl)
theorem cy_J1_indexOfChar_4cfef : Cy yJ1_indexOfChar_4cfef cJ1_indexOfChar_4cfef 6 (some .int) 4 := ⟨cd_yJ1_indexOfChar_4cfef, ii_J1, by decide, by decide, by decide +kernel⟩
set_option maxRecDepth 100000 in
theorem c_J1_indexOfChar_4cfef {l : Launch} {E : EE} {G : GG} {x0 : Nat} {x1 : Int32} {x2 : Int32} {x3 : Int32} {m m9 : MM} {r9 : Int32} (hM : M_J1_indexOfChar_4cfef G x0 x1 x2 x3 m = some (r9, m9)) (hsx0 : x0 < 10) : Mc l E yJ1_indexOfChar_4cfef cJ1_indexOfChar_4cfef 6 (some .int) rmJ1_indexOfChar_4cfef [.ref (E.2.2.2.2 x0), .int x1, .int x2, .int x3] G m (cQi E r9 G m9) := M_of (by decide) (Nat.le_of_ble_eq_true rfl) (fun p e s mth below meth c C h ls hl => cM_J1_indexOfChar_4cfef C hM hsx0 _ _ h ls hl)
abbrev rmJ1_indexOf_4cfef : Room := { frames := 2, cells := 0, slots := 0, locals := 53 }
def M_J1_indexOf_4cfef (G : GG) (x0 : Nat) (x1 : Int32) (x2 : Int32) (x3 : Int32) (m : MM) : Option (Int32 × MM) :=
  bd (M_J1_canEncode_9a6ad G x1 m) fun r_1 m_2 =>
    if r_1 = true then
      if (if x2 < 0 then 0 else x2) < (if (nI (lenS.getD x0 0)) < x3 then (nI (lenS.getD x0 0)) else x3) then
        bd (M_J1_indexOfChar_4cfef G x0 x1 (if x2 < 0 then 0 else x2) (if (nI (lenS.getD x0 0)) < x3 then (nI (lenS.getD x0 0)) else x3) m_2) fun r_3 m_4 =>
          some (r_3, m_4)
      else
        some ((-1), m_2)
    else
      some ((-1), m_2)
set_option maxRecDepth 100000 in
set_option maxHeartbeats 4000000 in
theorem cM_J1_indexOf_4cfef {p : Program} {l : Launch} {e : Env} {s : State} {mth : MethodId} {args : Array Value} {below : List Frame} {meth : Method} {c : Code} {E : EE} {G : GG} {r9 : Int32} {m9 : MM} (C : Cx E G p s mth args meth c cJ1_indexOf_4cfef RJ1 "indexOf" 4 (some .int)) {x0 : Nat} {x1 : Int32} {x2 : Int32} {x3 : Int32} {m : MM} (hM : M_J1_indexOf_4cfef G x0 x1 x2 x3 m = some (r9, m9)) (hsx0 : x0 < 10) : ∀ (H : Heap) (locs : List Loc), Hp E G m s H locs → ∀ ls : Array Slot, lv_has ls 4 [(0, .ref (E.2.2.2.2 x0)), (1, .int x1), (2, .int x2), (3, .int x3)] → W p l e rmJ1_indexOf_4cfef s mth args below meth c H locs 0 0 (MQ below (cQi E r9 G m9) args s 0 0 (fun q => E.2.2.1 ≤ q)) (F0 mth 0 ls []) := by
  intro H locs h ls hl
  unfold M_J1_indexOf_4cfef at hM
  refine lv_iload_n C.1 C.2.1 dJ1_indexOf_4cfef_0 rfl (lv_at hl 1 rfl) ?_
  obtain ⟨r_1, m_2, hc_1, hM⟩ := bd_some hM
  refine h_callSi C h (As := [.int x1]) (rest := []) (bz r_1) m_2 (c_J1_canEncode_9a6ad hc_1 ) st_yJ1_canEncode_9a6ad cy_J1_canEncode_9a6ad rfl ml_J1_88 ⟨by decide, by decide⟩ ⟨Nat.zero_le _, Nat.zero_le _⟩ hl.1 rfl (Nat.le_of_ble_eq_true rfl) dJ1_indexOf_4cfef_1 (fun H locs h => ?_)
  refine h_ifnz (tgt := 9) C.1 C.2.1 dJ1_indexOf_4cfef_4 (by decide) (fun q => ?_) (fun q => ?_)
  · have hM := ite_t q hM
    refine lv_iload_n C.1 C.2.1 dJ1_indexOf_4cfef_9 rfl (lv_at hl 2 rfl) ?_
    refine lv_iconst (v := 0) C.1 C.2.1 dJ1_indexOf_4cfef_10 (by decide) ?_
    refine va_mmax C.1 C.2.1 (C.2.2.1.trans hl.1.symm) C.2.2.2.1 (C.2.2.2.2.1 _ ml_J1_92) (C.2.2.2.2.1 _ st_max) (C.2.2.2.2.1 _ ii_Math) (C.2.2.2.2.1 _ cd_max) (by decide) (Nat.le_of_ble_eq_true rfl) (Nat.zero_le _) (Nat.zero_le _) dJ1_indexOf_4cfef_11 ?_
    refine lv_istore_n (lv' := [(2, .int (if x2 < 0 then 0 else x2)), (0, .ref (E.2.2.2.2 x0)), (1, .int x1), (3, .int x3)]) C.1 C.2.1 dJ1_indexOf_4cfef_14 rfl hl (by decide) rfl (fun ls hl => ?_)
    refine lv_iload_n C.1 C.2.1 dJ1_indexOf_4cfef_15 rfl (lv_at hl 3 rfl) ?_
    refine lv_aload_n C.1 C.2.1 dJ1_indexOf_4cfef_16 rfl (lv_at hl 1 rfl) ?_
    refine h_slen C h hsx0 dJ1_indexOf_4cfef_17 ?_
    refine va_mmin C.1 C.2.1 (C.2.2.1.trans hl.1.symm) C.2.2.2.1 (C.2.2.2.2.1 _ ml_J1_38) (C.2.2.2.2.1 _ st_min) (C.2.2.2.2.1 _ ii_Math) (C.2.2.2.2.1 _ cd_min) (by decide) (Nat.le_of_ble_eq_true rfl) (Nat.zero_le _) (Nat.zero_le _) dJ1_indexOf_4cfef_18 ?_
    refine lv_istore_n (lv' := [(3, .int (if (nI (lenS.getD x0 0)) < x3 then (nI (lenS.getD x0 0)) else x3)), (2, .int (if x2 < 0 then 0 else x2)), (0, .ref (E.2.2.2.2 x0)), (1, .int x1)]) C.1 C.2.1 dJ1_indexOf_4cfef_21 rfl hl (by decide) rfl (fun ls hl => ?_)
    refine lv_iload_n C.1 C.2.1 dJ1_indexOf_4cfef_22 rfl (lv_at hl 1 rfl) ?_
    refine lv_iload_n C.1 C.2.1 dJ1_indexOf_4cfef_23 rfl (lv_at hl 0 rfl) ?_
    refine lv_icmp_lt (tgt := 29) C.1 C.2.1 dJ1_indexOf_4cfef_24 (by decide) (fun q => ?_) (fun q => ?_)
    · have hM := ite_t q hM
      refine lv_aload_n C.1 C.2.1 dJ1_indexOf_4cfef_29 rfl (lv_at hl 2 rfl) ?_
      refine lv_iload_n C.1 C.2.1 dJ1_indexOf_4cfef_30 rfl (lv_at hl 3 rfl) ?_
      refine lv_iload_n C.1 C.2.1 dJ1_indexOf_4cfef_31 rfl (lv_at hl 1 rfl) ?_
      refine lv_iload_n C.1 C.2.1 dJ1_indexOf_4cfef_32 rfl (lv_at hl 0 rfl) ?_
      obtain ⟨r_3, m_4, hc_3, hM⟩ := bd_some hM
      refine h_callSi C h (As := [.ref (E.2.2.2.2 x0), .int x1, .int (if x2 < 0 then 0 else x2), .int (if (nI (lenS.getD x0 0)) < x3 then (nI (lenS.getD x0 0)) else x3)]) (rest := []) r_3 m_4 (c_J1_indexOfChar_4cfef hc_3 hsx0) st_yJ1_indexOfChar_4cfef cy_J1_indexOfChar_4cfef rfl ml_J1_95 ⟨by decide, by decide⟩ ⟨Nat.zero_le _, Nat.zero_le _⟩ hl.1 rfl (Nat.le_of_ble_eq_true rfl) dJ1_indexOf_4cfef_33 (fun H locs h => ?_)
      obtain ⟨rfl, rfl⟩ := so_inj hM
      exact h_iret C h dJ1_indexOf_4cfef_36
    · have hM := ite_f q hM
      refine lv_iconst (v := (-1)) C.1 C.2.1 dJ1_indexOf_4cfef_27 (by decide) ?_
      obtain ⟨rfl, rfl⟩ := so_inj hM
      exact h_iret C h dJ1_indexOf_4cfef_28
  · have hM := ite_f q hM
    refine lv_iconst (v := (-1)) C.1 C.2.1 dJ1_indexOf_4cfef_7 (by decide) ?_
    obtain ⟨rfl, rfl⟩ := so_inj hM
    exact h_iret C h dJ1_indexOf_4cfef_8
theorem cy_J1_indexOf_4cfef : Cy yJ1_indexOf_4cfef cJ1_indexOf_4cfef 4 (some .int) 4 := ⟨cd_yJ1_indexOf_4cfef, ii_J1, by decide, by decide, by decide +kernel⟩
set_option maxRecDepth 100000 in
theorem c_J1_indexOf_4cfef {l : Launch} {E : EE} {G : GG} {x0 : Nat} {x1 : Int32} {x2 : Int32} {x3 : Int32} {m m9 : MM} {r9 : Int32} (hM : M_J1_indexOf_4cfef G x0 x1 x2 x3 m = some (r9, m9)) (hsx0 : x0 < 10) : Mc l E yJ1_indexOf_4cfef cJ1_indexOf_4cfef 4 (some .int) rmJ1_indexOf_4cfef [.ref (E.2.2.2.2 x0), .int x1, .int x2, .int x3] G m (cQi E r9 G m9) := M_of (by decide) (Nat.le_of_ble_eq_true rfl) (fun p e s mth below meth c C h ls hl => cM_J1_indexOf_4cfef C hM hsx0 _ _ h ls hl)
abbrev rmJ0_indexOf_7cf53 : Room := { frames := 3, cells := 0, slots := 0, locals := 76 }
def M_J0_indexOf_7cf53 (G : GG) (x0 : Nat) (x1 : Int32) (x2 : Int32) (m : MM) : Option (Int32 × MM) :=
  bd (M_J0_isLatin1_aae02 G x0 m) fun r_1 m_2 =>
    if r_1 = true then
      bd (M_J0_length_8abf5 G x0 m_2) fun r_5 m_6 =>
        bd (M_J1_indexOf_4cfef G x0 x1 x2 r_5 m_6) fun r_7 m_8 =>
          some (r_7, m_8)
    else
      bd (M_J0_length_8abf5 G x0 m_2) fun r_3 m_4 =>
        none
set_option maxRecDepth 100000 in
set_option maxHeartbeats 4000000 in
theorem cM_J0_indexOf_7cf53 {p : Program} {l : Launch} {e : Env} {s : State} {mth : MethodId} {args : Array Value} {below : List Frame} {meth : Method} {c : Code} {E : EE} {G : GG} {r9 : Int32} {m9 : MM} (C : Cx E G p s mth args meth c cJ0_indexOf_7cf53 RJ0 "indexOf" 3 (some .int)) {x0 : Nat} {x1 : Int32} {x2 : Int32} {m : MM} (hM : M_J0_indexOf_7cf53 G x0 x1 x2 m = some (r9, m9)) (hsx0 : x0 < 10) : ∀ (H : Heap) (locs : List Loc), Hp E G m s H locs → ∀ ls : Array Slot, lv_has ls 3 [(0, .ref (E.2.2.2.1 x0)), (1, .int x1), (2, .int x2)] → W p l e rmJ0_indexOf_7cf53 s mth args below meth c H locs 0 0 (MQ below (cQi E r9 G m9) args s 0 0 (fun q => E.2.2.1 ≤ q)) (F0 mth 0 ls []) := by
  intro H locs h ls hl
  unfold M_J0_indexOf_7cf53 at hM
  refine lv_aload_n C.1 C.2.1 dJ0_indexOf_7cf53_0 rfl (lv_at hl 0 rfl) ?_
  obtain ⟨r_1, m_2, hc_1, hM⟩ := bd_some hM
  refine h_callTi C h (As := []) (rest := []) (bz r_1) m_2 (c_J0_isLatin1_aae02 hc_1 hsx0) hsx0 im_yJ0_isLatin1_aae02 se_yJ0_isLatin1_aae02 cy_J0_isLatin1_aae02 rfl ml_J0_492 ⟨by decide, by decide⟩ ⟨Nat.zero_le _, Nat.zero_le _⟩ hl.1 rfl (Nat.le_of_ble_eq_true rfl) dJ0_indexOf_7cf53_1 (fun H locs h => ?_)
  refine h_ifz (tgt := 23) C.1 C.2.1 dJ0_indexOf_7cf53_4 (by decide) (fun q => ?_) (fun q => ?_)
  · have hM := ite_f q hM
    refine lv_aload_n C.1 C.2.1 dJ0_indexOf_7cf53_23 rfl (lv_at hl 0 rfl) ?_
    refine h_sval C h hsx0 fl_J0_9 dJ0_indexOf_7cf53_24 ?_
    refine lv_iload_n C.1 C.2.1 dJ0_indexOf_7cf53_27 rfl (lv_at hl 1 rfl) ?_
    refine lv_iload_n C.1 C.2.1 dJ0_indexOf_7cf53_28 rfl (lv_at hl 2 rfl) ?_
    refine lv_aload_n C.1 C.2.1 dJ0_indexOf_7cf53_29 rfl (lv_at hl 0 rfl) ?_
    obtain ⟨r_3, m_4, hc_3, hM⟩ := bd_some hM
    refine h_callTi C h (As := []) (rest := [.int x2, .int x1, .ref (E.2.2.2.2 x0)]) r_3 m_4 (c_J0_length_8abf5 hc_3 hsx0) hsx0 im_yJ0_length_8abf5 se_yJ0_length_8abf5 cy_J0_length_8abf5 rfl ml_J0_505 ⟨by decide, by decide⟩ ⟨Nat.zero_le _, Nat.zero_le _⟩ hl.1 rfl (Nat.le_of_ble_eq_true rfl) dJ0_indexOf_7cf53_30 (fun H locs h => ?_)
    cases hM
  · have hM := ite_t q hM
    refine lv_aload_n C.1 C.2.1 dJ0_indexOf_7cf53_7 rfl (lv_at hl 0 rfl) ?_
    refine h_sval C h hsx0 fl_J0_9 dJ0_indexOf_7cf53_8 ?_
    refine lv_iload_n C.1 C.2.1 dJ0_indexOf_7cf53_11 rfl (lv_at hl 1 rfl) ?_
    refine lv_iload_n C.1 C.2.1 dJ0_indexOf_7cf53_12 rfl (lv_at hl 2 rfl) ?_
    refine lv_aload_n C.1 C.2.1 dJ0_indexOf_7cf53_13 rfl (lv_at hl 0 rfl) ?_
    obtain ⟨r_5, m_6, hc_5, hM⟩ := bd_some hM
    refine h_callTi C h (As := []) (rest := [.int x2, .int x1, .ref (E.2.2.2.2 x0)]) r_5 m_6 (c_J0_length_8abf5 hc_5 hsx0) hsx0 im_yJ0_length_8abf5 se_yJ0_length_8abf5 cy_J0_length_8abf5 rfl ml_J0_505 ⟨by decide, by decide⟩ ⟨Nat.zero_le _, Nat.zero_le _⟩ hl.1 rfl (Nat.le_of_ble_eq_true rfl) dJ0_indexOf_7cf53_14 (fun H locs h => ?_)
    obtain ⟨r_7, m_8, hc_7, hM⟩ := bd_some hM
    refine h_callSi C h (As := [.ref (E.2.2.2.2 x0), .int x1, .int x2, .int r_5]) (rest := []) r_7 m_8 (c_J1_indexOf_4cfef hc_7 hsx0) st_yJ1_indexOf_4cfef cy_J1_indexOf_4cfef rfl ml_J0_637 ⟨by decide, by decide⟩ ⟨Nat.zero_le _, Nat.zero_le _⟩ hl.1 rfl (Nat.le_of_ble_eq_true rfl) dJ0_indexOf_7cf53_17 (fun H locs h => ?_)
    refine lv_goto (tgt := 36) C.1 C.2.1 dJ0_indexOf_7cf53_20 (by decide) ?_
    obtain ⟨rfl, rfl⟩ := so_inj hM
    exact h_iret C h dJ0_indexOf_7cf53_36
theorem cy_J0_indexOf_7cf53 : Cy yJ0_indexOf_7cf53 cJ0_indexOf_7cf53 3 (some .int) 2 := ⟨cd_yJ0_indexOf_7cf53, ii_J0, by decide, by decide, by decide +kernel⟩
set_option maxRecDepth 100000 in
theorem c_J0_indexOf_7cf53 {l : Launch} {E : EE} {G : GG} {x0 : Nat} {x1 : Int32} {x2 : Int32} {m m9 : MM} {r9 : Int32} (hM : M_J0_indexOf_7cf53 G x0 x1 x2 m = some (r9, m9)) (hsx0 : x0 < 10) : Mc l E yJ0_indexOf_7cf53 cJ0_indexOf_7cf53 3 (some .int) rmJ0_indexOf_7cf53 [.ref (E.2.2.2.1 x0), .int x1, .int x2] G m (cQi E r9 G m9) := M_of (by decide) (Nat.le_of_ble_eq_true rfl) (fun p e s mth below meth c C h ls hl => cM_J0_indexOf_7cf53 C hM hsx0 _ _ h ls hl)
abbrev rmJ0_indexOf_0f7a4 : Room := { frames := 4, cells := 0, slots := 0, locals := 98 }
def M_J0_indexOf_0f7a4 (G : GG) (x0 : Nat) (x1 : Int32) (m : MM) : Option (Int32 × MM) :=
  bd (M_J0_indexOf_7cf53 G x0 x1 0 m) fun r_1 m_2 =>
    some (r_1, m_2)
set_option maxRecDepth 100000 in
set_option maxHeartbeats 4000000 in
theorem cM_J0_indexOf_0f7a4 {p : Program} {l : Launch} {e : Env} {s : State} {mth : MethodId} {args : Array Value} {below : List Frame} {meth : Method} {c : Code} {E : EE} {G : GG} {r9 : Int32} {m9 : MM} (C : Cx E G p s mth args meth c cJ0_indexOf_0f7a4 RJ0 "indexOf" 2 (some .int)) {x0 : Nat} {x1 : Int32} {m : MM} (hM : M_J0_indexOf_0f7a4 G x0 x1 m = some (r9, m9)) (hsx0 : x0 < 10) : ∀ (H : Heap) (locs : List Loc), Hp E G m s H locs → ∀ ls : Array Slot, lv_has ls 2 [(0, .ref (E.2.2.2.1 x0)), (1, .int x1)] → W p l e rmJ0_indexOf_0f7a4 s mth args below meth c H locs 0 0 (MQ below (cQi E r9 G m9) args s 0 0 (fun q => E.2.2.1 ≤ q)) (F0 mth 0 ls []) := by
  intro H locs h ls hl
  unfold M_J0_indexOf_0f7a4 at hM
  refine lv_aload_n C.1 C.2.1 dJ0_indexOf_0f7a4_0 rfl (lv_at hl 0 rfl) ?_
  refine lv_iload_n C.1 C.2.1 dJ0_indexOf_0f7a4_1 rfl (lv_at hl 1 rfl) ?_
  refine lv_iconst (v := 0) C.1 C.2.1 dJ0_indexOf_0f7a4_2 (by decide) ?_
  obtain ⟨r_1, m_2, hc_1, hM⟩ := bd_some hM
  refine h_callTi C h (As := [.int x1, .int 0]) (rest := []) r_1 m_2 (c_J0_indexOf_7cf53 hc_1 hsx0) hsx0 im_yJ0_indexOf_7cf53 se_yJ0_indexOf_7cf53 cy_J0_indexOf_7cf53 rfl ml_J0_633 ⟨by decide, by decide⟩ ⟨Nat.zero_le _, Nat.zero_le _⟩ hl.1 rfl (Nat.le_of_ble_eq_true rfl) dJ0_indexOf_0f7a4_3 (fun H locs h => ?_)
  obtain ⟨rfl, rfl⟩ := so_inj hM
  exact h_iret C h dJ0_indexOf_0f7a4_6
theorem cy_J0_indexOf_0f7a4 : Cy yJ0_indexOf_0f7a4 cJ0_indexOf_0f7a4 2 (some .int) 1 := ⟨cd_yJ0_indexOf_0f7a4, ii_J0, by decide, by decide, by decide +kernel⟩
set_option maxRecDepth 100000 in
theorem c_J0_indexOf_0f7a4 {l : Launch} {E : EE} {G : GG} {x0 : Nat} {x1 : Int32} {m m9 : MM} {r9 : Int32} (hM : M_J0_indexOf_0f7a4 G x0 x1 m = some (r9, m9)) (hsx0 : x0 < 10) : Mc l E yJ0_indexOf_0f7a4 cJ0_indexOf_0f7a4 2 (some .int) rmJ0_indexOf_0f7a4 [.ref (E.2.2.2.1 x0), .int x1] G m (cQi E r9 G m9) := M_of (by decide) (Nat.le_of_ble_eq_true rfl) (fun p e s mth below meth c C h ls hl => cM_J0_indexOf_0f7a4 C hM hsx0 _ _ h ls hl)
abbrev rmX8_spells : Room := { frames := 4, cells := 0, slots := 0, locals := 85 }
def B_X8_spells_13 (G : GG) : Nat → Nat → Int32 → Nat → Int32 → MM → Option (Bool × MM)
  | 0, _, _, _, _, _ => none
  | fu + 1, x0, x1, x3, x4, m =>
    bd (M_J0_length_8abf5 G x3 m) fun r_1 m_2 =>
      if r_1 ≤ x4 then
        some (true, m_2)
      else
        bd (M_X8_byteAt G x0 (x1 + x4) m_2) fun r_3 m_4 =>
          bd (M_J0_charAt_5068e G x3 x4 m_4) fun r_5 m_6 =>
            if r_3 = (ch r_5) then
              B_X8_spells_13 G fu x0 x1 x3 (x4 + 1) m_6
            else
              some (false, m_6)
set_option maxRecDepth 100000 in
set_option maxHeartbeats 4000000 in
theorem cB_X8_spells_13 {p : Program} {l : Launch} {e : Env} {s : State} {mth : MethodId} {args : Array Value} {below : List Frame} {meth : Method} {c : Code} {E : EE} {G : GG} {r9 : Bool} {m9 : MM} (C : Cx E G p s mth args meth c cX8_spells RX8 "spells" 5 (some .boolean)) : ∀ (fu : Nat) (x0 : Nat) (x1 : Int32) (x3 : Nat) (x4 : Int32) (m : MM), B_X8_spells_13 G fu x0 x1 x3 x4 m = some (r9, m9) → (Ty E G x0 8) → (x3 < 10) → ∀ (H : Heap) (locs : List Loc), Hp E G m s H locs → ∀ ls : Array Slot, lv_has ls 5 [(0, .ref x0), (1, .int x1), (3, .ref (E.2.2.2.1 x3)), (4, .int x4)] → W p l e rmX8_spells s mth args below meth c H locs 0 0 (MQ below (cQi E (bz r9) G m9) args s 0 0 (fun q => E.2.2.1 ≤ q)) (F0 mth 13 ls []) := by
  intro fu
  induction fu with
  | zero =>
    intro x0 x1 x3 x4 m hM
    rw [B_X8_spells_13] at hM
    cases hM
  | succ fu ih =>
    intro x0 x1 x3 x4 m hM tx0 hsx3 H locs h ls hl
    rw [B_X8_spells_13] at hM
    refine lv_iload C.1 C.2.1 dX8_spells_13 (lv_at hl 3 rfl) ?_
    refine lv_aload_n C.1 C.2.1 dX8_spells_15 rfl (lv_at hl 2 rfl) ?_
    obtain ⟨r_1, m_2, hc_1, hM⟩ := bd_some hM
    refine h_callTi C h (As := []) (rest := [.int x4]) r_1 m_2 (c_J0_length_8abf5 hc_1 hsx3) hsx3 im_yJ0_length_8abf5 se_yJ0_length_8abf5 cy_J0_length_8abf5 rfl ml_X8_33 ⟨by decide, by decide⟩ ⟨Nat.zero_le _, Nat.zero_le _⟩ hl.1 rfl (Nat.le_of_ble_eq_true rfl) dX8_spells_16 (fun H locs h => ?_)
    refine lv_icmp_ge (tgt := 47) C.1 C.2.1 dX8_spells_19 (by decide) (fun q => ?_) (fun q => ?_)
    · have hM := ite_t q hM
      refine lv_iconst (v := 1) C.1 C.2.1 dX8_spells_47 (by decide) ?_
      obtain ⟨rfl, rfl⟩ := so_inj hM
      exact h_zret C h (bz_ok _).1 dX8_spells_48
    · have hM := ite_f q hM
      refine lv_aload_n C.1 C.2.1 dX8_spells_22 rfl (lv_at hl 0 rfl) ?_
      refine lv_iload_n C.1 C.2.1 dX8_spells_23 rfl (lv_at hl 1 rfl) ?_
      refine lv_iload C.1 C.2.1 dX8_spells_24 (lv_at hl 3 rfl) ?_
      refine lv_iadd C.1 C.2.1 dX8_spells_26 ?_
      obtain ⟨r_3, m_4, hc_3, hM⟩ := bd_some hM
      refine h_callVi C h (As := [.int (x1 + x4)]) (rest := []) r_3 m_4 (c_X8_byteAt hc_3 tx0) 8 rfl (by decide) tx0 im_yX8_byteAt se_yX8_byteAt cy_X8_byteAt rfl ml_X8_19 ⟨by decide, by decide⟩ ⟨Nat.zero_le _, Nat.zero_le _⟩ hl.1 rfl (Nat.le_of_ble_eq_true rfl) dX8_spells_27 (fun H locs h => ?_)
      refine lv_aload_n C.1 C.2.1 dX8_spells_30 rfl (lv_at hl 2 rfl) ?_
      refine lv_iload C.1 C.2.1 dX8_spells_31 (lv_at hl 3 rfl) ?_
      obtain ⟨r_5, m_6, hc_5, hM⟩ := bd_some hM
      refine h_callTi C h (As := [.int x4]) (rest := [.int r_3]) (ch r_5) m_6 (c_J0_charAt_5068e hc_5 hsx3) hsx3 im_yJ0_charAt_5068e se_yJ0_charAt_5068e cy_J0_charAt_5068e rfl ml_X8_38 ⟨by decide, by decide⟩ ⟨Nat.zero_le _, Nat.zero_le _⟩ hl.1 rfl (Nat.le_of_ble_eq_true rfl) dX8_spells_33 (fun H locs h => ?_)
      refine lv_icmp_eq (tgt := 41) C.1 C.2.1 dX8_spells_36 (by decide) (fun q => ?_) (fun q => ?_)
      · have hM := ite_t q hM
        refine lv_iinc (v := x4 + 1) (lv' := [(4, .int (x4 + 1)), (0, .ref x0), (1, .int x1), (3, .ref (E.2.2.2.1 x3))]) C.1 C.2.1 dX8_spells_41 hl (k := 3) rfl rfl (by decide) rfl (fun ls hl => ?_)
        refine lv_goto (tgt := 13) C.1 C.2.1 dX8_spells_44 (by decide) ?_
        exact ih _ _ _ _ _ hM tx0 hsx3 _ _ h ls (lv_sub hl [1, 2, 3, 0] rfl)
      · have hM := ite_f q hM
        refine lv_iconst (v := 0) C.1 C.2.1 dX8_spells_39 (by decide) ?_
        obtain ⟨rfl, rfl⟩ := so_inj hM
        exact h_zret C h (bz_ok _).1 dX8_spells_40
def M_X8_spells (G : GG) (x0 : Nat) (x1 : Int32) (x2 : Int32) (x3 : Nat) (m : MM) : Option (Bool × MM) :=
  bd (M_J0_length_8abf5 G x3 m) fun r_7 m_8 =>
    if x2 = r_7 then
      B_X8_spells_13 G FU x0 x1 x3 0 m_8
    else
      some (false, m_8)
set_option maxRecDepth 100000 in
set_option maxHeartbeats 4000000 in
theorem cM_X8_spells {p : Program} {l : Launch} {e : Env} {s : State} {mth : MethodId} {args : Array Value} {below : List Frame} {meth : Method} {c : Code} {E : EE} {G : GG} {r9 : Bool} {m9 : MM} (C : Cx E G p s mth args meth c cX8_spells RX8 "spells" 5 (some .boolean)) {x0 : Nat} {x1 : Int32} {x2 : Int32} {x3 : Nat} {m : MM} (hM : M_X8_spells G x0 x1 x2 x3 m = some (r9, m9)) (tx0 : Ty E G x0 8) (hsx3 : x3 < 10) : ∀ (H : Heap) (locs : List Loc), Hp E G m s H locs → ∀ ls : Array Slot, lv_has ls 5 [(0, .ref x0), (1, .int x1), (2, .int x2), (3, .ref (E.2.2.2.1 x3))] → W p l e rmX8_spells s mth args below meth c H locs 0 0 (MQ below (cQi E (bz r9) G m9) args s 0 0 (fun q => E.2.2.1 ≤ q)) (F0 mth 0 ls []) := by
  intro H locs h ls hl
  unfold M_X8_spells at hM
  refine lv_iload_n C.1 C.2.1 dX8_spells_0 rfl (lv_at hl 2 rfl) ?_
  refine lv_aload_n C.1 C.2.1 dX8_spells_1 rfl (lv_at hl 3 rfl) ?_
  obtain ⟨r_7, m_8, hc_7, hM⟩ := bd_some hM
  refine h_callTi C h (As := []) (rest := [.int x2]) r_7 m_8 (c_J0_length_8abf5 hc_7 hsx3) hsx3 im_yJ0_length_8abf5 se_yJ0_length_8abf5 cy_J0_length_8abf5 rfl ml_X8_33 ⟨by decide, by decide⟩ ⟨Nat.zero_le _, Nat.zero_le _⟩ hl.1 rfl (Nat.le_of_ble_eq_true rfl) dX8_spells_2 (fun H locs h => ?_)
  refine lv_icmp_eq (tgt := 10) C.1 C.2.1 dX8_spells_5 (by decide) (fun q => ?_) (fun q => ?_)
  · have hM := ite_t q hM
    refine lv_iconst (v := 0) C.1 C.2.1 dX8_spells_10 (by decide) ?_
    refine lv_istore (lv' := [(4, .int 0), (0, .ref x0), (1, .int x1), (2, .int x2), (3, .ref (E.2.2.2.1 x3))]) C.1 C.2.1 dX8_spells_11 hl (by decide) rfl (fun ls hl => ?_)
    exact cB_X8_spells_13 C _ _ _ _ _ _ hM tx0 hsx3 _ _ h ls (lv_sub hl [1, 2, 4, 0] rfl)
  · have hM := ite_f q hM
    refine lv_iconst (v := 0) C.1 C.2.1 dX8_spells_8 (by decide) ?_
    obtain ⟨rfl, rfl⟩ := so_inj hM
    exact h_zret C h (bz_ok _).1 dX8_spells_9
theorem cy_X8_spells : Cy yX8_spells cX8_spells 5 (some .boolean) 3 := ⟨cd_yX8_spells, ii_X8, by decide, by decide, by decide +kernel⟩
set_option maxRecDepth 100000 in
theorem c_X8_spells {l : Launch} {E : EE} {G : GG} {x0 : Nat} {x1 : Int32} {x2 : Int32} {x3 : Nat} {m m9 : MM} {r9 : Bool} (hM : M_X8_spells G x0 x1 x2 x3 m = some (r9, m9)) (tx0 : Ty E G x0 8) (hsx3 : x3 < 10) : Mc l E yX8_spells cX8_spells 5 (some .boolean) rmX8_spells [.ref x0, .int x1, .int x2, .ref (E.2.2.2.1 x3)] G m (cQi E (bz r9) G m9) := M_of (by decide) (Nat.le_of_ble_eq_true rfl) (fun p e s mth below meth c C h ls hl => cM_X8_spells C hM tx0 hsx3 _ _ h ls hl)
