/-! THE CLAIM OUT OF ONE WALK OF THE LAW'S BODY. Your part is whole_start (and what it stands on); all else here is the same for every law, but numbers. -/
def R_law : String := "EnumRulesLaw"
def lw_P (b : Addr) (xs : List Int32) (args : Array Value) (s : State) : Prop := args = #[.ref b] ∧ s.IntsAt b xs ∧ xs.length ≤ 3072 ∧ (Jvm.Cond.and given_1 narrow_1).before args s = true
def lw_Q (_ : Array Value) (s : State) (o : Outcome) (t : State) : Prop := o = .returned (some (.int 1)) ∧ Framed s o t [] 600000 7302250
def lw_Z (below : List Frame) (a : Array Value) (s : State) : State → Prop := fun t => ∃ o, t.status = .running ∧ Ended t below o ∧ lw_Q a s o t
/-- the law's own end, with 1 on the stack, nothing written that was there before, its room as the claim has it -/
theorem lw_ret {p : Program} {l : Launch} {e : Env} {s : State} {m : MethodId} {below : List Frame} {meth : Method} {c : Code} {b : Nat} (hx : p.tables.exec = Jvm.exec) (hb : c.code = code) (hr : meth.sig.returnType = ret) (hlocks : meth.locks = false) {pc : Nat} {H : Heap} {ls : Array Slot} (hdg : decode code pc = .ok (.ireturn, 1)) : W p l e room_1 s m #[Value.ref b] below meth c H [] 600000 7302250 (lw_Z below #[Value.ref b] s) (F0 m pc ls [.int 1]) := by
  intro T hT X
  obtain ⟨fs, hret, hrun, hended, hW, hframe⟩ := X.leave (v := some (.int 1)) (hlocks := hlocks) (fun h => by rw [hr] at h; cases h)
  have hmeth' : T.vm.method? m = some meth := X.method'
  refine ⟨T.setFrames fs, ?_, .returned (some (.int 1)), hrun, hended, rfl, ⟨_, rfl⟩, hW, hframe⟩
  jvm_step X.here [X.here.top, hx, hb, hdg, hmeth', hr, ret, narrow_b1]
  (try refine ⟨rfl, ?_⟩); (try refine ⟨rfl, ?_⟩)
  first | (intro acts; rw [hret _ acts rfl rfl rfl]) | rw [hret _ _ rfl rfl rfl]
  exact Steps.refl _
/-- what holds at the law's entry: the machine, the code, the tables' words (any of lw_tbl by 'hts w (by decide +kernel)'), the script of L ints xs at the cell b, what the Statement gives of the start (any of its parts by flat_of_before) -/
def lw_At (p : Program) (s : State) (m : MethodId) (meth : Method) (c : Code) (b L : Nat) (xs : Nat → Int32) : Prop :=
  p.tables.exec = Jvm.exec ∧ c.code = code ∧ meth.sig.returnType = ret ∧ c.maxLocals = 4 ∧ s.vm.findClass R_law = some m.cls ∧ (∀ w ∈ lw_tbl, w.before #[Value.ref b] s = true) ∧ va_X b L xs s s.heap ∧ b < s.heap.size ∧ meth.locks = false ∧ (Jvm.Cond.and given_1 narrow_1).before #[Value.ref b] s = true
def Lx (E : EE) (s : State) (b L : Nat) (xs : Nat → Int32) : Prop := va_X b L xs s s.heap ∧ b < s.heap.size ∧ E.2.2.1 = s.heap.size
section LawRows
variable {p : Program} {l : Launch} {e : Env} {R : Room} {s : State} {mth : MethodId} {args : Array Value} {below : List Frame} {meth : Method} {c : Code} {H : Heap} {locs : List Loc} {cells slots : Nat} {Q : State → Prop} {E : EE} {G : GG} {m : MM} {cc : ByteArray} {own nm : String} {nL : Nat} {ret : Option FieldType} {pc : Nat} {ls : Array Slot} {rest : List Value} {b L : Nat} {xs : Nat → Int32}
theorem h_scl (C : Cx E G p s mth args meth c cc own nm nL ret) (X : Lx E s b L xs) (h : Hp E G m s H locs) (hdg : decode cc pc = .ok (.arraylength, 1)) (kk : W p l e R s mth args below meth c H locs cells slots Q (F0 mth (pc + 1) ls (.int (nI L) :: rest))) : W p l e R s mth args below meth c H locs cells slots Q (F0 mth pc ls (.ref b :: rest)) :=
  va_slen C.1 C.2.1 X.1 X.2.1 (by rw [X.2.2]; exact Nat.not_le.mpr X.2.1) h.2.2 hdg kk
theorem h_scd (C : Cx E G p s mth args meth c cc own nm nL ret) (X : Lx E s b L xs) (h : Hp E G m s H locs) {i : Int32} (hin : vp_in i L) (hdg : decode cc pc = .ok (.iaload, 1)) (kk : W p l e R s mth args below meth c H locs cells slots Q (F0 mth (pc + 1) ls (.int (xs i.toNatClampNeg) :: rest))) : W p l e R s mth args below meth c H locs cells slots Q (F0 mth pc ls (.int i :: .ref b :: rest)) :=
  va_sld C.1 C.2.1 X.1 X.2.1 (by rw [X.2.2]; exact Nat.not_le.mpr X.2.1) h.2.2 hin hdg kk
theorem h_lawend (C : Cx E G p s mth #[Value.ref b] meth c cL_law own nm nL (some .boolean)) (X : Lx E s b L xs) (h : Hp E G m s H locs) (hdg : decode cL_law pc = .ok (.ireturn, 1)) : W p l e room_1 s mth #[Value.ref b] below meth c H locs 269 68749 (lw_Z below #[Value.ref b] s) (F0 mth pc ls [.int 1]) := by
  obtain ⟨hx, hb, hml, hown, hts, hr, hlk, -⟩ := C
  refine va_forget (fun q hq => by rw [← X.2.2]; exact h.2.2.2.2 q hq) ?_
  refine W.widen (k := 600000) (n := 7302250) (by decide) (by decide) ?_
  exact lw_ret hx hb hr hlk hdg
end LawRows
def B_L_law_18 (G : GG) (xs : Nat → Int32) (L : Nat) : Nat → Nat → Nat → Int32 → MM → Option (Bool × MM)
  | 0, _, _, _, _ => none
  | fu + 1, x1, x2, x3, m =>
    if ((nI L) - 6) < x3 then
      some (true, m)
    else
      ib x3 L <|
        if ((xs x3.toNatClampNeg) &&& 31) = 0 then
          ib (x3 + 1) L <|
            ib (x3 + 2) L <|
              ib (x3 + 3) L <|
                ib (x3 + 4) L <|
                  ib (x3 + 5) L <|
                    bd (M_X10_feed G x1 (xs (x3 + 1).toNatClampNeg) (xs (x3 + 2).toNatClampNeg) (xs (x3 + 3).toNatClampNeg) (xs (x3 + 4).toNatClampNeg) (xs (x3 + 5).toNatClampNeg) m) fun r_1 m_2 =>
                      ib (x3 + 1) L <|
                        ib (x3 + 2) L <|
                          ib (x3 + 3) L <|
                            ib (x3 + 4) L <|
                              ib (x3 + 5) L <|
                                bd (M_X11_feed G x2 (xs (x3 + 1).toNatClampNeg) (xs (x3 + 2).toNatClampNeg) (xs (x3 + 3).toNatClampNeg) (xs (x3 + 4).toNatClampNeg) (xs (x3 + 5).toNatClampNeg) m_2) fun r_3 m_4 =>
                                  if r_1 = r_3 then
                                    B_L_law_18 G xs L fu x1 x2 (x3 + 6) m_4
                                  else
                                    some (false, m_4)
        else
          if ((xs x3.toNatClampNeg) &&& 31) = 1 then
            ib (x3 + 1) L <|
              bd (M_X10_end G x1 (xs (x3 + 1).toNatClampNeg) m) fun r_5 m_6 =>
                ib (x3 + 1) L <|
                  bd (M_X11_end G x2 (xs (x3 + 1).toNatClampNeg) m_6) fun r_7 m_8 =>
                    if r_5 = r_7 then
                      B_L_law_18 G xs L fu x1 x2 (x3 + 6) m_8
                    else
                      some (false, m_8)
          else
            if ((xs x3.toNatClampNeg) &&& 31) = 2 then
              bd (M_X10_load G x1 m) fun r_9 m_10 =>
                bd (M_X11_load G x2 m_10) fun r_11 m_12 =>
                  if r_9 = r_11 then
                    B_L_law_18 G xs L fu x1 x2 (x3 + 6) m_12
                  else
                    some (false, m_12)
            else
              if ((xs x3.toNatClampNeg) &&& 31) = 3 then
                ib (x3 + 1) L <|
                  bd (M_X10_fault G x1 (xs (x3 + 1).toNatClampNeg) m) fun r_13 m_14 =>
                    ib (x3 + 1) L <|
                      bd (M_X11_fault G x2 (xs (x3 + 1).toNatClampNeg) m_14) fun r_15 m_16 =>
                        if r_13 = r_15 then
                          B_L_law_18 G xs L fu x1 x2 (x3 + 6) m_16
                        else
                          some (false, m_16)
              else
                if ((xs x3.toNatClampNeg) &&& 31) = 4 then
                  bd (M_X10_cause G x1 m) fun r_17 m_18 =>
                    bd (M_X11_cause G x2 m_18) fun r_19 m_20 =>
                      if r_17 = r_19 then
                        B_L_law_18 G xs L fu x1 x2 (x3 + 6) m_20
                      else
                        some (false, m_20)
                else
                  if ((xs x3.toNatClampNeg) &&& 31) = 5 then
                    ib (x3 + 1) L <|
                      ib (x3 + 2) L <|
                        bd (M_X10_told G x1 (xs (x3 + 1).toNatClampNeg) (xs (x3 + 2).toNatClampNeg) m) fun r_21 m_22 =>
                          ib (x3 + 1) L <|
                            ib (x3 + 2) L <|
                              bd (M_X11_told G x2 (xs (x3 + 1).toNatClampNeg) (xs (x3 + 2).toNatClampNeg) m_22) fun r_23 m_24 =>
                                if r_21 = r_23 then
                                  B_L_law_18 G xs L fu x1 x2 (x3 + 6) m_24
                                else
                                  some (false, m_24)
                  else
                    if ((xs x3.toNatClampNeg) &&& 31) = 6 then
                      ib (x3 + 1) L <|
                        ib (x3 + 2) L <|
                          bd (M_X10_hasBody G x1 (xs (x3 + 1).toNatClampNeg) (xs (x3 + 2).toNatClampNeg) m) fun r_25 m_26 =>
                            ib (x3 + 1) L <|
                              ib (x3 + 2) L <|
                                bd (M_X11_hasBody G x2 (xs (x3 + 1).toNatClampNeg) (xs (x3 + 2).toNatClampNeg) m_26) fun r_27 m_28 =>
                                  if r_25 = r_27 then
                                    B_L_law_18 G xs L fu x1 x2 (x3 + 6) m_28
                                  else
                                    some (false, m_28)
                    else
                      if ((xs x3.toNatClampNeg) &&& 31) = 7 then
                        ib (x3 + 1) L <|
                          ib (x3 + 2) L <|
                            bd (M_X10_value G x1 (xs (x3 + 1).toNatClampNeg) (xs (x3 + 2).toNatClampNeg) m) fun r_29 m_30 =>
                              ib (x3 + 1) L <|
                                ib (x3 + 2) L <|
                                  bd (M_X11_value G x2 (xs (x3 + 1).toNatClampNeg) (xs (x3 + 2).toNatClampNeg) m_30) fun r_31 m_32 =>
                                    if r_29 = r_31 then
                                      B_L_law_18 G xs L fu x1 x2 (x3 + 6) m_32
                                    else
                                      some (false, m_32)
                      else
                        if ((xs x3.toNatClampNeg) &&& 31) = 8 then
                          ib (x3 + 1) L <|
                            ib (x3 + 2) L <|
                              ib (x3 + 3) L <|
                                bd (M_X10_call G x1 (xs (x3 + 1).toNatClampNeg) (xs (x3 + 2).toNatClampNeg) (xs (x3 + 3).toNatClampNeg) m) fun r_33 m_34 =>
                                  ib (x3 + 1) L <|
                                    ib (x3 + 2) L <|
                                      ib (x3 + 3) L <|
                                        bd (M_X11_call G x2 (xs (x3 + 1).toNatClampNeg) (xs (x3 + 2).toNatClampNeg) (xs (x3 + 3).toNatClampNeg) m_34) fun r_35 m_36 =>
                                          if r_33 = r_35 then
                                            B_L_law_18 G xs L fu x1 x2 (x3 + 6) m_36
                                          else
                                            some (false, m_36)
                        else
                          if ((xs x3.toNatClampNeg) &&& 31) = 9 then
                            ib (x3 + 1) L <|
                              ib (x3 + 2) L <|
                                bd (M_X10_field G x1 (xs (x3 + 1).toNatClampNeg) (xs (x3 + 2).toNatClampNeg) m) fun r_37 m_38 =>
                                  ib (x3 + 1) L <|
                                    ib (x3 + 2) L <|
                                      bd (M_X11_field G x2 (xs (x3 + 1).toNatClampNeg) (xs (x3 + 2).toNatClampNeg) m_38) fun r_39 m_40 =>
                                        if r_37 = r_39 then
                                          B_L_law_18 G xs L fu x1 x2 (x3 + 6) m_40
                                        else
                                          some (false, m_40)
                          else
                            if ((xs x3.toNatClampNeg) &&& 31) = 10 then
                              ib (x3 + 1) L <|
                                ib (x3 + 2) L <|
                                  ib (x3 + 3) L <|
                                    ib (x3 + 4) L <|
                                      bd (M_X10_compare G x1 (xs (x3 + 1).toNatClampNeg) (xs (x3 + 2).toNatClampNeg) (xs (x3 + 3).toNatClampNeg) (xs (x3 + 4).toNatClampNeg) m) fun r_41 m_42 =>
                                        ib (x3 + 1) L <|
                                          ib (x3 + 2) L <|
                                            ib (x3 + 3) L <|
                                              ib (x3 + 4) L <|
                                                bd (M_X11_compare G x2 (xs (x3 + 1).toNatClampNeg) (xs (x3 + 2).toNatClampNeg) (xs (x3 + 3).toNatClampNeg) (xs (x3 + 4).toNatClampNeg) m_42) fun r_43 m_44 =>
                                                  if r_41 = r_43 then
                                                    B_L_law_18 G xs L fu x1 x2 (x3 + 6) m_44
                                                  else
                                                    some (false, m_44)
                            else
                              if ((xs x3.toNatClampNeg) &&& 31) = 11 then
                                ib (x3 + 1) L <|
                                  bd (M_X10_values G x1 (xs (x3 + 1).toNatClampNeg) m) fun r_45 m_46 =>
                                    ib (x3 + 1) L <|
                                      bd (M_X11_values G x2 (xs (x3 + 1).toNatClampNeg) m_46) fun r_47 m_48 =>
                                        if r_45 = r_47 then
                                          B_L_law_18 G xs L fu x1 x2 (x3 + 6) m_48
                                        else
                                          some (false, m_48)
                              else
                                if ((xs x3.toNatClampNeg) &&& 31) = 12 then
                                  ib (x3 + 1) L <|
                                    ib (x3 + 2) L <|
                                      bd (M_X10_swap G x1 (xs (x3 + 1).toNatClampNeg) (xs (x3 + 2).toNatClampNeg) m) fun r_49 m_50 =>
                                        ib (x3 + 1) L <|
                                          ib (x3 + 2) L <|
                                            bd (M_X11_swap G x2 (xs (x3 + 1).toNatClampNeg) (xs (x3 + 2).toNatClampNeg) m_50) fun r_51 m_52 =>
                                              if r_49 = r_51 then
                                                B_L_law_18 G xs L fu x1 x2 (x3 + 6) m_52
                                              else
                                                some (false, m_52)
                                else
                                  if ((xs x3.toNatClampNeg) &&& 31) = 13 then
                                    ib (x3 + 1) L <|
                                      bd (M_X10_hand G x1 (xs (x3 + 1).toNatClampNeg) m) fun r_53 m_54 =>
                                        ib (x3 + 1) L <|
                                          bd (M_X11_hand G x2 (xs (x3 + 1).toNatClampNeg) m_54) fun r_55 m_56 =>
                                            if r_53 = r_55 then
                                              B_L_law_18 G xs L fu x1 x2 (x3 + 6) m_56
                                            else
                                              some (false, m_56)
                                  else
                                    if ((xs x3.toNatClampNeg) &&& 31) = 14 then
                                      ib (x3 + 1) L <|
                                        bd (M_X10_named G x1 (xs (x3 + 1).toNatClampNeg) m) fun r_57 m_58 =>
                                          ib (x3 + 1) L <|
                                            bd (M_X11_named G x2 (xs (x3 + 1).toNatClampNeg) m_58) fun r_59 m_60 =>
                                              if r_57 = r_59 then
                                                B_L_law_18 G xs L fu x1 x2 (x3 + 6) m_60
                                              else
                                                some (false, m_60)
                                    else
                                      if ((xs x3.toNatClampNeg) &&& 31) = 15 then
                                        ib (x3 + 1) L <|
                                          bd (M_X10_trace G x1 (xs (x3 + 1).toNatClampNeg) m) fun r_61 m_62 =>
                                            ib (x3 + 1) L <|
                                              bd (M_X11_trace G x2 (xs (x3 + 1).toNatClampNeg) m_62) fun r_63 m_64 =>
                                                if r_61 = r_63 then
                                                  B_L_law_18 G xs L fu x1 x2 (x3 + 6) m_64
                                                else
                                                  some (false, m_64)
                                      else
                                        if ((xs x3.toNatClampNeg) &&& 31) = 16 then
                                          ib (x3 + 1) L <|
                                            bd (M_X10_count G x1 (xs (x3 + 1).toNatClampNeg) m) fun r_65 m_66 =>
                                              ib (x3 + 1) L <|
                                                bd (M_X11_count G x2 (xs (x3 + 1).toNatClampNeg) m_66) fun r_67 m_68 =>
                                                  if r_65 = r_67 then
                                                    B_L_law_18 G xs L fu x1 x2 (x3 + 6) m_68
                                                  else
                                                    some (false, m_68)
                                        else
                                          if ((xs x3.toNatClampNeg) &&& 31) = 17 then
                                            bd (M_X10_clear G x1 m) fun r_69 m_70 =>
                                              bd (M_X11_clear G x2 m_70) fun r_71 m_72 =>
                                                if r_69 = r_71 then
                                                  B_L_law_18 G xs L fu x1 x2 (x3 + 6) m_72
                                                else
                                                  some (false, m_72)
                                          else
                                            B_L_law_18 G xs L fu x1 x2 (x3 + 6) m
set_option maxRecDepth 100000 in
set_option maxHeartbeats 4000000 in
theorem cB_L_law_18 {p : Program} {l : Launch} {e : Env} {s : State} {mth : MethodId} {below : List Frame} {meth : Method} {c : Code} {E : EE} {G : GG} {b L : Nat} {xs : Nat → Int32} {nm9 : String} {m9 : MM} (X : Lx E s b L xs) (C : Cx E G p s mth #[Value.ref b] meth c cL_law RL nm9 4 (some .boolean)) : ∀ (fu : Nat) (x1 : Nat) (x2 : Nat) (x3 : Int32) (m : MM), B_L_law_18 G xs L fu x1 x2 x3 m = some (true, m9) → (Ty E G x1 10) → (Ty E G x2 11) → ∀ (H : Heap) (locs : List Loc), Hp E G m s H locs → ∀ ls : Array Slot, lv_has ls 4 [(0, .ref b), (1, .ref x1), (2, .ref x2), (3, .int x3)] → W p l e room_1 s mth #[Value.ref b] below meth c H locs 269 68749 (lw_Z below #[Value.ref b] s) (F0 mth 18 ls []) := by
  intro fu
  induction fu with
  | zero =>
    intro x1 x2 x3 m hM
    rw [B_L_law_18] at hM
    cases hM
  | succ fu ih =>
    intro x1 x2 x3 m hM tx1 tx2 H locs h ls hl
    rw [B_L_law_18] at hM
    refine lv_iload_n C.1 C.2.1 dL_law_18 rfl (lv_at hl 3 rfl) ?_
    refine lv_aload_n C.1 C.2.1 dL_law_19 rfl (lv_at hl 0 rfl) ?_
    refine h_scl C X h dL_law_20 ?_
    refine lv_bipush (v := 6) C.1 C.2.1 dL_law_21 (by decide) ?_
    refine lv_isub C.1 C.2.1 dL_law_23 ?_
    refine lv_icmp_gt (tgt := 650) C.1 C.2.1 dL_law_24 (by decide) (fun q => ?_) (fun q => ?_)
    · have hM := ite_t q hM
      refine lv_iconst (v := 1) C.1 C.2.1 dL_law_650 (by decide) ?_
      exact h_lawend C X h dL_law_651
    · have hM := ite_f q hM
      refine lv_aload_n C.1 C.2.1 dL_law_27 rfl (lv_at hl 0 rfl) ?_
      refine lv_iload_n C.1 C.2.1 dL_law_28 rfl (lv_at hl 3 rfl) ?_
      obtain ⟨hi, hM⟩ := ib_some hM
      refine h_scd C X h hi dL_law_29 ?_
      refine lv_bipush (v := 31) C.1 C.2.1 dL_law_30 (by decide) ?_
      refine lv_iand C.1 C.2.1 dL_law_32 ?_
      by_cases q0 : ((xs x3.toNatClampNeg) &&& 31) = 0
      · have hM := ite_t q0 hM
        refine h_tabIn q0 (tgt := 120) C.1 C.2.1 dL_law_33 (by decide) (by decide) rfl (by decide) ?_
        refine lv_aload_n C.1 C.2.1 dL_law_120 rfl (lv_at hl 1 rfl) ?_
        refine lv_aload_n C.1 C.2.1 dL_law_121 rfl (lv_at hl 0 rfl) ?_
        refine lv_iload_n C.1 C.2.1 dL_law_122 rfl (lv_at hl 3 rfl) ?_
        refine lv_iconst (v := 1) C.1 C.2.1 dL_law_123 (by decide) ?_
        refine lv_iadd C.1 C.2.1 dL_law_124 ?_
        obtain ⟨hi, hM⟩ := ib_some hM
        refine h_scd C X h hi dL_law_125 ?_
        refine lv_aload_n C.1 C.2.1 dL_law_126 rfl (lv_at hl 0 rfl) ?_
        refine lv_iload_n C.1 C.2.1 dL_law_127 rfl (lv_at hl 3 rfl) ?_
        refine lv_iconst (v := 2) C.1 C.2.1 dL_law_128 (by decide) ?_
        refine lv_iadd C.1 C.2.1 dL_law_129 ?_
        obtain ⟨hi, hM⟩ := ib_some hM
        refine h_scd C X h hi dL_law_130 ?_
        refine lv_aload_n C.1 C.2.1 dL_law_131 rfl (lv_at hl 0 rfl) ?_
        refine lv_iload_n C.1 C.2.1 dL_law_132 rfl (lv_at hl 3 rfl) ?_
        refine lv_iconst (v := 3) C.1 C.2.1 dL_law_133 (by decide) ?_
        refine lv_iadd C.1 C.2.1 dL_law_134 ?_
        obtain ⟨hi, hM⟩ := ib_some hM
        refine h_scd C X h hi dL_law_135 ?_
        refine lv_aload_n C.1 C.2.1 dL_law_136 rfl (lv_at hl 0 rfl) ?_
        refine lv_iload_n C.1 C.2.1 dL_law_137 rfl (lv_at hl 3 rfl) ?_
        refine lv_iconst (v := 4) C.1 C.2.1 dL_law_138 (by decide) ?_
        refine lv_iadd C.1 C.2.1 dL_law_139 ?_
        obtain ⟨hi, hM⟩ := ib_some hM
        refine h_scd C X h hi dL_law_140 ?_
        refine lv_aload_n C.1 C.2.1 dL_law_141 rfl (lv_at hl 0 rfl) ?_
        refine lv_iload_n C.1 C.2.1 dL_law_142 rfl (lv_at hl 3 rfl) ?_
        refine lv_iconst (v := 5) C.1 C.2.1 dL_law_143 (by decide) ?_
        refine lv_iadd C.1 C.2.1 dL_law_144 ?_
        obtain ⟨hi, hM⟩ := ib_some hM
        refine h_scd C X h hi dL_law_145 ?_
        obtain ⟨r_1, m_2, hc_1, hM⟩ := bd_some hM
        refine h_callVi C h (As := [.int (xs (x3 + 1).toNatClampNeg), .int (xs (x3 + 2).toNatClampNeg), .int (xs (x3 + 3).toNatClampNeg), .int (xs (x3 + 4).toNatClampNeg), .int (xs (x3 + 5).toNatClampNeg)]) (rest := []) r_1 m_2 (c_X10_feed hc_1 tx1) 10 rfl (by decide) tx1 im_yX10_feed se_yX10_feed cy_X10_feed rfl ml_L_13 ⟨by decide, by decide⟩ ⟨by decide, by decide⟩ hl.1 rfl (Nat.le_of_ble_eq_true rfl) dL_law_146 (fun H locs h => ?_)
        refine lv_aload_n C.1 C.2.1 dL_law_149 rfl (lv_at hl 2 rfl) ?_
        refine lv_aload_n C.1 C.2.1 dL_law_150 rfl (lv_at hl 0 rfl) ?_
        refine lv_iload_n C.1 C.2.1 dL_law_151 rfl (lv_at hl 3 rfl) ?_
        refine lv_iconst (v := 1) C.1 C.2.1 dL_law_152 (by decide) ?_
        refine lv_iadd C.1 C.2.1 dL_law_153 ?_
        obtain ⟨hi, hM⟩ := ib_some hM
        refine h_scd C X h hi dL_law_154 ?_
        refine lv_aload_n C.1 C.2.1 dL_law_155 rfl (lv_at hl 0 rfl) ?_
        refine lv_iload_n C.1 C.2.1 dL_law_156 rfl (lv_at hl 3 rfl) ?_
        refine lv_iconst (v := 2) C.1 C.2.1 dL_law_157 (by decide) ?_
        refine lv_iadd C.1 C.2.1 dL_law_158 ?_
        obtain ⟨hi, hM⟩ := ib_some hM
        refine h_scd C X h hi dL_law_159 ?_
        refine lv_aload_n C.1 C.2.1 dL_law_160 rfl (lv_at hl 0 rfl) ?_
        refine lv_iload_n C.1 C.2.1 dL_law_161 rfl (lv_at hl 3 rfl) ?_
        refine lv_iconst (v := 3) C.1 C.2.1 dL_law_162 (by decide) ?_
        refine lv_iadd C.1 C.2.1 dL_law_163 ?_
        obtain ⟨hi, hM⟩ := ib_some hM
        refine h_scd C X h hi dL_law_164 ?_
        refine lv_aload_n C.1 C.2.1 dL_law_165 rfl (lv_at hl 0 rfl) ?_
        refine lv_iload_n C.1 C.2.1 dL_law_166 rfl (lv_at hl 3 rfl) ?_
        refine lv_iconst (v := 4) C.1 C.2.1 dL_law_167 (by decide) ?_
        refine lv_iadd C.1 C.2.1 dL_law_168 ?_
        obtain ⟨hi, hM⟩ := ib_some hM
        refine h_scd C X h hi dL_law_169 ?_
        refine lv_aload_n C.1 C.2.1 dL_law_170 rfl (lv_at hl 0 rfl) ?_
        refine lv_iload_n C.1 C.2.1 dL_law_171 rfl (lv_at hl 3 rfl) ?_
        refine lv_iconst (v := 5) C.1 C.2.1 dL_law_172 (by decide) ?_
        refine lv_iadd C.1 C.2.1 dL_law_173 ?_
        obtain ⟨hi, hM⟩ := ib_some hM
        refine h_scd C X h hi dL_law_174 ?_
        obtain ⟨r_3, m_4, hc_3, hM⟩ := bd_some hM
        refine h_callVi C h (As := [.int (xs (x3 + 1).toNatClampNeg), .int (xs (x3 + 2).toNatClampNeg), .int (xs (x3 + 3).toNatClampNeg), .int (xs (x3 + 4).toNatClampNeg), .int (xs (x3 + 5).toNatClampNeg)]) (rest := [.int r_1]) r_3 m_4 (c_X11_feed hc_3 tx2) 11 rfl (by decide) tx2 im_yX11_feed se_yX11_feed cy_X11_feed rfl ml_L_17 ⟨by decide, by decide⟩ ⟨by decide, by decide⟩ hl.1 rfl (Nat.le_of_ble_eq_true rfl) dL_law_175 (fun H locs h => ?_)
        refine lv_icmp_eq (tgt := 644) C.1 C.2.1 dL_law_178 (by decide) (fun q => ?_) (fun q => ?_)
        · have hM := ite_t q hM
          refine lv_iinc (v := x3 + 6) (lv' := [(3, .int (x3 + 6)), (0, .ref b), (1, .ref x1), (2, .ref x2)]) C.1 C.2.1 dL_law_644 hl (k := 3) rfl rfl (by decide) rfl (fun ls hl => ?_)
          refine lv_goto (tgt := 18) C.1 C.2.1 dL_law_647 (by decide) ?_
          exact ih _ _ _ _ hM tx1 tx2 _ _ h ls (lv_sub hl [1, 2, 3, 0] rfl)
        · have hM := ite_f q hM
          refine lv_iconst (v := 0) C.1 C.2.1 dL_law_181 (by decide) ?_
          exact absurd (so_inj hM).1 (by decide)
      · have hM := ite_f q0 hM
        by_cases q1 : ((xs x3.toNatClampNeg) &&& 31) = 1
        · have hM := ite_t q1 hM
          refine h_tabIn q1 (tgt := 183) C.1 C.2.1 dL_law_33 (by decide) (by decide) rfl (by decide) ?_
          refine lv_aload_n C.1 C.2.1 dL_law_183 rfl (lv_at hl 1 rfl) ?_
          refine lv_aload_n C.1 C.2.1 dL_law_184 rfl (lv_at hl 0 rfl) ?_
          refine lv_iload_n C.1 C.2.1 dL_law_185 rfl (lv_at hl 3 rfl) ?_
          refine lv_iconst (v := 1) C.1 C.2.1 dL_law_186 (by decide) ?_
          refine lv_iadd C.1 C.2.1 dL_law_187 ?_
          obtain ⟨hi, hM⟩ := ib_some hM
          refine h_scd C X h hi dL_law_188 ?_
          obtain ⟨r_5, m_6, hc_5, hM⟩ := bd_some hM
          refine h_callVi C h (As := [.int (xs (x3 + 1).toNatClampNeg)]) (rest := []) r_5 m_6 (c_X10_end hc_5 tx1) 10 rfl (by decide) tx1 im_yX10_end se_yX10_end cy_X10_end rfl ml_L_18 ⟨by decide, by decide⟩ ⟨by decide, by decide⟩ hl.1 rfl (Nat.le_of_ble_eq_true rfl) dL_law_189 (fun H locs h => ?_)
          refine lv_aload_n C.1 C.2.1 dL_law_192 rfl (lv_at hl 2 rfl) ?_
          refine lv_aload_n C.1 C.2.1 dL_law_193 rfl (lv_at hl 0 rfl) ?_
          refine lv_iload_n C.1 C.2.1 dL_law_194 rfl (lv_at hl 3 rfl) ?_
          refine lv_iconst (v := 1) C.1 C.2.1 dL_law_195 (by decide) ?_
          refine lv_iadd C.1 C.2.1 dL_law_196 ?_
          obtain ⟨hi, hM⟩ := ib_some hM
          refine h_scd C X h hi dL_law_197 ?_
          obtain ⟨r_7, m_8, hc_7, hM⟩ := bd_some hM
          refine h_callVi C h (As := [.int (xs (x3 + 1).toNatClampNeg)]) (rest := [.int r_5]) r_7 m_8 (c_X11_end hc_7 tx2) 11 rfl (by decide) tx2 im_yX11_end se_yX11_end cy_X11_end rfl ml_L_22 ⟨by decide, by decide⟩ ⟨by decide, by decide⟩ hl.1 rfl (Nat.le_of_ble_eq_true rfl) dL_law_198 (fun H locs h => ?_)
          refine lv_icmp_eq (tgt := 644) C.1 C.2.1 dL_law_201 (by decide) (fun q => ?_) (fun q => ?_)
          · have hM := ite_t q hM
            refine lv_iinc (v := x3 + 6) (lv' := [(3, .int (x3 + 6)), (0, .ref b), (1, .ref x1), (2, .ref x2)]) C.1 C.2.1 dL_law_644 hl (k := 3) rfl rfl (by decide) rfl (fun ls hl => ?_)
            refine lv_goto (tgt := 18) C.1 C.2.1 dL_law_647 (by decide) ?_
            exact ih _ _ _ _ hM tx1 tx2 _ _ h ls (lv_sub hl [1, 2, 3, 0] rfl)
          · have hM := ite_f q hM
            refine lv_iconst (v := 0) C.1 C.2.1 dL_law_204 (by decide) ?_
            exact absurd (so_inj hM).1 (by decide)
        · have hM := ite_f q1 hM
          by_cases q2 : ((xs x3.toNatClampNeg) &&& 31) = 2
          · have hM := ite_t q2 hM
            refine h_tabIn q2 (tgt := 206) C.1 C.2.1 dL_law_33 (by decide) (by decide) rfl (by decide) ?_
            refine lv_aload_n C.1 C.2.1 dL_law_206 rfl (lv_at hl 1 rfl) ?_
            obtain ⟨r_9, m_10, hc_9, hM⟩ := bd_some hM
            refine h_callVi C h (As := []) (rest := []) r_9 m_10 (c_X10_load hc_9 tx1) 10 rfl (by decide) tx1 im_yX10_load se_yX10_load cy_X10_load rfl ml_L_23 ⟨by decide, by decide⟩ ⟨by decide, by decide⟩ hl.1 rfl (Nat.le_of_ble_eq_true rfl) dL_law_207 (fun H locs h => ?_)
            refine lv_aload_n C.1 C.2.1 dL_law_210 rfl (lv_at hl 2 rfl) ?_
            obtain ⟨r_11, m_12, hc_11, hM⟩ := bd_some hM
            refine h_callVi C h (As := []) (rest := [.int r_9]) r_11 m_12 (c_X11_load hc_11 tx2) 11 rfl (by decide) tx2 im_yX11_load se_yX11_load cy_X11_load rfl ml_L_27 ⟨by decide, by decide⟩ ⟨by decide, by decide⟩ hl.1 rfl (Nat.le_of_ble_eq_true rfl) dL_law_211 (fun H locs h => ?_)
            refine lv_icmp_eq (tgt := 644) C.1 C.2.1 dL_law_214 (by decide) (fun q => ?_) (fun q => ?_)
            · have hM := ite_t q hM
              refine lv_iinc (v := x3 + 6) (lv' := [(3, .int (x3 + 6)), (0, .ref b), (1, .ref x1), (2, .ref x2)]) C.1 C.2.1 dL_law_644 hl (k := 3) rfl rfl (by decide) rfl (fun ls hl => ?_)
              refine lv_goto (tgt := 18) C.1 C.2.1 dL_law_647 (by decide) ?_
              exact ih _ _ _ _ hM tx1 tx2 _ _ h ls (lv_sub hl [1, 2, 3, 0] rfl)
            · have hM := ite_f q hM
              refine lv_iconst (v := 0) C.1 C.2.1 dL_law_217 (by decide) ?_
              exact absurd (so_inj hM).1 (by decide)
          · have hM := ite_f q2 hM
            by_cases q3 : ((xs x3.toNatClampNeg) &&& 31) = 3
            · have hM := ite_t q3 hM
              refine h_tabIn q3 (tgt := 219) C.1 C.2.1 dL_law_33 (by decide) (by decide) rfl (by decide) ?_
              refine lv_aload_n C.1 C.2.1 dL_law_219 rfl (lv_at hl 1 rfl) ?_
              refine lv_aload_n C.1 C.2.1 dL_law_220 rfl (lv_at hl 0 rfl) ?_
              refine lv_iload_n C.1 C.2.1 dL_law_221 rfl (lv_at hl 3 rfl) ?_
              refine lv_iconst (v := 1) C.1 C.2.1 dL_law_222 (by decide) ?_
              refine lv_iadd C.1 C.2.1 dL_law_223 ?_
              obtain ⟨hi, hM⟩ := ib_some hM
              refine h_scd C X h hi dL_law_224 ?_
              obtain ⟨r_13, m_14, hc_13, hM⟩ := bd_some hM
              refine h_callVi C h (As := [.int (xs (x3 + 1).toNatClampNeg)]) (rest := []) r_13 m_14 (c_X10_fault hc_13 tx1) 10 rfl (by decide) tx1 im_yX10_fault se_yX10_fault cy_X10_fault rfl ml_L_28 ⟨by decide, by decide⟩ ⟨by decide, by decide⟩ hl.1 rfl (Nat.le_of_ble_eq_true rfl) dL_law_225 (fun H locs h => ?_)
              refine lv_aload_n C.1 C.2.1 dL_law_228 rfl (lv_at hl 2 rfl) ?_
              refine lv_aload_n C.1 C.2.1 dL_law_229 rfl (lv_at hl 0 rfl) ?_
              refine lv_iload_n C.1 C.2.1 dL_law_230 rfl (lv_at hl 3 rfl) ?_
              refine lv_iconst (v := 1) C.1 C.2.1 dL_law_231 (by decide) ?_
              refine lv_iadd C.1 C.2.1 dL_law_232 ?_
              obtain ⟨hi, hM⟩ := ib_some hM
              refine h_scd C X h hi dL_law_233 ?_
              obtain ⟨r_15, m_16, hc_15, hM⟩ := bd_some hM
              refine h_callVi C h (As := [.int (xs (x3 + 1).toNatClampNeg)]) (rest := [.int r_13]) r_15 m_16 (c_X11_fault hc_15 tx2) 11 rfl (by decide) tx2 im_yX11_fault se_yX11_fault cy_X11_fault rfl ml_L_31 ⟨by decide, by decide⟩ ⟨by decide, by decide⟩ hl.1 rfl (Nat.le_of_ble_eq_true rfl) dL_law_234 (fun H locs h => ?_)
              refine lv_icmp_eq (tgt := 644) C.1 C.2.1 dL_law_237 (by decide) (fun q => ?_) (fun q => ?_)
              · have hM := ite_t q hM
                refine lv_iinc (v := x3 + 6) (lv' := [(3, .int (x3 + 6)), (0, .ref b), (1, .ref x1), (2, .ref x2)]) C.1 C.2.1 dL_law_644 hl (k := 3) rfl rfl (by decide) rfl (fun ls hl => ?_)
                refine lv_goto (tgt := 18) C.1 C.2.1 dL_law_647 (by decide) ?_
                exact ih _ _ _ _ hM tx1 tx2 _ _ h ls (lv_sub hl [1, 2, 3, 0] rfl)
              · have hM := ite_f q hM
                refine lv_iconst (v := 0) C.1 C.2.1 dL_law_240 (by decide) ?_
                exact absurd (so_inj hM).1 (by decide)
            · have hM := ite_f q3 hM
              by_cases q4 : ((xs x3.toNatClampNeg) &&& 31) = 4
              · have hM := ite_t q4 hM
                refine h_tabIn q4 (tgt := 242) C.1 C.2.1 dL_law_33 (by decide) (by decide) rfl (by decide) ?_
                refine lv_aload_n C.1 C.2.1 dL_law_242 rfl (lv_at hl 1 rfl) ?_
                obtain ⟨r_17, m_18, hc_17, hM⟩ := bd_some hM
                refine h_callVi C h (As := []) (rest := []) r_17 m_18 (c_X10_cause hc_17 tx1) 10 rfl (by decide) tx1 im_yX10_cause se_yX10_cause cy_X10_cause rfl ml_L_32 ⟨by decide, by decide⟩ ⟨by decide, by decide⟩ hl.1 rfl (Nat.le_of_ble_eq_true rfl) dL_law_243 (fun H locs h => ?_)
                refine lv_aload_n C.1 C.2.1 dL_law_246 rfl (lv_at hl 2 rfl) ?_
                obtain ⟨r_19, m_20, hc_19, hM⟩ := bd_some hM
                refine h_callVi C h (As := []) (rest := [.int r_17]) r_19 m_20 (c_X11_cause hc_19 tx2) 11 rfl (by decide) tx2 im_yX11_cause se_yX11_cause cy_X11_cause rfl ml_L_35 ⟨by decide, by decide⟩ ⟨by decide, by decide⟩ hl.1 rfl (Nat.le_of_ble_eq_true rfl) dL_law_247 (fun H locs h => ?_)
                refine lv_icmp_eq (tgt := 644) C.1 C.2.1 dL_law_250 (by decide) (fun q => ?_) (fun q => ?_)
                · have hM := ite_t q hM
                  refine lv_iinc (v := x3 + 6) (lv' := [(3, .int (x3 + 6)), (0, .ref b), (1, .ref x1), (2, .ref x2)]) C.1 C.2.1 dL_law_644 hl (k := 3) rfl rfl (by decide) rfl (fun ls hl => ?_)
                  refine lv_goto (tgt := 18) C.1 C.2.1 dL_law_647 (by decide) ?_
                  exact ih _ _ _ _ hM tx1 tx2 _ _ h ls (lv_sub hl [1, 2, 3, 0] rfl)
                · have hM := ite_f q hM
                  refine lv_iconst (v := 0) C.1 C.2.1 dL_law_253 (by decide) ?_
                  exact absurd (so_inj hM).1 (by decide)
              · have hM := ite_f q4 hM
                by_cases q5 : ((xs x3.toNatClampNeg) &&& 31) = 5
                · have hM := ite_t q5 hM
                  refine h_tabIn q5 (tgt := 255) C.1 C.2.1 dL_law_33 (by decide) (by decide) rfl (by decide) ?_
                  refine lv_aload_n C.1 C.2.1 dL_law_255 rfl (lv_at hl 1 rfl) ?_
                  refine lv_aload_n C.1 C.2.1 dL_law_256 rfl (lv_at hl 0 rfl) ?_
                  refine lv_iload_n C.1 C.2.1 dL_law_257 rfl (lv_at hl 3 rfl) ?_
                  refine lv_iconst (v := 1) C.1 C.2.1 dL_law_258 (by decide) ?_
                  refine lv_iadd C.1 C.2.1 dL_law_259 ?_
                  obtain ⟨hi, hM⟩ := ib_some hM
                  refine h_scd C X h hi dL_law_260 ?_
                  refine lv_aload_n C.1 C.2.1 dL_law_261 rfl (lv_at hl 0 rfl) ?_
                  refine lv_iload_n C.1 C.2.1 dL_law_262 rfl (lv_at hl 3 rfl) ?_
                  refine lv_iconst (v := 2) C.1 C.2.1 dL_law_263 (by decide) ?_
                  refine lv_iadd C.1 C.2.1 dL_law_264 ?_
                  obtain ⟨hi, hM⟩ := ib_some hM
                  refine h_scd C X h hi dL_law_265 ?_
                  obtain ⟨r_21, m_22, hc_21, hM⟩ := bd_some hM
                  refine h_callVi C h (As := [.int (xs (x3 + 1).toNatClampNeg), .int (xs (x3 + 2).toNatClampNeg)]) (rest := []) r_21 m_22 (c_X10_told hc_21 tx1) 10 rfl (by decide) tx1 im_yX10_told se_yX10_told cy_X10_told rfl ml_L_36 ⟨by decide, by decide⟩ ⟨by decide, by decide⟩ hl.1 rfl (Nat.le_of_ble_eq_true rfl) dL_law_266 (fun H locs h => ?_)
                  refine lv_aload_n C.1 C.2.1 dL_law_269 rfl (lv_at hl 2 rfl) ?_
                  refine lv_aload_n C.1 C.2.1 dL_law_270 rfl (lv_at hl 0 rfl) ?_
                  refine lv_iload_n C.1 C.2.1 dL_law_271 rfl (lv_at hl 3 rfl) ?_
                  refine lv_iconst (v := 1) C.1 C.2.1 dL_law_272 (by decide) ?_
                  refine lv_iadd C.1 C.2.1 dL_law_273 ?_
                  obtain ⟨hi, hM⟩ := ib_some hM
                  refine h_scd C X h hi dL_law_274 ?_
                  refine lv_aload_n C.1 C.2.1 dL_law_275 rfl (lv_at hl 0 rfl) ?_
                  refine lv_iload_n C.1 C.2.1 dL_law_276 rfl (lv_at hl 3 rfl) ?_
                  refine lv_iconst (v := 2) C.1 C.2.1 dL_law_277 (by decide) ?_
                  refine lv_iadd C.1 C.2.1 dL_law_278 ?_
                  obtain ⟨hi, hM⟩ := ib_some hM
                  refine h_scd C X h hi dL_law_279 ?_
                  obtain ⟨r_23, m_24, hc_23, hM⟩ := bd_some hM
                  refine h_callVi C h (As := [.int (xs (x3 + 1).toNatClampNeg), .int (xs (x3 + 2).toNatClampNeg)]) (rest := [.int r_21]) r_23 m_24 (c_X11_told hc_23 tx2) 11 rfl (by decide) tx2 im_yX11_told se_yX11_told cy_X11_told rfl ml_L_40 ⟨by decide, by decide⟩ ⟨by decide, by decide⟩ hl.1 rfl (Nat.le_of_ble_eq_true rfl) dL_law_280 (fun H locs h => ?_)
                  refine lv_icmp_eq (tgt := 644) C.1 C.2.1 dL_law_283 (by decide) (fun q => ?_) (fun q => ?_)
                  · have hM := ite_t q hM
                    refine lv_iinc (v := x3 + 6) (lv' := [(3, .int (x3 + 6)), (0, .ref b), (1, .ref x1), (2, .ref x2)]) C.1 C.2.1 dL_law_644 hl (k := 3) rfl rfl (by decide) rfl (fun ls hl => ?_)
                    refine lv_goto (tgt := 18) C.1 C.2.1 dL_law_647 (by decide) ?_
                    exact ih _ _ _ _ hM tx1 tx2 _ _ h ls (lv_sub hl [1, 2, 3, 0] rfl)
                  · have hM := ite_f q hM
                    refine lv_iconst (v := 0) C.1 C.2.1 dL_law_286 (by decide) ?_
                    exact absurd (so_inj hM).1 (by decide)
                · have hM := ite_f q5 hM
                  by_cases q6 : ((xs x3.toNatClampNeg) &&& 31) = 6
                  · have hM := ite_t q6 hM
                    refine h_tabIn q6 (tgt := 288) C.1 C.2.1 dL_law_33 (by decide) (by decide) rfl (by decide) ?_
                    refine lv_aload_n C.1 C.2.1 dL_law_288 rfl (lv_at hl 1 rfl) ?_
                    refine lv_aload_n C.1 C.2.1 dL_law_289 rfl (lv_at hl 0 rfl) ?_
                    refine lv_iload_n C.1 C.2.1 dL_law_290 rfl (lv_at hl 3 rfl) ?_
                    refine lv_iconst (v := 1) C.1 C.2.1 dL_law_291 (by decide) ?_
                    refine lv_iadd C.1 C.2.1 dL_law_292 ?_
                    obtain ⟨hi, hM⟩ := ib_some hM
                    refine h_scd C X h hi dL_law_293 ?_
                    refine lv_aload_n C.1 C.2.1 dL_law_294 rfl (lv_at hl 0 rfl) ?_
                    refine lv_iload_n C.1 C.2.1 dL_law_295 rfl (lv_at hl 3 rfl) ?_
                    refine lv_iconst (v := 2) C.1 C.2.1 dL_law_296 (by decide) ?_
                    refine lv_iadd C.1 C.2.1 dL_law_297 ?_
                    obtain ⟨hi, hM⟩ := ib_some hM
                    refine h_scd C X h hi dL_law_298 ?_
                    obtain ⟨r_25, m_26, hc_25, hM⟩ := bd_some hM
                    refine h_callVi C h (As := [.int (xs (x3 + 1).toNatClampNeg), .int (xs (x3 + 2).toNatClampNeg)]) (rest := []) r_25 m_26 (c_X10_hasBody hc_25 tx1) 10 rfl (by decide) tx1 im_yX10_hasBody se_yX10_hasBody cy_X10_hasBody rfl ml_L_41 ⟨by decide, by decide⟩ ⟨by decide, by decide⟩ hl.1 rfl (Nat.le_of_ble_eq_true rfl) dL_law_299 (fun H locs h => ?_)
                    refine lv_aload_n C.1 C.2.1 dL_law_302 rfl (lv_at hl 2 rfl) ?_
                    refine lv_aload_n C.1 C.2.1 dL_law_303 rfl (lv_at hl 0 rfl) ?_
                    refine lv_iload_n C.1 C.2.1 dL_law_304 rfl (lv_at hl 3 rfl) ?_
                    refine lv_iconst (v := 1) C.1 C.2.1 dL_law_305 (by decide) ?_
                    refine lv_iadd C.1 C.2.1 dL_law_306 ?_
                    obtain ⟨hi, hM⟩ := ib_some hM
                    refine h_scd C X h hi dL_law_307 ?_
                    refine lv_aload_n C.1 C.2.1 dL_law_308 rfl (lv_at hl 0 rfl) ?_
                    refine lv_iload_n C.1 C.2.1 dL_law_309 rfl (lv_at hl 3 rfl) ?_
                    refine lv_iconst (v := 2) C.1 C.2.1 dL_law_310 (by decide) ?_
                    refine lv_iadd C.1 C.2.1 dL_law_311 ?_
                    obtain ⟨hi, hM⟩ := ib_some hM
                    refine h_scd C X h hi dL_law_312 ?_
                    obtain ⟨r_27, m_28, hc_27, hM⟩ := bd_some hM
                    refine h_callVi C h (As := [.int (xs (x3 + 1).toNatClampNeg), .int (xs (x3 + 2).toNatClampNeg)]) (rest := [.int r_25]) r_27 m_28 (c_X11_hasBody hc_27 tx2) 11 rfl (by decide) tx2 im_yX11_hasBody se_yX11_hasBody cy_X11_hasBody rfl ml_L_44 ⟨by decide, by decide⟩ ⟨by decide, by decide⟩ hl.1 rfl (Nat.le_of_ble_eq_true rfl) dL_law_313 (fun H locs h => ?_)
                    refine lv_icmp_eq (tgt := 644) C.1 C.2.1 dL_law_316 (by decide) (fun q => ?_) (fun q => ?_)
                    · have hM := ite_t q hM
                      refine lv_iinc (v := x3 + 6) (lv' := [(3, .int (x3 + 6)), (0, .ref b), (1, .ref x1), (2, .ref x2)]) C.1 C.2.1 dL_law_644 hl (k := 3) rfl rfl (by decide) rfl (fun ls hl => ?_)
                      refine lv_goto (tgt := 18) C.1 C.2.1 dL_law_647 (by decide) ?_
                      exact ih _ _ _ _ hM tx1 tx2 _ _ h ls (lv_sub hl [1, 2, 3, 0] rfl)
                    · have hM := ite_f q hM
                      refine lv_iconst (v := 0) C.1 C.2.1 dL_law_319 (by decide) ?_
                      exact absurd (so_inj hM).1 (by decide)
                  · have hM := ite_f q6 hM
                    by_cases q7 : ((xs x3.toNatClampNeg) &&& 31) = 7
                    · have hM := ite_t q7 hM
                      refine h_tabIn q7 (tgt := 321) C.1 C.2.1 dL_law_33 (by decide) (by decide) rfl (by decide) ?_
                      refine lv_aload_n C.1 C.2.1 dL_law_321 rfl (lv_at hl 1 rfl) ?_
                      refine lv_aload_n C.1 C.2.1 dL_law_322 rfl (lv_at hl 0 rfl) ?_
                      refine lv_iload_n C.1 C.2.1 dL_law_323 rfl (lv_at hl 3 rfl) ?_
                      refine lv_iconst (v := 1) C.1 C.2.1 dL_law_324 (by decide) ?_
                      refine lv_iadd C.1 C.2.1 dL_law_325 ?_
                      obtain ⟨hi, hM⟩ := ib_some hM
                      refine h_scd C X h hi dL_law_326 ?_
                      refine lv_aload_n C.1 C.2.1 dL_law_327 rfl (lv_at hl 0 rfl) ?_
                      refine lv_iload_n C.1 C.2.1 dL_law_328 rfl (lv_at hl 3 rfl) ?_
                      refine lv_iconst (v := 2) C.1 C.2.1 dL_law_329 (by decide) ?_
                      refine lv_iadd C.1 C.2.1 dL_law_330 ?_
                      obtain ⟨hi, hM⟩ := ib_some hM
                      refine h_scd C X h hi dL_law_331 ?_
                      obtain ⟨r_29, m_30, hc_29, hM⟩ := bd_some hM
                      refine h_callVi C h (As := [.int (xs (x3 + 1).toNatClampNeg), .int (xs (x3 + 2).toNatClampNeg)]) (rest := []) r_29 m_30 (c_X10_value hc_29 tx1) 10 rfl (by decide) tx1 im_yX10_value se_yX10_value cy_X10_value rfl ml_L_45 ⟨by decide, by decide⟩ ⟨by decide, by decide⟩ hl.1 rfl (Nat.le_of_ble_eq_true rfl) dL_law_332 (fun H locs h => ?_)
                      refine lv_aload_n C.1 C.2.1 dL_law_335 rfl (lv_at hl 2 rfl) ?_
                      refine lv_aload_n C.1 C.2.1 dL_law_336 rfl (lv_at hl 0 rfl) ?_
                      refine lv_iload_n C.1 C.2.1 dL_law_337 rfl (lv_at hl 3 rfl) ?_
                      refine lv_iconst (v := 1) C.1 C.2.1 dL_law_338 (by decide) ?_
                      refine lv_iadd C.1 C.2.1 dL_law_339 ?_
                      obtain ⟨hi, hM⟩ := ib_some hM
                      refine h_scd C X h hi dL_law_340 ?_
                      refine lv_aload_n C.1 C.2.1 dL_law_341 rfl (lv_at hl 0 rfl) ?_
                      refine lv_iload_n C.1 C.2.1 dL_law_342 rfl (lv_at hl 3 rfl) ?_
                      refine lv_iconst (v := 2) C.1 C.2.1 dL_law_343 (by decide) ?_
                      refine lv_iadd C.1 C.2.1 dL_law_344 ?_
                      obtain ⟨hi, hM⟩ := ib_some hM
                      refine h_scd C X h hi dL_law_345 ?_
                      obtain ⟨r_31, m_32, hc_31, hM⟩ := bd_some hM
                      refine h_callVi C h (As := [.int (xs (x3 + 1).toNatClampNeg), .int (xs (x3 + 2).toNatClampNeg)]) (rest := [.int r_29]) r_31 m_32 (c_X11_value hc_31 tx2) 11 rfl (by decide) tx2 im_yX11_value se_yX11_value cy_X11_value rfl ml_L_48 ⟨by decide, by decide⟩ ⟨by decide, by decide⟩ hl.1 rfl (Nat.le_of_ble_eq_true rfl) dL_law_346 (fun H locs h => ?_)
                      refine lv_icmp_eq (tgt := 644) C.1 C.2.1 dL_law_349 (by decide) (fun q => ?_) (fun q => ?_)
                      · have hM := ite_t q hM
                        refine lv_iinc (v := x3 + 6) (lv' := [(3, .int (x3 + 6)), (0, .ref b), (1, .ref x1), (2, .ref x2)]) C.1 C.2.1 dL_law_644 hl (k := 3) rfl rfl (by decide) rfl (fun ls hl => ?_)
                        refine lv_goto (tgt := 18) C.1 C.2.1 dL_law_647 (by decide) ?_
                        exact ih _ _ _ _ hM tx1 tx2 _ _ h ls (lv_sub hl [1, 2, 3, 0] rfl)
                      · have hM := ite_f q hM
                        refine lv_iconst (v := 0) C.1 C.2.1 dL_law_352 (by decide) ?_
                        exact absurd (so_inj hM).1 (by decide)
                    · have hM := ite_f q7 hM
                      by_cases q8 : ((xs x3.toNatClampNeg) &&& 31) = 8
                      · have hM := ite_t q8 hM
                        refine h_tabIn q8 (tgt := 354) C.1 C.2.1 dL_law_33 (by decide) (by decide) rfl (by decide) ?_
                        refine lv_aload_n C.1 C.2.1 dL_law_354 rfl (lv_at hl 1 rfl) ?_
                        refine lv_aload_n C.1 C.2.1 dL_law_355 rfl (lv_at hl 0 rfl) ?_
                        refine lv_iload_n C.1 C.2.1 dL_law_356 rfl (lv_at hl 3 rfl) ?_
                        refine lv_iconst (v := 1) C.1 C.2.1 dL_law_357 (by decide) ?_
                        refine lv_iadd C.1 C.2.1 dL_law_358 ?_
                        obtain ⟨hi, hM⟩ := ib_some hM
                        refine h_scd C X h hi dL_law_359 ?_
                        refine lv_aload_n C.1 C.2.1 dL_law_360 rfl (lv_at hl 0 rfl) ?_
                        refine lv_iload_n C.1 C.2.1 dL_law_361 rfl (lv_at hl 3 rfl) ?_
                        refine lv_iconst (v := 2) C.1 C.2.1 dL_law_362 (by decide) ?_
                        refine lv_iadd C.1 C.2.1 dL_law_363 ?_
                        obtain ⟨hi, hM⟩ := ib_some hM
                        refine h_scd C X h hi dL_law_364 ?_
                        refine lv_aload_n C.1 C.2.1 dL_law_365 rfl (lv_at hl 0 rfl) ?_
                        refine lv_iload_n C.1 C.2.1 dL_law_366 rfl (lv_at hl 3 rfl) ?_
                        refine lv_iconst (v := 3) C.1 C.2.1 dL_law_367 (by decide) ?_
                        refine lv_iadd C.1 C.2.1 dL_law_368 ?_
                        obtain ⟨hi, hM⟩ := ib_some hM
                        refine h_scd C X h hi dL_law_369 ?_
                        obtain ⟨r_33, m_34, hc_33, hM⟩ := bd_some hM
                        refine h_callVi C h (As := [.int (xs (x3 + 1).toNatClampNeg), .int (xs (x3 + 2).toNatClampNeg), .int (xs (x3 + 3).toNatClampNeg)]) (rest := []) r_33 m_34 (c_X10_call hc_33 tx1) 10 rfl (by decide) tx1 im_yX10_call se_yX10_call cy_X10_call rfl ml_L_49 ⟨by decide, by decide⟩ ⟨by decide, by decide⟩ hl.1 rfl (Nat.le_of_ble_eq_true rfl) dL_law_370 (fun H locs h => ?_)
                        refine lv_aload_n C.1 C.2.1 dL_law_373 rfl (lv_at hl 2 rfl) ?_
                        refine lv_aload_n C.1 C.2.1 dL_law_374 rfl (lv_at hl 0 rfl) ?_
                        refine lv_iload_n C.1 C.2.1 dL_law_375 rfl (lv_at hl 3 rfl) ?_
                        refine lv_iconst (v := 1) C.1 C.2.1 dL_law_376 (by decide) ?_
                        refine lv_iadd C.1 C.2.1 dL_law_377 ?_
                        obtain ⟨hi, hM⟩ := ib_some hM
                        refine h_scd C X h hi dL_law_378 ?_
                        refine lv_aload_n C.1 C.2.1 dL_law_379 rfl (lv_at hl 0 rfl) ?_
                        refine lv_iload_n C.1 C.2.1 dL_law_380 rfl (lv_at hl 3 rfl) ?_
                        refine lv_iconst (v := 2) C.1 C.2.1 dL_law_381 (by decide) ?_
                        refine lv_iadd C.1 C.2.1 dL_law_382 ?_
                        obtain ⟨hi, hM⟩ := ib_some hM
                        refine h_scd C X h hi dL_law_383 ?_
                        refine lv_aload_n C.1 C.2.1 dL_law_384 rfl (lv_at hl 0 rfl) ?_
                        refine lv_iload_n C.1 C.2.1 dL_law_385 rfl (lv_at hl 3 rfl) ?_
                        refine lv_iconst (v := 3) C.1 C.2.1 dL_law_386 (by decide) ?_
                        refine lv_iadd C.1 C.2.1 dL_law_387 ?_
                        obtain ⟨hi, hM⟩ := ib_some hM
                        refine h_scd C X h hi dL_law_388 ?_
                        obtain ⟨r_35, m_36, hc_35, hM⟩ := bd_some hM
                        refine h_callVi C h (As := [.int (xs (x3 + 1).toNatClampNeg), .int (xs (x3 + 2).toNatClampNeg), .int (xs (x3 + 3).toNatClampNeg)]) (rest := [.int r_33]) r_35 m_36 (c_X11_call hc_35 tx2) 11 rfl (by decide) tx2 im_yX11_call se_yX11_call cy_X11_call rfl ml_L_53 ⟨by decide, by decide⟩ ⟨by decide, by decide⟩ hl.1 rfl (Nat.le_of_ble_eq_true rfl) dL_law_389 (fun H locs h => ?_)
                        refine lv_icmp_eq (tgt := 644) C.1 C.2.1 dL_law_392 (by decide) (fun q => ?_) (fun q => ?_)
                        · have hM := ite_t q hM
                          refine lv_iinc (v := x3 + 6) (lv' := [(3, .int (x3 + 6)), (0, .ref b), (1, .ref x1), (2, .ref x2)]) C.1 C.2.1 dL_law_644 hl (k := 3) rfl rfl (by decide) rfl (fun ls hl => ?_)
                          refine lv_goto (tgt := 18) C.1 C.2.1 dL_law_647 (by decide) ?_
                          exact ih _ _ _ _ hM tx1 tx2 _ _ h ls (lv_sub hl [1, 2, 3, 0] rfl)
                        · have hM := ite_f q hM
                          refine lv_iconst (v := 0) C.1 C.2.1 dL_law_395 (by decide) ?_
                          exact absurd (so_inj hM).1 (by decide)
                      · have hM := ite_f q8 hM
                        by_cases q9 : ((xs x3.toNatClampNeg) &&& 31) = 9
                        · have hM := ite_t q9 hM
                          refine h_tabIn q9 (tgt := 397) C.1 C.2.1 dL_law_33 (by decide) (by decide) rfl (by decide) ?_
                          refine lv_aload_n C.1 C.2.1 dL_law_397 rfl (lv_at hl 1 rfl) ?_
                          refine lv_aload_n C.1 C.2.1 dL_law_398 rfl (lv_at hl 0 rfl) ?_
                          refine lv_iload_n C.1 C.2.1 dL_law_399 rfl (lv_at hl 3 rfl) ?_
                          refine lv_iconst (v := 1) C.1 C.2.1 dL_law_400 (by decide) ?_
                          refine lv_iadd C.1 C.2.1 dL_law_401 ?_
                          obtain ⟨hi, hM⟩ := ib_some hM
                          refine h_scd C X h hi dL_law_402 ?_
                          refine lv_aload_n C.1 C.2.1 dL_law_403 rfl (lv_at hl 0 rfl) ?_
                          refine lv_iload_n C.1 C.2.1 dL_law_404 rfl (lv_at hl 3 rfl) ?_
                          refine lv_iconst (v := 2) C.1 C.2.1 dL_law_405 (by decide) ?_
                          refine lv_iadd C.1 C.2.1 dL_law_406 ?_
                          obtain ⟨hi, hM⟩ := ib_some hM
                          refine h_scd C X h hi dL_law_407 ?_
                          obtain ⟨r_37, m_38, hc_37, hM⟩ := bd_some hM
                          refine h_callVi C h (As := [.int (xs (x3 + 1).toNatClampNeg), .int (xs (x3 + 2).toNatClampNeg)]) (rest := []) r_37 m_38 (c_X10_field hc_37 tx1) 10 rfl (by decide) tx1 im_yX10_field se_yX10_field cy_X10_field rfl ml_L_54 ⟨by decide, by decide⟩ ⟨by decide, by decide⟩ hl.1 rfl (Nat.le_of_ble_eq_true rfl) dL_law_408 (fun H locs h => ?_)
                          refine lv_aload_n C.1 C.2.1 dL_law_411 rfl (lv_at hl 2 rfl) ?_
                          refine lv_aload_n C.1 C.2.1 dL_law_412 rfl (lv_at hl 0 rfl) ?_
                          refine lv_iload_n C.1 C.2.1 dL_law_413 rfl (lv_at hl 3 rfl) ?_
                          refine lv_iconst (v := 1) C.1 C.2.1 dL_law_414 (by decide) ?_
                          refine lv_iadd C.1 C.2.1 dL_law_415 ?_
                          obtain ⟨hi, hM⟩ := ib_some hM
                          refine h_scd C X h hi dL_law_416 ?_
                          refine lv_aload_n C.1 C.2.1 dL_law_417 rfl (lv_at hl 0 rfl) ?_
                          refine lv_iload_n C.1 C.2.1 dL_law_418 rfl (lv_at hl 3 rfl) ?_
                          refine lv_iconst (v := 2) C.1 C.2.1 dL_law_419 (by decide) ?_
                          refine lv_iadd C.1 C.2.1 dL_law_420 ?_
                          obtain ⟨hi, hM⟩ := ib_some hM
                          refine h_scd C X h hi dL_law_421 ?_
                          obtain ⟨r_39, m_40, hc_39, hM⟩ := bd_some hM
                          refine h_callVi C h (As := [.int (xs (x3 + 1).toNatClampNeg), .int (xs (x3 + 2).toNatClampNeg)]) (rest := [.int r_37]) r_39 m_40 (c_X11_field hc_39 tx2) 11 rfl (by decide) tx2 im_yX11_field se_yX11_field cy_X11_field rfl ml_L_57 ⟨by decide, by decide⟩ ⟨by decide, by decide⟩ hl.1 rfl (Nat.le_of_ble_eq_true rfl) dL_law_422 (fun H locs h => ?_)
                          refine lv_icmp_eq (tgt := 644) C.1 C.2.1 dL_law_425 (by decide) (fun q => ?_) (fun q => ?_)
                          · have hM := ite_t q hM
                            refine lv_iinc (v := x3 + 6) (lv' := [(3, .int (x3 + 6)), (0, .ref b), (1, .ref x1), (2, .ref x2)]) C.1 C.2.1 dL_law_644 hl (k := 3) rfl rfl (by decide) rfl (fun ls hl => ?_)
                            refine lv_goto (tgt := 18) C.1 C.2.1 dL_law_647 (by decide) ?_
                            exact ih _ _ _ _ hM tx1 tx2 _ _ h ls (lv_sub hl [1, 2, 3, 0] rfl)
                          · have hM := ite_f q hM
                            refine lv_iconst (v := 0) C.1 C.2.1 dL_law_428 (by decide) ?_
                            exact absurd (so_inj hM).1 (by decide)
                        · have hM := ite_f q9 hM
                          by_cases q10 : ((xs x3.toNatClampNeg) &&& 31) = 10
                          · have hM := ite_t q10 hM
                            refine h_tabIn q10 (tgt := 430) C.1 C.2.1 dL_law_33 (by decide) (by decide) rfl (by decide) ?_
                            refine lv_aload_n C.1 C.2.1 dL_law_430 rfl (lv_at hl 1 rfl) ?_
                            refine lv_aload_n C.1 C.2.1 dL_law_431 rfl (lv_at hl 0 rfl) ?_
                            refine lv_iload_n C.1 C.2.1 dL_law_432 rfl (lv_at hl 3 rfl) ?_
                            refine lv_iconst (v := 1) C.1 C.2.1 dL_law_433 (by decide) ?_
                            refine lv_iadd C.1 C.2.1 dL_law_434 ?_
                            obtain ⟨hi, hM⟩ := ib_some hM
                            refine h_scd C X h hi dL_law_435 ?_
                            refine lv_aload_n C.1 C.2.1 dL_law_436 rfl (lv_at hl 0 rfl) ?_
                            refine lv_iload_n C.1 C.2.1 dL_law_437 rfl (lv_at hl 3 rfl) ?_
                            refine lv_iconst (v := 2) C.1 C.2.1 dL_law_438 (by decide) ?_
                            refine lv_iadd C.1 C.2.1 dL_law_439 ?_
                            obtain ⟨hi, hM⟩ := ib_some hM
                            refine h_scd C X h hi dL_law_440 ?_
                            refine lv_aload_n C.1 C.2.1 dL_law_441 rfl (lv_at hl 0 rfl) ?_
                            refine lv_iload_n C.1 C.2.1 dL_law_442 rfl (lv_at hl 3 rfl) ?_
                            refine lv_iconst (v := 3) C.1 C.2.1 dL_law_443 (by decide) ?_
                            refine lv_iadd C.1 C.2.1 dL_law_444 ?_
                            obtain ⟨hi, hM⟩ := ib_some hM
                            refine h_scd C X h hi dL_law_445 ?_
                            refine lv_aload_n C.1 C.2.1 dL_law_446 rfl (lv_at hl 0 rfl) ?_
                            refine lv_iload_n C.1 C.2.1 dL_law_447 rfl (lv_at hl 3 rfl) ?_
                            refine lv_iconst (v := 4) C.1 C.2.1 dL_law_448 (by decide) ?_
                            refine lv_iadd C.1 C.2.1 dL_law_449 ?_
                            obtain ⟨hi, hM⟩ := ib_some hM
                            refine h_scd C X h hi dL_law_450 ?_
                            obtain ⟨r_41, m_42, hc_41, hM⟩ := bd_some hM
                            refine h_callVi C h (As := [.int (xs (x3 + 1).toNatClampNeg), .int (xs (x3 + 2).toNatClampNeg), .int (xs (x3 + 3).toNatClampNeg), .int (xs (x3 + 4).toNatClampNeg)]) (rest := []) r_41 m_42 (c_X10_compare hc_41 tx1) 10 rfl (by decide) tx1 im_yX10_compare se_yX10_compare cy_X10_compare rfl ml_L_58 ⟨by decide, by decide⟩ ⟨by decide, by decide⟩ hl.1 rfl (Nat.le_of_ble_eq_true rfl) dL_law_451 (fun H locs h => ?_)
                            refine lv_aload_n C.1 C.2.1 dL_law_454 rfl (lv_at hl 2 rfl) ?_
                            refine lv_aload_n C.1 C.2.1 dL_law_455 rfl (lv_at hl 0 rfl) ?_
                            refine lv_iload_n C.1 C.2.1 dL_law_456 rfl (lv_at hl 3 rfl) ?_
                            refine lv_iconst (v := 1) C.1 C.2.1 dL_law_457 (by decide) ?_
                            refine lv_iadd C.1 C.2.1 dL_law_458 ?_
                            obtain ⟨hi, hM⟩ := ib_some hM
                            refine h_scd C X h hi dL_law_459 ?_
                            refine lv_aload_n C.1 C.2.1 dL_law_460 rfl (lv_at hl 0 rfl) ?_
                            refine lv_iload_n C.1 C.2.1 dL_law_461 rfl (lv_at hl 3 rfl) ?_
                            refine lv_iconst (v := 2) C.1 C.2.1 dL_law_462 (by decide) ?_
                            refine lv_iadd C.1 C.2.1 dL_law_463 ?_
                            obtain ⟨hi, hM⟩ := ib_some hM
                            refine h_scd C X h hi dL_law_464 ?_
                            refine lv_aload_n C.1 C.2.1 dL_law_465 rfl (lv_at hl 0 rfl) ?_
                            refine lv_iload_n C.1 C.2.1 dL_law_466 rfl (lv_at hl 3 rfl) ?_
                            refine lv_iconst (v := 3) C.1 C.2.1 dL_law_467 (by decide) ?_
                            refine lv_iadd C.1 C.2.1 dL_law_468 ?_
                            obtain ⟨hi, hM⟩ := ib_some hM
                            refine h_scd C X h hi dL_law_469 ?_
                            refine lv_aload_n C.1 C.2.1 dL_law_470 rfl (lv_at hl 0 rfl) ?_
                            refine lv_iload_n C.1 C.2.1 dL_law_471 rfl (lv_at hl 3 rfl) ?_
                            refine lv_iconst (v := 4) C.1 C.2.1 dL_law_472 (by decide) ?_
                            refine lv_iadd C.1 C.2.1 dL_law_473 ?_
                            obtain ⟨hi, hM⟩ := ib_some hM
                            refine h_scd C X h hi dL_law_474 ?_
                            obtain ⟨r_43, m_44, hc_43, hM⟩ := bd_some hM
                            refine h_callVi C h (As := [.int (xs (x3 + 1).toNatClampNeg), .int (xs (x3 + 2).toNatClampNeg), .int (xs (x3 + 3).toNatClampNeg), .int (xs (x3 + 4).toNatClampNeg)]) (rest := [.int r_41]) r_43 m_44 (c_X11_compare hc_43 tx2) 11 rfl (by decide) tx2 im_yX11_compare se_yX11_compare cy_X11_compare rfl ml_L_62 ⟨by decide, by decide⟩ ⟨by decide, by decide⟩ hl.1 rfl (Nat.le_of_ble_eq_true rfl) dL_law_475 (fun H locs h => ?_)
                            refine lv_icmp_eq (tgt := 644) C.1 C.2.1 dL_law_478 (by decide) (fun q => ?_) (fun q => ?_)
                            · have hM := ite_t q hM
                              refine lv_iinc (v := x3 + 6) (lv' := [(3, .int (x3 + 6)), (0, .ref b), (1, .ref x1), (2, .ref x2)]) C.1 C.2.1 dL_law_644 hl (k := 3) rfl rfl (by decide) rfl (fun ls hl => ?_)
                              refine lv_goto (tgt := 18) C.1 C.2.1 dL_law_647 (by decide) ?_
                              exact ih _ _ _ _ hM tx1 tx2 _ _ h ls (lv_sub hl [1, 2, 3, 0] rfl)
                            · have hM := ite_f q hM
                              refine lv_iconst (v := 0) C.1 C.2.1 dL_law_481 (by decide) ?_
                              exact absurd (so_inj hM).1 (by decide)
                          · have hM := ite_f q10 hM
                            by_cases q11 : ((xs x3.toNatClampNeg) &&& 31) = 11
                            · have hM := ite_t q11 hM
                              refine h_tabIn q11 (tgt := 483) C.1 C.2.1 dL_law_33 (by decide) (by decide) rfl (by decide) ?_
                              refine lv_aload_n C.1 C.2.1 dL_law_483 rfl (lv_at hl 1 rfl) ?_
                              refine lv_aload_n C.1 C.2.1 dL_law_484 rfl (lv_at hl 0 rfl) ?_
                              refine lv_iload_n C.1 C.2.1 dL_law_485 rfl (lv_at hl 3 rfl) ?_
                              refine lv_iconst (v := 1) C.1 C.2.1 dL_law_486 (by decide) ?_
                              refine lv_iadd C.1 C.2.1 dL_law_487 ?_
                              obtain ⟨hi, hM⟩ := ib_some hM
                              refine h_scd C X h hi dL_law_488 ?_
                              obtain ⟨r_45, m_46, hc_45, hM⟩ := bd_some hM
                              refine h_callVi C h (As := [.int (xs (x3 + 1).toNatClampNeg)]) (rest := []) r_45 m_46 (c_X10_values hc_45 tx1) 10 rfl (by decide) tx1 im_yX10_values se_yX10_values cy_X10_values rfl ml_L_63 ⟨by decide, by decide⟩ ⟨by decide, by decide⟩ hl.1 rfl (Nat.le_of_ble_eq_true rfl) dL_law_489 (fun H locs h => ?_)
                              refine lv_aload_n C.1 C.2.1 dL_law_492 rfl (lv_at hl 2 rfl) ?_
                              refine lv_aload_n C.1 C.2.1 dL_law_493 rfl (lv_at hl 0 rfl) ?_
                              refine lv_iload_n C.1 C.2.1 dL_law_494 rfl (lv_at hl 3 rfl) ?_
                              refine lv_iconst (v := 1) C.1 C.2.1 dL_law_495 (by decide) ?_
                              refine lv_iadd C.1 C.2.1 dL_law_496 ?_
                              obtain ⟨hi, hM⟩ := ib_some hM
                              refine h_scd C X h hi dL_law_497 ?_
                              obtain ⟨r_47, m_48, hc_47, hM⟩ := bd_some hM
                              refine h_callVi C h (As := [.int (xs (x3 + 1).toNatClampNeg)]) (rest := [.int r_45]) r_47 m_48 (c_X11_values hc_47 tx2) 11 rfl (by decide) tx2 im_yX11_values se_yX11_values cy_X11_values rfl ml_L_66 ⟨by decide, by decide⟩ ⟨by decide, by decide⟩ hl.1 rfl (Nat.le_of_ble_eq_true rfl) dL_law_498 (fun H locs h => ?_)
                              refine lv_icmp_eq (tgt := 644) C.1 C.2.1 dL_law_501 (by decide) (fun q => ?_) (fun q => ?_)
                              · have hM := ite_t q hM
                                refine lv_iinc (v := x3 + 6) (lv' := [(3, .int (x3 + 6)), (0, .ref b), (1, .ref x1), (2, .ref x2)]) C.1 C.2.1 dL_law_644 hl (k := 3) rfl rfl (by decide) rfl (fun ls hl => ?_)
                                refine lv_goto (tgt := 18) C.1 C.2.1 dL_law_647 (by decide) ?_
                                exact ih _ _ _ _ hM tx1 tx2 _ _ h ls (lv_sub hl [1, 2, 3, 0] rfl)
                              · have hM := ite_f q hM
                                refine lv_iconst (v := 0) C.1 C.2.1 dL_law_504 (by decide) ?_
                                exact absurd (so_inj hM).1 (by decide)
                            · have hM := ite_f q11 hM
                              by_cases q12 : ((xs x3.toNatClampNeg) &&& 31) = 12
                              · have hM := ite_t q12 hM
                                refine h_tabIn q12 (tgt := 506) C.1 C.2.1 dL_law_33 (by decide) (by decide) rfl (by decide) ?_
                                refine lv_aload_n C.1 C.2.1 dL_law_506 rfl (lv_at hl 1 rfl) ?_
                                refine lv_aload_n C.1 C.2.1 dL_law_507 rfl (lv_at hl 0 rfl) ?_
                                refine lv_iload_n C.1 C.2.1 dL_law_508 rfl (lv_at hl 3 rfl) ?_
                                refine lv_iconst (v := 1) C.1 C.2.1 dL_law_509 (by decide) ?_
                                refine lv_iadd C.1 C.2.1 dL_law_510 ?_
                                obtain ⟨hi, hM⟩ := ib_some hM
                                refine h_scd C X h hi dL_law_511 ?_
                                refine lv_aload_n C.1 C.2.1 dL_law_512 rfl (lv_at hl 0 rfl) ?_
                                refine lv_iload_n C.1 C.2.1 dL_law_513 rfl (lv_at hl 3 rfl) ?_
                                refine lv_iconst (v := 2) C.1 C.2.1 dL_law_514 (by decide) ?_
                                refine lv_iadd C.1 C.2.1 dL_law_515 ?_
                                obtain ⟨hi, hM⟩ := ib_some hM
                                refine h_scd C X h hi dL_law_516 ?_
                                obtain ⟨r_49, m_50, hc_49, hM⟩ := bd_some hM
                                refine h_callVi C h (As := [.int (xs (x3 + 1).toNatClampNeg), .int (xs (x3 + 2).toNatClampNeg)]) (rest := []) r_49 m_50 (c_X10_swap hc_49 tx1) 10 rfl (by decide) tx1 im_yX10_swap se_yX10_swap cy_X10_swap rfl ml_L_67 ⟨by decide, by decide⟩ ⟨by decide, by decide⟩ hl.1 rfl (Nat.le_of_ble_eq_true rfl) dL_law_517 (fun H locs h => ?_)
                                refine lv_aload_n C.1 C.2.1 dL_law_520 rfl (lv_at hl 2 rfl) ?_
                                refine lv_aload_n C.1 C.2.1 dL_law_521 rfl (lv_at hl 0 rfl) ?_
                                refine lv_iload_n C.1 C.2.1 dL_law_522 rfl (lv_at hl 3 rfl) ?_
                                refine lv_iconst (v := 1) C.1 C.2.1 dL_law_523 (by decide) ?_
                                refine lv_iadd C.1 C.2.1 dL_law_524 ?_
                                obtain ⟨hi, hM⟩ := ib_some hM
                                refine h_scd C X h hi dL_law_525 ?_
                                refine lv_aload_n C.1 C.2.1 dL_law_526 rfl (lv_at hl 0 rfl) ?_
                                refine lv_iload_n C.1 C.2.1 dL_law_527 rfl (lv_at hl 3 rfl) ?_
                                refine lv_iconst (v := 2) C.1 C.2.1 dL_law_528 (by decide) ?_
                                refine lv_iadd C.1 C.2.1 dL_law_529 ?_
                                obtain ⟨hi, hM⟩ := ib_some hM
                                refine h_scd C X h hi dL_law_530 ?_
                                obtain ⟨r_51, m_52, hc_51, hM⟩ := bd_some hM
                                refine h_callVi C h (As := [.int (xs (x3 + 1).toNatClampNeg), .int (xs (x3 + 2).toNatClampNeg)]) (rest := [.int r_49]) r_51 m_52 (c_X11_swap hc_51 tx2) 11 rfl (by decide) tx2 im_yX11_swap se_yX11_swap cy_X11_swap rfl ml_L_70 ⟨by decide, by decide⟩ ⟨by decide, by decide⟩ hl.1 rfl (Nat.le_of_ble_eq_true rfl) dL_law_531 (fun H locs h => ?_)
                                refine lv_icmp_eq (tgt := 644) C.1 C.2.1 dL_law_534 (by decide) (fun q => ?_) (fun q => ?_)
                                · have hM := ite_t q hM
                                  refine lv_iinc (v := x3 + 6) (lv' := [(3, .int (x3 + 6)), (0, .ref b), (1, .ref x1), (2, .ref x2)]) C.1 C.2.1 dL_law_644 hl (k := 3) rfl rfl (by decide) rfl (fun ls hl => ?_)
                                  refine lv_goto (tgt := 18) C.1 C.2.1 dL_law_647 (by decide) ?_
                                  exact ih _ _ _ _ hM tx1 tx2 _ _ h ls (lv_sub hl [1, 2, 3, 0] rfl)
                                · have hM := ite_f q hM
                                  refine lv_iconst (v := 0) C.1 C.2.1 dL_law_537 (by decide) ?_
                                  exact absurd (so_inj hM).1 (by decide)
                              · have hM := ite_f q12 hM
                                by_cases q13 : ((xs x3.toNatClampNeg) &&& 31) = 13
                                · have hM := ite_t q13 hM
                                  refine h_tabIn q13 (tgt := 539) C.1 C.2.1 dL_law_33 (by decide) (by decide) rfl (by decide) ?_
                                  refine lv_aload_n C.1 C.2.1 dL_law_539 rfl (lv_at hl 1 rfl) ?_
                                  refine lv_aload_n C.1 C.2.1 dL_law_540 rfl (lv_at hl 0 rfl) ?_
                                  refine lv_iload_n C.1 C.2.1 dL_law_541 rfl (lv_at hl 3 rfl) ?_
                                  refine lv_iconst (v := 1) C.1 C.2.1 dL_law_542 (by decide) ?_
                                  refine lv_iadd C.1 C.2.1 dL_law_543 ?_
                                  obtain ⟨hi, hM⟩ := ib_some hM
                                  refine h_scd C X h hi dL_law_544 ?_
                                  obtain ⟨r_53, m_54, hc_53, hM⟩ := bd_some hM
                                  refine h_callVi C h (As := [.int (xs (x3 + 1).toNatClampNeg)]) (rest := []) r_53 m_54 (c_X10_hand hc_53 tx1) 10 rfl (by decide) tx1 im_yX10_hand se_yX10_hand cy_X10_hand rfl ml_L_71 ⟨by decide, by decide⟩ ⟨by decide, by decide⟩ hl.1 rfl (Nat.le_of_ble_eq_true rfl) dL_law_545 (fun H locs h => ?_)
                                  refine lv_aload_n C.1 C.2.1 dL_law_548 rfl (lv_at hl 2 rfl) ?_
                                  refine lv_aload_n C.1 C.2.1 dL_law_549 rfl (lv_at hl 0 rfl) ?_
                                  refine lv_iload_n C.1 C.2.1 dL_law_550 rfl (lv_at hl 3 rfl) ?_
                                  refine lv_iconst (v := 1) C.1 C.2.1 dL_law_551 (by decide) ?_
                                  refine lv_iadd C.1 C.2.1 dL_law_552 ?_
                                  obtain ⟨hi, hM⟩ := ib_some hM
                                  refine h_scd C X h hi dL_law_553 ?_
                                  obtain ⟨r_55, m_56, hc_55, hM⟩ := bd_some hM
                                  refine h_callVi C h (As := [.int (xs (x3 + 1).toNatClampNeg)]) (rest := [.int r_53]) r_55 m_56 (c_X11_hand hc_55 tx2) 11 rfl (by decide) tx2 im_yX11_hand se_yX11_hand cy_X11_hand rfl ml_L_74 ⟨by decide, by decide⟩ ⟨by decide, by decide⟩ hl.1 rfl (Nat.le_of_ble_eq_true rfl) dL_law_554 (fun H locs h => ?_)
                                  refine lv_icmp_eq (tgt := 644) C.1 C.2.1 dL_law_557 (by decide) (fun q => ?_) (fun q => ?_)
                                  · have hM := ite_t q hM
                                    refine lv_iinc (v := x3 + 6) (lv' := [(3, .int (x3 + 6)), (0, .ref b), (1, .ref x1), (2, .ref x2)]) C.1 C.2.1 dL_law_644 hl (k := 3) rfl rfl (by decide) rfl (fun ls hl => ?_)
                                    refine lv_goto (tgt := 18) C.1 C.2.1 dL_law_647 (by decide) ?_
                                    exact ih _ _ _ _ hM tx1 tx2 _ _ h ls (lv_sub hl [1, 2, 3, 0] rfl)
                                  · have hM := ite_f q hM
                                    refine lv_iconst (v := 0) C.1 C.2.1 dL_law_560 (by decide) ?_
                                    exact absurd (so_inj hM).1 (by decide)
                                · have hM := ite_f q13 hM
                                  by_cases q14 : ((xs x3.toNatClampNeg) &&& 31) = 14
                                  · have hM := ite_t q14 hM
                                    refine h_tabIn q14 (tgt := 562) C.1 C.2.1 dL_law_33 (by decide) (by decide) rfl (by decide) ?_
                                    refine lv_aload_n C.1 C.2.1 dL_law_562 rfl (lv_at hl 1 rfl) ?_
                                    refine lv_aload_n C.1 C.2.1 dL_law_563 rfl (lv_at hl 0 rfl) ?_
                                    refine lv_iload_n C.1 C.2.1 dL_law_564 rfl (lv_at hl 3 rfl) ?_
                                    refine lv_iconst (v := 1) C.1 C.2.1 dL_law_565 (by decide) ?_
                                    refine lv_iadd C.1 C.2.1 dL_law_566 ?_
                                    obtain ⟨hi, hM⟩ := ib_some hM
                                    refine h_scd C X h hi dL_law_567 ?_
                                    obtain ⟨r_57, m_58, hc_57, hM⟩ := bd_some hM
                                    refine h_callVi C h (As := [.int (xs (x3 + 1).toNatClampNeg)]) (rest := []) r_57 m_58 (c_X10_named hc_57 tx1) 10 rfl (by decide) tx1 im_yX10_named se_yX10_named cy_X10_named rfl ml_L_75 ⟨by decide, by decide⟩ ⟨by decide, by decide⟩ hl.1 rfl (Nat.le_of_ble_eq_true rfl) dL_law_568 (fun H locs h => ?_)
                                    refine lv_aload_n C.1 C.2.1 dL_law_571 rfl (lv_at hl 2 rfl) ?_
                                    refine lv_aload_n C.1 C.2.1 dL_law_572 rfl (lv_at hl 0 rfl) ?_
                                    refine lv_iload_n C.1 C.2.1 dL_law_573 rfl (lv_at hl 3 rfl) ?_
                                    refine lv_iconst (v := 1) C.1 C.2.1 dL_law_574 (by decide) ?_
                                    refine lv_iadd C.1 C.2.1 dL_law_575 ?_
                                    obtain ⟨hi, hM⟩ := ib_some hM
                                    refine h_scd C X h hi dL_law_576 ?_
                                    obtain ⟨r_59, m_60, hc_59, hM⟩ := bd_some hM
                                    refine h_callVi C h (As := [.int (xs (x3 + 1).toNatClampNeg)]) (rest := [.int r_57]) r_59 m_60 (c_X11_named hc_59 tx2) 11 rfl (by decide) tx2 im_yX11_named se_yX11_named cy_X11_named rfl ml_L_78 ⟨by decide, by decide⟩ ⟨by decide, by decide⟩ hl.1 rfl (Nat.le_of_ble_eq_true rfl) dL_law_577 (fun H locs h => ?_)
                                    refine lv_icmp_eq (tgt := 644) C.1 C.2.1 dL_law_580 (by decide) (fun q => ?_) (fun q => ?_)
                                    · have hM := ite_t q hM
                                      refine lv_iinc (v := x3 + 6) (lv' := [(3, .int (x3 + 6)), (0, .ref b), (1, .ref x1), (2, .ref x2)]) C.1 C.2.1 dL_law_644 hl (k := 3) rfl rfl (by decide) rfl (fun ls hl => ?_)
                                      refine lv_goto (tgt := 18) C.1 C.2.1 dL_law_647 (by decide) ?_
                                      exact ih _ _ _ _ hM tx1 tx2 _ _ h ls (lv_sub hl [1, 2, 3, 0] rfl)
                                    · have hM := ite_f q hM
                                      refine lv_iconst (v := 0) C.1 C.2.1 dL_law_583 (by decide) ?_
                                      exact absurd (so_inj hM).1 (by decide)
                                  · have hM := ite_f q14 hM
                                    by_cases q15 : ((xs x3.toNatClampNeg) &&& 31) = 15
                                    · have hM := ite_t q15 hM
                                      refine h_tabIn q15 (tgt := 585) C.1 C.2.1 dL_law_33 (by decide) (by decide) rfl (by decide) ?_
                                      refine lv_aload_n C.1 C.2.1 dL_law_585 rfl (lv_at hl 1 rfl) ?_
                                      refine lv_aload_n C.1 C.2.1 dL_law_586 rfl (lv_at hl 0 rfl) ?_
                                      refine lv_iload_n C.1 C.2.1 dL_law_587 rfl (lv_at hl 3 rfl) ?_
                                      refine lv_iconst (v := 1) C.1 C.2.1 dL_law_588 (by decide) ?_
                                      refine lv_iadd C.1 C.2.1 dL_law_589 ?_
                                      obtain ⟨hi, hM⟩ := ib_some hM
                                      refine h_scd C X h hi dL_law_590 ?_
                                      obtain ⟨r_61, m_62, hc_61, hM⟩ := bd_some hM
                                      refine h_callVi C h (As := [.int (xs (x3 + 1).toNatClampNeg)]) (rest := []) r_61 m_62 (c_X10_trace hc_61 tx1) 10 rfl (by decide) tx1 im_yX10_trace se_yX10_trace cy_X10_trace rfl ml_L_79 ⟨by decide, by decide⟩ ⟨by decide, by decide⟩ hl.1 rfl (Nat.le_of_ble_eq_true rfl) dL_law_591 (fun H locs h => ?_)
                                      refine lv_aload_n C.1 C.2.1 dL_law_594 rfl (lv_at hl 2 rfl) ?_
                                      refine lv_aload_n C.1 C.2.1 dL_law_595 rfl (lv_at hl 0 rfl) ?_
                                      refine lv_iload_n C.1 C.2.1 dL_law_596 rfl (lv_at hl 3 rfl) ?_
                                      refine lv_iconst (v := 1) C.1 C.2.1 dL_law_597 (by decide) ?_
                                      refine lv_iadd C.1 C.2.1 dL_law_598 ?_
                                      obtain ⟨hi, hM⟩ := ib_some hM
                                      refine h_scd C X h hi dL_law_599 ?_
                                      obtain ⟨r_63, m_64, hc_63, hM⟩ := bd_some hM
                                      refine h_callVi C h (As := [.int (xs (x3 + 1).toNatClampNeg)]) (rest := [.int r_61]) r_63 m_64 (c_X11_trace hc_63 tx2) 11 rfl (by decide) tx2 im_yX11_trace se_yX11_trace cy_X11_trace rfl ml_L_82 ⟨by decide, by decide⟩ ⟨by decide, by decide⟩ hl.1 rfl (Nat.le_of_ble_eq_true rfl) dL_law_600 (fun H locs h => ?_)
                                      refine lv_icmp_eq (tgt := 644) C.1 C.2.1 dL_law_603 (by decide) (fun q => ?_) (fun q => ?_)
                                      · have hM := ite_t q hM
                                        refine lv_iinc (v := x3 + 6) (lv' := [(3, .int (x3 + 6)), (0, .ref b), (1, .ref x1), (2, .ref x2)]) C.1 C.2.1 dL_law_644 hl (k := 3) rfl rfl (by decide) rfl (fun ls hl => ?_)
                                        refine lv_goto (tgt := 18) C.1 C.2.1 dL_law_647 (by decide) ?_
                                        exact ih _ _ _ _ hM tx1 tx2 _ _ h ls (lv_sub hl [1, 2, 3, 0] rfl)
                                      · have hM := ite_f q hM
                                        refine lv_iconst (v := 0) C.1 C.2.1 dL_law_606 (by decide) ?_
                                        exact absurd (so_inj hM).1 (by decide)
                                    · have hM := ite_f q15 hM
                                      by_cases q16 : ((xs x3.toNatClampNeg) &&& 31) = 16
                                      · have hM := ite_t q16 hM
                                        refine h_tabIn q16 (tgt := 608) C.1 C.2.1 dL_law_33 (by decide) (by decide) rfl (by decide) ?_
                                        refine lv_aload_n C.1 C.2.1 dL_law_608 rfl (lv_at hl 1 rfl) ?_
                                        refine lv_aload_n C.1 C.2.1 dL_law_609 rfl (lv_at hl 0 rfl) ?_
                                        refine lv_iload_n C.1 C.2.1 dL_law_610 rfl (lv_at hl 3 rfl) ?_
                                        refine lv_iconst (v := 1) C.1 C.2.1 dL_law_611 (by decide) ?_
                                        refine lv_iadd C.1 C.2.1 dL_law_612 ?_
                                        obtain ⟨hi, hM⟩ := ib_some hM
                                        refine h_scd C X h hi dL_law_613 ?_
                                        obtain ⟨r_65, m_66, hc_65, hM⟩ := bd_some hM
                                        refine h_callVi C h (As := [.int (xs (x3 + 1).toNatClampNeg)]) (rest := []) r_65 m_66 (c_X10_count hc_65 tx1) 10 rfl (by decide) tx1 im_yX10_count se_yX10_count cy_X10_count rfl ml_L_83 ⟨by decide, by decide⟩ ⟨by decide, by decide⟩ hl.1 rfl (Nat.le_of_ble_eq_true rfl) dL_law_614 (fun H locs h => ?_)
                                        refine lv_aload_n C.1 C.2.1 dL_law_617 rfl (lv_at hl 2 rfl) ?_
                                        refine lv_aload_n C.1 C.2.1 dL_law_618 rfl (lv_at hl 0 rfl) ?_
                                        refine lv_iload_n C.1 C.2.1 dL_law_619 rfl (lv_at hl 3 rfl) ?_
                                        refine lv_iconst (v := 1) C.1 C.2.1 dL_law_620 (by decide) ?_
                                        refine lv_iadd C.1 C.2.1 dL_law_621 ?_
                                        obtain ⟨hi, hM⟩ := ib_some hM
                                        refine h_scd C X h hi dL_law_622 ?_
                                        obtain ⟨r_67, m_68, hc_67, hM⟩ := bd_some hM
                                        refine h_callVi C h (As := [.int (xs (x3 + 1).toNatClampNeg)]) (rest := [.int r_65]) r_67 m_68 (c_X11_count hc_67 tx2) 11 rfl (by decide) tx2 im_yX11_count se_yX11_count cy_X11_count rfl ml_L_86 ⟨by decide, by decide⟩ ⟨by decide, by decide⟩ hl.1 rfl (Nat.le_of_ble_eq_true rfl) dL_law_623 (fun H locs h => ?_)
                                        refine lv_icmp_eq (tgt := 644) C.1 C.2.1 dL_law_626 (by decide) (fun q => ?_) (fun q => ?_)
                                        · have hM := ite_t q hM
                                          refine lv_iinc (v := x3 + 6) (lv' := [(3, .int (x3 + 6)), (0, .ref b), (1, .ref x1), (2, .ref x2)]) C.1 C.2.1 dL_law_644 hl (k := 3) rfl rfl (by decide) rfl (fun ls hl => ?_)
                                          refine lv_goto (tgt := 18) C.1 C.2.1 dL_law_647 (by decide) ?_
                                          exact ih _ _ _ _ hM tx1 tx2 _ _ h ls (lv_sub hl [1, 2, 3, 0] rfl)
                                        · have hM := ite_f q hM
                                          refine lv_iconst (v := 0) C.1 C.2.1 dL_law_629 (by decide) ?_
                                          exact absurd (so_inj hM).1 (by decide)
                                      · have hM := ite_f q16 hM
                                        by_cases q17 : ((xs x3.toNatClampNeg) &&& 31) = 17
                                        · have hM := ite_t q17 hM
                                          refine h_tabIn q17 (tgt := 631) C.1 C.2.1 dL_law_33 (by decide) (by decide) rfl (by decide) ?_
                                          refine lv_aload_n C.1 C.2.1 dL_law_631 rfl (lv_at hl 1 rfl) ?_
                                          obtain ⟨r_69, m_70, hc_69, hM⟩ := bd_some hM
                                          refine h_callVi C h (As := []) (rest := []) r_69 m_70 (c_X10_clear hc_69 tx1) 10 rfl (by decide) tx1 im_yX10_clear se_yX10_clear cy_X10_clear rfl ml_L_87 ⟨by decide, by decide⟩ ⟨by decide, by decide⟩ hl.1 rfl (Nat.le_of_ble_eq_true rfl) dL_law_632 (fun H locs h => ?_)
                                          refine lv_aload_n C.1 C.2.1 dL_law_635 rfl (lv_at hl 2 rfl) ?_
                                          obtain ⟨r_71, m_72, hc_71, hM⟩ := bd_some hM
                                          refine h_callVi C h (As := []) (rest := [.int r_69]) r_71 m_72 (c_X11_clear hc_71 tx2) 11 rfl (by decide) tx2 im_yX11_clear se_yX11_clear cy_X11_clear rfl ml_L_90 ⟨by decide, by decide⟩ ⟨by decide, by decide⟩ hl.1 rfl (Nat.le_of_ble_eq_true rfl) dL_law_636 (fun H locs h => ?_)
                                          refine lv_icmp_eq (tgt := 644) C.1 C.2.1 dL_law_639 (by decide) (fun q => ?_) (fun q => ?_)
                                          · have hM := ite_t q hM
                                            refine lv_iinc (v := x3 + 6) (lv' := [(3, .int (x3 + 6)), (0, .ref b), (1, .ref x1), (2, .ref x2)]) C.1 C.2.1 dL_law_644 hl (k := 3) rfl rfl (by decide) rfl (fun ls hl => ?_)
                                            refine lv_goto (tgt := 18) C.1 C.2.1 dL_law_647 (by decide) ?_
                                            exact ih _ _ _ _ hM tx1 tx2 _ _ h ls (lv_sub hl [1, 2, 3, 0] rfl)
                                          · have hM := ite_f q hM
                                            refine lv_iconst (v := 0) C.1 C.2.1 dL_law_642 (by decide) ?_
                                            exact absurd (so_inj hM).1 (by decide)
                                        · have hM := ite_f q17 hM
                                          refine h_tabOut (tgt := 644) (lo := 0) (n := 18) C.1 C.2.1 dL_law_33 (by decide) (by decide) (by decide) (fun k hk => ?_) ?_
                                          · match k, hk with
                                            | 0, _ => exact q0
                                            | 1, _ => exact q1
                                            | 2, _ => exact q2
                                            | 3, _ => exact q3
                                            | 4, _ => exact q4
                                            | 5, _ => exact q5
                                            | 6, _ => exact q6
                                            | 7, _ => exact q7
                                            | 8, _ => exact q8
                                            | 9, _ => exact q9
                                            | 10, _ => exact q10
                                            | 11, _ => exact q11
                                            | 12, _ => exact q12
                                            | 13, _ => exact q13
                                            | 14, _ => exact q14
                                            | 15, _ => exact q15
                                            | 16, _ => exact q16
                                            | 17, _ => exact q17
                                            | k + 18, hk => exact absurd hk (by omega)
                                          · refine lv_iinc (v := x3 + 6) (lv' := [(3, .int (x3 + 6)), (0, .ref b), (1, .ref x1), (2, .ref x2)]) C.1 C.2.1 dL_law_644 hl (k := 3) rfl rfl (by decide) rfl (fun ls hl => ?_)
                                            refine lv_goto (tgt := 18) C.1 C.2.1 dL_law_647 (by decide) ?_
                                            exact ih _ _ _ _ hM tx1 tx2 _ _ h ls (lv_sub hl [1, 2, 3, 0] rfl)
