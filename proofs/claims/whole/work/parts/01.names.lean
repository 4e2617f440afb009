-- ===== PART A: goes FIRST, ahead of the names: the tables' words, and 'selects' of the private methods out of them =====
/-- a private method of a class that the tables say can be made, by its rows of tables_1 -/
def lw_okq (q : MethodName × Nat) : Prop := (q.1.cls ≠ "java/lang/invoke/MethodHandle" ∧ q.1.cls ≠ "java/lang/invoke/VarHandle") ∧ Cond.instantiable q.1.cls q.2 ∈ tables_1 ∧ Cond.privateMethod q.1 ∈ tables_1 ∧ Cond.instanceMethod q.1 ∈ tables_1
theorem lw_p0 : lw_okq (⟨"EnumRules$Tokens", "addAt", "(LEnumRules$Tape;I)I"⟩, 6) := ⟨⟨by decide +kernel, by decide +kernel⟩, List.mem_of_getElem? (i := 200) (by decide +kernel), List.mem_of_getElem? (i := 402) (by decide +kernel), List.mem_of_getElem? (i := 403) (by decide +kernel)⟩
theorem lw_p1 : lw_okq (⟨"EnumRules$Tokens", "wordOrName", "(LEnumRules$Tape;II)I"⟩, 6) := ⟨⟨by decide +kernel, by decide +kernel⟩, List.mem_of_getElem? (i := 200) (by decide +kernel), List.mem_of_getElem? (i := 424) (by decide +kernel), List.mem_of_getElem? (i := 425) (by decide +kernel)⟩
theorem lw_p2 : lw_okq (⟨"EnumRules$Tokens", "add", "(III)V"⟩, 6) := ⟨⟨by decide +kernel, by decide +kernel⟩, List.mem_of_getElem? (i := 200) (by decide +kernel), List.mem_of_getElem? (i := 489) (by decide +kernel), List.mem_of_getElem? (i := 490) (by decide +kernel)⟩
theorem lw_p3 : lw_okq (⟨"EnumRules$Parser", "openEnum", "()Z"⟩, 5) := ⟨⟨by decide +kernel, by decide +kernel⟩, List.mem_of_getElem? (i := 194) (by decide +kernel), List.mem_of_getElem? (i := 577) (by decide +kernel), List.mem_of_getElem? (i := 578) (by decide +kernel)⟩
theorem lw_p4 : lw_okq (⟨"EnumRules$Parser", "readConstants", "()Z"⟩, 5) := ⟨⟨by decide +kernel, by decide +kernel⟩, List.mem_of_getElem? (i := 194) (by decide +kernel), List.mem_of_getElem? (i := 595) (by decide +kernel), List.mem_of_getElem? (i := 596) (by decide +kernel)⟩
theorem lw_p5 : lw_okq (⟨"EnumRules$Enumeration", "addName", "(I)V"⟩, 19) := ⟨⟨by decide +kernel, by decide +kernel⟩, List.mem_of_getElem? (i := 34) (by decide +kernel), List.mem_of_getElem? (i := 603) (by decide +kernel), List.mem_of_getElem? (i := 604) (by decide +kernel)⟩
theorem lw_p6 : lw_okq (⟨"EnumRules$Parser", "readArg", "()Z"⟩, 5) := ⟨⟨by decide +kernel, by decide +kernel⟩, List.mem_of_getElem? (i := 194) (by decide +kernel), List.mem_of_getElem? (i := 607) (by decide +kernel), List.mem_of_getElem? (i := 608) (by decide +kernel)⟩
theorem lw_p7 : lw_okq (⟨"EnumRules$Parser", "readBody", "()Z"⟩, 5) := ⟨⟨by decide +kernel, by decide +kernel⟩, List.mem_of_getElem? (i := 194) (by decide +kernel), List.mem_of_getElem? (i := 615) (by decide +kernel), List.mem_of_getElem? (i := 616) (by decide +kernel)⟩
theorem lw_p8 : lw_okq (⟨"EnumRules$ExpReader", "readNesting", "()Z"⟩, 9) := ⟨⟨by decide +kernel, by decide +kernel⟩, List.mem_of_getElem? (i := 231) (by decide +kernel), List.mem_of_getElem? (i := 623) (by decide +kernel), List.mem_of_getElem? (i := 624) (by decide +kernel)⟩
theorem lw_p9 : lw_okq (⟨"EnumRules$ExpReader", "pushWaiting", "(I)V"⟩, 9) := ⟨⟨by decide +kernel, by decide +kernel⟩, List.mem_of_getElem? (i := 231) (by decide +kernel), List.mem_of_getElem? (i := 627) (by decide +kernel), List.mem_of_getElem? (i := 628) (by decide +kernel)⟩
theorem lw_p10 : lw_okq (⟨"EnumRules$ExpReader", "readOne", "()Z"⟩, 9) := ⟨⟨by decide +kernel, by decide +kernel⟩, List.mem_of_getElem? (i := 231) (by decide +kernel), List.mem_of_getElem? (i := 632) (by decide +kernel), List.mem_of_getElem? (i := 633) (by decide +kernel)⟩
theorem lw_p11 : lw_okq (⟨"EnumRules$ExpReader", "readName", "()Z"⟩, 9) := ⟨⟨by decide +kernel, by decide +kernel⟩, List.mem_of_getElem? (i := 231) (by decide +kernel), List.mem_of_getElem? (i := 637) (by decide +kernel), List.mem_of_getElem? (i := 638) (by decide +kernel)⟩
theorem lw_p12 : lw_okq (⟨"EnumRules$ExpReader", "readWord", "(IZ)Z"⟩, 9) := ⟨⟨by decide +kernel, by decide +kernel⟩, List.mem_of_getElem? (i := 231) (by decide +kernel), List.mem_of_getElem? (i := 641) (by decide +kernel), List.mem_of_getElem? (i := 642) (by decide +kernel)⟩
theorem lw_p13 : lw_okq (⟨"EnumRules$ExpReader", "readClosing", "()Z"⟩, 9) := ⟨⟨by decide +kernel, by decide +kernel⟩, List.mem_of_getElem? (i := 231) (by decide +kernel), List.mem_of_getElem? (i := 649) (by decide +kernel), List.mem_of_getElem? (i := 650) (by decide +kernel)⟩
theorem lw_p14 : lw_okq (⟨"EnumRules$ExpReader", "putWaiting", "(I)V"⟩, 9) := ⟨⟨by decide +kernel, by decide +kernel⟩, List.mem_of_getElem? (i := 231) (by decide +kernel), List.mem_of_getElem? (i := 653) (by decide +kernel), List.mem_of_getElem? (i := 654) (by decide +kernel)⟩
theorem lw_p15 : lw_okq (⟨"EnumRules$ExpReader", "strengthOf", "(I)I"⟩, 9) := ⟨⟨by decide +kernel, by decide +kernel⟩, List.mem_of_getElem? (i := 231) (by decide +kernel), List.mem_of_getElem? (i := 657) (by decide +kernel), List.mem_of_getElem? (i := 658) (by decide +kernel)⟩
def lw_privs_1 : List (MethodName × Nat) := [(⟨"EnumRules$Tokens", "addAt", "(LEnumRules$Tape;I)I"⟩, 6), (⟨"EnumRules$Tokens", "wordOrName", "(LEnumRules$Tape;II)I"⟩, 6), (⟨"EnumRules$Tokens", "add", "(III)V"⟩, 6), (⟨"EnumRules$Parser", "openEnum", "()Z"⟩, 5), (⟨"EnumRules$Parser", "readConstants", "()Z"⟩, 5), (⟨"EnumRules$Enumeration", "addName", "(I)V"⟩, 19), (⟨"EnumRules$Parser", "readArg", "()Z"⟩, 5), (⟨"EnumRules$Parser", "readBody", "()Z"⟩, 5), (⟨"EnumRules$ExpReader", "readNesting", "()Z"⟩, 9), (⟨"EnumRules$ExpReader", "pushWaiting", "(I)V"⟩, 9), (⟨"EnumRules$ExpReader", "readOne", "()Z"⟩, 9), (⟨"EnumRules$ExpReader", "readName", "()Z"⟩, 9), (⟨"EnumRules$ExpReader", "readWord", "(IZ)Z"⟩, 9), (⟨"EnumRules$ExpReader", "readClosing", "()Z"⟩, 9), (⟨"EnumRules$ExpReader", "putWaiting", "(I)V"⟩, 9), (⟨"EnumRules$ExpReader", "strengthOf", "(I)I"⟩, 9)]
theorem lw_r1 : ∀ q ∈ lw_privs_1, lw_okq q := List.forall_mem_cons.mpr ⟨lw_p0, List.forall_mem_cons.mpr ⟨lw_p1, List.forall_mem_cons.mpr ⟨lw_p2, List.forall_mem_cons.mpr ⟨lw_p3, List.forall_mem_cons.mpr ⟨lw_p4, List.forall_mem_cons.mpr ⟨lw_p5, List.forall_mem_cons.mpr ⟨lw_p6, List.forall_mem_cons.mpr ⟨lw_p7, List.forall_mem_cons.mpr ⟨lw_p8, List.forall_mem_cons.mpr ⟨lw_p9, List.forall_mem_cons.mpr ⟨lw_p10, List.forall_mem_cons.mpr ⟨lw_p11, List.forall_mem_cons.mpr ⟨lw_p12, List.forall_mem_cons.mpr ⟨lw_p13, List.forall_mem_cons.mpr ⟨lw_p14, List.forall_mem_cons.mpr ⟨lw_p15, fun _ h => absurd h List.not_mem_nil⟩⟩⟩⟩⟩⟩⟩⟩⟩⟩⟩⟩⟩⟩⟩⟩
theorem lw_p16 : lw_okq (⟨"EnumRules$ExpReader", "joiningOp", "()I"⟩, 9) := ⟨⟨by decide +kernel, by decide +kernel⟩, List.mem_of_getElem? (i := 231) (by decide +kernel), List.mem_of_getElem? (i := 661) (by decide +kernel), List.mem_of_getElem? (i := 662) (by decide +kernel)⟩
theorem lw_p17 : lw_okq (⟨"EnumRules$ExpReader", "finishExp", "()Z"⟩, 9) := ⟨⟨by decide +kernel, by decide +kernel⟩, List.mem_of_getElem? (i := 231) (by decide +kernel), List.mem_of_getElem? (i := 665) (by decide +kernel), List.mem_of_getElem? (i := 666) (by decide +kernel)⟩
theorem lw_p18 : lw_okq (⟨"EnumRules$ExpReader", "readSign", "(I)Z"⟩, 9) := ⟨⟨by decide +kernel, by decide +kernel⟩, List.mem_of_getElem? (i := 231) (by decide +kernel), List.mem_of_getElem? (i := 669) (by decide +kernel), List.mem_of_getElem? (i := 670) (by decide +kernel)⟩
theorem lw_p19 : lw_okq (⟨"EnumRules$Parser", "readMembers", "()Z"⟩, 5) := ⟨⟨by decide +kernel, by decide +kernel⟩, List.mem_of_getElem? (i := 194) (by decide +kernel), List.mem_of_getElem? (i := 673) (by decide +kernel), List.mem_of_getElem? (i := 674) (by decide +kernel)⟩
theorem lw_p20 : lw_okq (⟨"EnumRules$Parser", "readAbstract", "()Z"⟩, 5) := ⟨⟨by decide +kernel, by decide +kernel⟩, List.mem_of_getElem? (i := 194) (by decide +kernel), List.mem_of_getElem? (i := 677) (by decide +kernel), List.mem_of_getElem? (i := 678) (by decide +kernel)⟩
theorem lw_p21 : lw_okq (⟨"EnumRules$Parser", "readDef", "()Z"⟩, 5) := ⟨⟨by decide +kernel, by decide +kernel⟩, List.mem_of_getElem? (i := 194) (by decide +kernel), List.mem_of_getElem? (i := 685) (by decide +kernel), List.mem_of_getElem? (i := 686) (by decide +kernel)⟩
theorem lw_p22 : lw_okq (⟨"EnumRules$Parser", "readField", "()Z"⟩, 5) := ⟨⟨by decide +kernel, by decide +kernel⟩, List.mem_of_getElem? (i := 194) (by decide +kernel), List.mem_of_getElem? (i := 689) (by decide +kernel), List.mem_of_getElem? (i := 690) (by decide +kernel)⟩
theorem lw_p23 : lw_okq (⟨"EnumRules$Parser", "readConst", "()Z"⟩, 5) := ⟨⟨by decide +kernel, by decide +kernel⟩, List.mem_of_getElem? (i := 194) (by decide +kernel), List.mem_of_getElem? (i := 697) (by decide +kernel), List.mem_of_getElem? (i := 698) (by decide +kernel)⟩
theorem lw_p24 : lw_okq (⟨"EnumRules$Parser", "readMaker", "()Z"⟩, 5) := ⟨⟨by decide +kernel, by decide +kernel⟩, List.mem_of_getElem? (i := 194) (by decide +kernel), List.mem_of_getElem? (i := 705) (by decide +kernel), List.mem_of_getElem? (i := 706) (by decide +kernel)⟩
theorem lw_p25 : lw_okq (⟨"EnumRules$Binder", "bindOp", "(I)V"⟩, 5) := ⟨⟨by decide +kernel, by decide +kernel⟩, List.mem_of_getElem? (i := 281) (by decide +kernel), List.mem_of_getElem? (i := 718) (by decide +kernel), List.mem_of_getElem? (i := 719) (by decide +kernel)⟩
theorem lw_p26 : lw_okq (⟨"EnumRules$Binder", "bindGive", "(II)V"⟩, 5) := ⟨⟨by decide +kernel, by decide +kernel⟩, List.mem_of_getElem? (i := 281) (by decide +kernel), List.mem_of_getElem? (i := 734) (by decide +kernel), List.mem_of_getElem? (i := 735) (by decide +kernel)⟩
theorem lw_p27 : lw_okq (⟨"EnumRules$Binder", "bindField", "(II)V"⟩, 5) := ⟨⟨by decide +kernel, by decide +kernel⟩, List.mem_of_getElem? (i := 281) (by decide +kernel), List.mem_of_getElem? (i := 758) (by decide +kernel), List.mem_of_getElem? (i := 759) (by decide +kernel)⟩
theorem lw_p28 : lw_okq (⟨"EnumRules$Binder", "bindConstant", "(III)V"⟩, 5) := ⟨⟨by decide +kernel, by decide +kernel⟩, List.mem_of_getElem? (i := 281) (by decide +kernel), List.mem_of_getElem? (i := 772) (by decide +kernel), List.mem_of_getElem? (i := 773) (by decide +kernel)⟩
theorem lw_p29 : lw_okq (⟨"EnumRules$Binder", "noteTwice", "([II)V"⟩, 5) := ⟨⟨by decide +kernel, by decide +kernel⟩, List.mem_of_getElem? (i := 281) (by decide +kernel), List.mem_of_getElem? (i := 776) (by decide +kernel), List.mem_of_getElem? (i := 777) (by decide +kernel)⟩
theorem lw_p30 : lw_okq (⟨"EnumRules$Binder", "noteNotGiven", "(LEnumRules$Enumeration;)V"⟩, 5) := ⟨⟨by decide +kernel, by decide +kernel⟩, List.mem_of_getElem? (i := 281) (by decide +kernel), List.mem_of_getElem? (i := 780) (by decide +kernel), List.mem_of_getElem? (i := 781) (by decide +kernel)⟩
theorem lw_p31 : lw_okq (⟨"EnumRules$Binder", "isGiven", "(LEnumRules$Enumeration;II)Z"⟩, 5) := ⟨⟨by decide +kernel, by decide +kernel⟩, List.mem_of_getElem? (i := 281) (by decide +kernel), List.mem_of_getElem? (i := 788) (by decide +kernel), List.mem_of_getElem? (i := 789) (by decide +kernel)⟩
def lw_privs_2 : List (MethodName × Nat) := [(⟨"EnumRules$ExpReader", "joiningOp", "()I"⟩, 9), (⟨"EnumRules$ExpReader", "finishExp", "()Z"⟩, 9), (⟨"EnumRules$ExpReader", "readSign", "(I)Z"⟩, 9), (⟨"EnumRules$Parser", "readMembers", "()Z"⟩, 5), (⟨"EnumRules$Parser", "readAbstract", "()Z"⟩, 5), (⟨"EnumRules$Parser", "readDef", "()Z"⟩, 5), (⟨"EnumRules$Parser", "readField", "()Z"⟩, 5), (⟨"EnumRules$Parser", "readConst", "()Z"⟩, 5), (⟨"EnumRules$Parser", "readMaker", "()Z"⟩, 5), (⟨"EnumRules$Binder", "bindOp", "(I)V"⟩, 5), (⟨"EnumRules$Binder", "bindGive", "(II)V"⟩, 5), (⟨"EnumRules$Binder", "bindField", "(II)V"⟩, 5), (⟨"EnumRules$Binder", "bindConstant", "(III)V"⟩, 5), (⟨"EnumRules$Binder", "noteTwice", "([II)V"⟩, 5), (⟨"EnumRules$Binder", "noteNotGiven", "(LEnumRules$Enumeration;)V"⟩, 5), (⟨"EnumRules$Binder", "isGiven", "(LEnumRules$Enumeration;II)Z"⟩, 5)]
theorem lw_r2 : ∀ q ∈ lw_privs_2, lw_okq q := List.forall_mem_cons.mpr ⟨lw_p16, List.forall_mem_cons.mpr ⟨lw_p17, List.forall_mem_cons.mpr ⟨lw_p18, List.forall_mem_cons.mpr ⟨lw_p19, List.forall_mem_cons.mpr ⟨lw_p20, List.forall_mem_cons.mpr ⟨lw_p21, List.forall_mem_cons.mpr ⟨lw_p22, List.forall_mem_cons.mpr ⟨lw_p23, List.forall_mem_cons.mpr ⟨lw_p24, List.forall_mem_cons.mpr ⟨lw_p25, List.forall_mem_cons.mpr ⟨lw_p26, List.forall_mem_cons.mpr ⟨lw_p27, List.forall_mem_cons.mpr ⟨lw_p28, List.forall_mem_cons.mpr ⟨lw_p29, List.forall_mem_cons.mpr ⟨lw_p30, List.forall_mem_cons.mpr ⟨lw_p31, fun _ h => absurd h List.not_mem_nil⟩⟩⟩⟩⟩⟩⟩⟩⟩⟩⟩⟩⟩⟩⟩⟩
theorem lw_p32 : lw_okq (⟨"EnumRules", "takeSpare", "()V"⟩, 12) := ⟨⟨by decide +kernel, by decide +kernel⟩, List.mem_of_getElem? (i := 19) (by decide +kernel), List.mem_of_getElem? (i := 792) (by decide +kernel), List.mem_of_getElem? (i := 793) (by decide +kernel)⟩
theorem lw_p33 : lw_okq (⟨"EnumRules$Runner", "start", "(ILEnumRules$Enumeration;I)V"⟩, 6) := ⟨⟨by decide +kernel, by decide +kernel⟩, List.mem_of_getElem? (i := 303) (by decide +kernel), List.mem_of_getElem? (i := 833) (by decide +kernel), List.mem_of_getElem? (i := 834) (by decide +kernel)⟩
theorem lw_p34 : lw_okq (⟨"EnumRules$Runner", "addTrace", "(I)V"⟩, 6) := ⟨⟨by decide +kernel, by decide +kernel⟩, List.mem_of_getElem? (i := 303) (by decide +kernel), List.mem_of_getElem? (i := 837) (by decide +kernel), List.mem_of_getElem? (i := 838) (by decide +kernel)⟩
theorem lw_p35 : lw_okq (⟨"EnumRules$Runner", "make", "(ILEnumRules$Enumeration;II)V"⟩, 6) := ⟨⟨by decide +kernel, by decide +kernel⟩, List.mem_of_getElem? (i := 303) (by decide +kernel), List.mem_of_getElem? (i := 841) (by decide +kernel), List.mem_of_getElem? (i := 842) (by decide +kernel)⟩
theorem lw_p36 : lw_okq (⟨"EnumRules$Runner", "step", "(ILEnumRules$Enumeration;II)V"⟩, 6) := ⟨⟨by decide +kernel, by decide +kernel⟩, List.mem_of_getElem? (i := 303) (by decide +kernel), List.mem_of_getElem? (i := 850) (by decide +kernel), List.mem_of_getElem? (i := 851) (by decide +kernel)⟩
theorem lw_p37 : lw_okq (⟨"EnumRules$Runner", "push", "(I)V"⟩, 6) := ⟨⟨by decide +kernel, by decide +kernel⟩, List.mem_of_getElem? (i := 303) (by decide +kernel), List.mem_of_getElem? (i := 855) (by decide +kernel), List.mem_of_getElem? (i := 856) (by decide +kernel)⟩
theorem lw_p38 : lw_okq (⟨"EnumRules$Runner", "valOf", "(III)I"⟩, 6) := ⟨⟨by decide +kernel, by decide +kernel⟩, List.mem_of_getElem? (i := 303) (by decide +kernel), List.mem_of_getElem? (i := 860) (by decide +kernel), List.mem_of_getElem? (i := 861) (by decide +kernel)⟩
theorem lw_p39 : lw_okq (⟨"EnumRules$Runner", "pop", "()I"⟩, 6) := ⟨⟨by decide +kernel, by decide +kernel⟩, List.mem_of_getElem? (i := 303) (by decide +kernel), List.mem_of_getElem? (i := 866) (by decide +kernel), List.mem_of_getElem? (i := 867) (by decide +kernel)⟩
theorem lw_p40 : lw_okq (⟨"EnumRules$Runner", "join", "(I)V"⟩, 6) := ⟨⟨by decide +kernel, by decide +kernel⟩, List.mem_of_getElem? (i := 303) (by decide +kernel), List.mem_of_getElem? (i := 870) (by decide +kernel), List.mem_of_getElem? (i := 871) (by decide +kernel)⟩
theorem lw_p41 : lw_okq (⟨"EnumRules$Runner", "divide", "(II)I"⟩, 6) := ⟨⟨by decide +kernel, by decide +kernel⟩, List.mem_of_getElem? (i := 303) (by decide +kernel), List.mem_of_getElem? (i := 874) (by decide +kernel), List.mem_of_getElem? (i := 875) (by decide +kernel)⟩
theorem lw_p42 : lw_okq (⟨"EnumRules$Runner", "set", "(LEnumRules$Enumeration;II)V"⟩, 6) := ⟨⟨by decide +kernel, by decide +kernel⟩, List.mem_of_getElem? (i := 303) (by decide +kernel), List.mem_of_getElem? (i := 878) (by decide +kernel), List.mem_of_getElem? (i := 879) (by decide +kernel)⟩
theorem lw_p43 : lw_okq (⟨"EnumRules", "finish", "(I)I"⟩, 12) := ⟨⟨by decide +kernel, by decide +kernel⟩, List.mem_of_getElem? (i := 19) (by decide +kernel), List.mem_of_getElem? (i := 883) (by decide +kernel), List.mem_of_getElem? (i := 884) (by decide +kernel)⟩
theorem lw_p44 : lw_okq (⟨"EnumRules", "takeInHand", "(II)V"⟩, 12) := ⟨⟨by decide +kernel, by decide +kernel⟩, List.mem_of_getElem? (i := 19) (by decide +kernel), List.mem_of_getElem? (i := 913) (by decide +kernel), List.mem_of_getElem? (i := 914) (by decide +kernel)⟩
theorem lw_p45 : lw_okq (⟨"EnumRules", "isInHand", "(I)Z"⟩, 12) := ⟨⟨by decide +kernel, by decide +kernel⟩, List.mem_of_getElem? (i := 19) (by decide +kernel), List.mem_of_getElem? (i := 922) (by decide +kernel), List.mem_of_getElem? (i := 923) (by decide +kernel)⟩
theorem lw_p46 : lw_okq (⟨"EnumRules", "lookFor", "(LEnumRules$Enumeration;)I"⟩, 12) := ⟨⟨by decide +kernel, by decide +kernel⟩, List.mem_of_getElem? (i := 19) (by decide +kernel), List.mem_of_getElem? (i := 934) (by decide +kernel), List.mem_of_getElem? (i := 935) (by decide +kernel)⟩
theorem lw_p47 : lw_okq (⟨"EnumRulesModel", "readText", "()V"⟩, 74) := ⟨⟨by decide +kernel, by decide +kernel⟩, List.mem_of_getElem? (i := 952) (by decide +kernel), List.mem_of_getElem? (i := 1199) (by decide +kernel), List.mem_of_getElem? (i := 1200) (by decide +kernel)⟩
def lw_privs_3 : List (MethodName × Nat) := [(⟨"EnumRules", "takeSpare", "()V"⟩, 12), (⟨"EnumRules$Runner", "start", "(ILEnumRules$Enumeration;I)V"⟩, 6), (⟨"EnumRules$Runner", "addTrace", "(I)V"⟩, 6), (⟨"EnumRules$Runner", "make", "(ILEnumRules$Enumeration;II)V"⟩, 6), (⟨"EnumRules$Runner", "step", "(ILEnumRules$Enumeration;II)V"⟩, 6), (⟨"EnumRules$Runner", "push", "(I)V"⟩, 6), (⟨"EnumRules$Runner", "valOf", "(III)I"⟩, 6), (⟨"EnumRules$Runner", "pop", "()I"⟩, 6), (⟨"EnumRules$Runner", "join", "(I)V"⟩, 6), (⟨"EnumRules$Runner", "divide", "(II)I"⟩, 6), (⟨"EnumRules$Runner", "set", "(LEnumRules$Enumeration;II)V"⟩, 6), (⟨"EnumRules", "finish", "(I)I"⟩, 12), (⟨"EnumRules", "takeInHand", "(II)V"⟩, 12), (⟨"EnumRules", "isInHand", "(I)Z"⟩, 12), (⟨"EnumRules", "lookFor", "(LEnumRules$Enumeration;)I"⟩, 12), (⟨"EnumRulesModel", "readText", "()V"⟩, 74)]
theorem lw_r3 : ∀ q ∈ lw_privs_3, lw_okq q := List.forall_mem_cons.mpr ⟨lw_p32, List.forall_mem_cons.mpr ⟨lw_p33, List.forall_mem_cons.mpr ⟨lw_p34, List.forall_mem_cons.mpr ⟨lw_p35, List.forall_mem_cons.mpr ⟨lw_p36, List.forall_mem_cons.mpr ⟨lw_p37, List.forall_mem_cons.mpr ⟨lw_p38, List.forall_mem_cons.mpr ⟨lw_p39, List.forall_mem_cons.mpr ⟨lw_p40, List.forall_mem_cons.mpr ⟨lw_p41, List.forall_mem_cons.mpr ⟨lw_p42, List.forall_mem_cons.mpr ⟨lw_p43, List.forall_mem_cons.mpr ⟨lw_p44, List.forall_mem_cons.mpr ⟨lw_p45, List.forall_mem_cons.mpr ⟨lw_p46, List.forall_mem_cons.mpr ⟨lw_p47, fun _ h => absurd h List.not_mem_nil⟩⟩⟩⟩⟩⟩⟩⟩⟩⟩⟩⟩⟩⟩⟩⟩
theorem lw_p48 : lw_okq (⟨"EnumRulesModel", "next", "()V"⟩, 74) := ⟨⟨by decide +kernel, by decide +kernel⟩, List.mem_of_getElem? (i := 952) (by decide +kernel), List.mem_of_getElem? (i := 1203) (by decide +kernel), List.mem_of_getElem? (i := 1204) (by decide +kernel)⟩
theorem lw_p49 : lw_okq (⟨"EnumRulesModel", "byteAt", "(I)I"⟩, 74) := ⟨⟨by decide +kernel, by decide +kernel⟩, List.mem_of_getElem? (i := 952) (by decide +kernel), List.mem_of_getElem? (i := 1207) (by decide +kernel), List.mem_of_getElem? (i := 1208) (by decide +kernel)⟩
theorem lw_p50 : lw_okq (⟨"EnumRulesModel", "wordAt", "()I"⟩, 74) := ⟨⟨by decide +kernel, by decide +kernel⟩, List.mem_of_getElem? (i := 952) (by decide +kernel), List.mem_of_getElem? (i := 1217) (by decide +kernel), List.mem_of_getElem? (i := 1218) (by decide +kernel)⟩
theorem lw_p51 : lw_okq (⟨"EnumRulesModel", "spells", "(JI)Z"⟩, 74) := ⟨⟨by decide +kernel, by decide +kernel⟩, List.mem_of_getElem? (i := 952) (by decide +kernel), List.mem_of_getElem? (i := 1222) (by decide +kernel), List.mem_of_getElem? (i := 1223) (by decide +kernel)⟩
theorem lw_p52 : lw_okq (⟨"EnumRulesModel", "isGood", "()Z"⟩, 74) := ⟨⟨by decide +kernel, by decide +kernel⟩, List.mem_of_getElem? (i := 952) (by decide +kernel), List.mem_of_getElem? (i := 1238) (by decide +kernel), List.mem_of_getElem? (i := 1239) (by decide +kernel)⟩
theorem lw_p53 : lw_okq (⟨"EnumRulesModel", "stop", "()V"⟩, 74) := ⟨⟨by decide +kernel, by decide +kernel⟩, List.mem_of_getElem? (i := 952) (by decide +kernel), List.mem_of_getElem? (i := 1242) (by decide +kernel), List.mem_of_getElem? (i := 1243) (by decide +kernel)⟩
theorem lw_p54 : lw_okq (⟨"EnumRulesModel", "readEnum", "()V"⟩, 74) := ⟨⟨by decide +kernel, by decide +kernel⟩, List.mem_of_getElem? (i := 952) (by decide +kernel), List.mem_of_getElem? (i := 1246) (by decide +kernel), List.mem_of_getElem? (i := 1247) (by decide +kernel)⟩
theorem lw_p55 : lw_okq (⟨"EnumRulesModel", "need", "(I)V"⟩, 74) := ⟨⟨by decide +kernel, by decide +kernel⟩, List.mem_of_getElem? (i := 952) (by decide +kernel), List.mem_of_getElem? (i := 1250) (by decide +kernel), List.mem_of_getElem? (i := 1251) (by decide +kernel)⟩
theorem lw_p56 : lw_okq (⟨"EnumRulesModel", "isAt", "(I)Z"⟩, 74) := ⟨⟨by decide +kernel, by decide +kernel⟩, List.mem_of_getElem? (i := 952) (by decide +kernel), List.mem_of_getElem? (i := 1254) (by decide +kernel), List.mem_of_getElem? (i := 1255) (by decide +kernel)⟩
theorem lw_p57 : lw_okq (⟨"EnumRulesModel", "readConst", "()V"⟩, 74) := ⟨⟨by decide +kernel, by decide +kernel⟩, List.mem_of_getElem? (i := 952) (by decide +kernel), List.mem_of_getElem? (i := 1258) (by decide +kernel), List.mem_of_getElem? (i := 1259) (by decide +kernel)⟩
theorem lw_p58 : lw_okq (⟨"EnumRulesModel", "readExp", "()V"⟩, 74) := ⟨⟨by decide +kernel, by decide +kernel⟩, List.mem_of_getElem? (i := 952) (by decide +kernel), List.mem_of_getElem? (i := 1262) (by decide +kernel), List.mem_of_getElem? (i := 1263) (by decide +kernel)⟩
theorem lw_p59 : lw_okq (⟨"EnumRulesModel", "readOne", "()V"⟩, 74) := ⟨⟨by decide +kernel, by decide +kernel⟩, List.mem_of_getElem? (i := 952) (by decide +kernel), List.mem_of_getElem? (i := 1266) (by decide +kernel), List.mem_of_getElem? (i := 1267) (by decide +kernel)⟩
theorem lw_p60 : lw_okq (⟨"EnumRulesModel", "emit", "(II)V"⟩, 74) := ⟨⟨by decide +kernel, by decide +kernel⟩, List.mem_of_getElem? (i := 952) (by decide +kernel), List.mem_of_getElem? (i := 1270) (by decide +kernel), List.mem_of_getElem? (i := 1271) (by decide +kernel)⟩
theorem lw_p61 : lw_okq (⟨"EnumRulesModel", "closeMinus", "(I)I"⟩, 74) := ⟨⟨by decide +kernel, by decide +kernel⟩, List.mem_of_getElem? (i := 952) (by decide +kernel), List.mem_of_getElem? (i := 1274) (by decide +kernel), List.mem_of_getElem? (i := 1275) (by decide +kernel)⟩
theorem lw_p62 : lw_okq (⟨"EnumRulesModel", "hasOpen", "(I)Z"⟩, 74) := ⟨⟨by decide +kernel, by decide +kernel⟩, List.mem_of_getElem? (i := 952) (by decide +kernel), List.mem_of_getElem? (i := 1281) (by decide +kernel), List.mem_of_getElem? (i := 1282) (by decide +kernel)⟩
theorem lw_p63 : lw_okq (⟨"EnumRulesModel", "readMember", "()V"⟩, 74) := ⟨⟨by decide +kernel, by decide +kernel⟩, List.mem_of_getElem? (i := 952) (by decide +kernel), List.mem_of_getElem? (i := 1285) (by decide +kernel), List.mem_of_getElem? (i := 1286) (by decide +kernel)⟩
def lw_privs_4 : List (MethodName × Nat) := [(⟨"EnumRulesModel", "next", "()V"⟩, 74), (⟨"EnumRulesModel", "byteAt", "(I)I"⟩, 74), (⟨"EnumRulesModel", "wordAt", "()I"⟩, 74), (⟨"EnumRulesModel", "spells", "(JI)Z"⟩, 74), (⟨"EnumRulesModel", "isGood", "()Z"⟩, 74), (⟨"EnumRulesModel", "stop", "()V"⟩, 74), (⟨"EnumRulesModel", "readEnum", "()V"⟩, 74), (⟨"EnumRulesModel", "need", "(I)V"⟩, 74), (⟨"EnumRulesModel", "isAt", "(I)Z"⟩, 74), (⟨"EnumRulesModel", "readConst", "()V"⟩, 74), (⟨"EnumRulesModel", "readExp", "()V"⟩, 74), (⟨"EnumRulesModel", "readOne", "()V"⟩, 74), (⟨"EnumRulesModel", "emit", "(II)V"⟩, 74), (⟨"EnumRulesModel", "closeMinus", "(I)I"⟩, 74), (⟨"EnumRulesModel", "hasOpen", "(I)Z"⟩, 74), (⟨"EnumRulesModel", "readMember", "()V"⟩, 74)]
theorem lw_r4 : ∀ q ∈ lw_privs_4, lw_okq q := List.forall_mem_cons.mpr ⟨lw_p48, List.forall_mem_cons.mpr ⟨lw_p49, List.forall_mem_cons.mpr ⟨lw_p50, List.forall_mem_cons.mpr ⟨lw_p51, List.forall_mem_cons.mpr ⟨lw_p52, List.forall_mem_cons.mpr ⟨lw_p53, List.forall_mem_cons.mpr ⟨lw_p54, List.forall_mem_cons.mpr ⟨lw_p55, List.forall_mem_cons.mpr ⟨lw_p56, List.forall_mem_cons.mpr ⟨lw_p57, List.forall_mem_cons.mpr ⟨lw_p58, List.forall_mem_cons.mpr ⟨lw_p59, List.forall_mem_cons.mpr ⟨lw_p60, List.forall_mem_cons.mpr ⟨lw_p61, List.forall_mem_cons.mpr ⟨lw_p62, List.forall_mem_cons.mpr ⟨lw_p63, fun _ h => absurd h List.not_mem_nil⟩⟩⟩⟩⟩⟩⟩⟩⟩⟩⟩⟩⟩⟩⟩⟩
theorem lw_p64 : lw_okq (⟨"EnumRulesModel", "lookAtAll", "()V"⟩, 74) := ⟨⟨by decide +kernel, by decide +kernel⟩, List.mem_of_getElem? (i := 952) (by decide +kernel), List.mem_of_getElem? (i := 1289) (by decide +kernel), List.mem_of_getElem? (i := 1290) (by decide +kernel)⟩
theorem lw_p65 : lw_okq (⟨"EnumRulesModel", "lookAtEnum", "(I)V"⟩, 74) := ⟨⟨by decide +kernel, by decide +kernel⟩, List.mem_of_getElem? (i := 952) (by decide +kernel), List.mem_of_getElem? (i := 1293) (by decide +kernel), List.mem_of_getElem? (i := 1294) (by decide +kernel)⟩
theorem lw_p66 : lw_okq (⟨"EnumRulesModel", "enumOf", "(II)I"⟩, 74) := ⟨⟨by decide +kernel, by decide +kernel⟩, List.mem_of_getElem? (i := 952) (by decide +kernel), List.mem_of_getElem? (i := 1297) (by decide +kernel), List.mem_of_getElem? (i := 1298) (by decide +kernel)⟩
theorem lw_p67 : lw_okq (⟨"EnumRulesModel", "isSame", "(IIII)Z"⟩, 74) := ⟨⟨by decide +kernel, by decide +kernel⟩, List.mem_of_getElem? (i := 952) (by decide +kernel), List.mem_of_getElem? (i := 1301) (by decide +kernel), List.mem_of_getElem? (i := 1302) (by decide +kernel)⟩
theorem lw_p68 : lw_okq (⟨"EnumRulesModel", "wrong", "(II)V"⟩, 74) := ⟨⟨by decide +kernel, by decide +kernel⟩, List.mem_of_getElem? (i := 952) (by decide +kernel), List.mem_of_getElem? (i := 1305) (by decide +kernel), List.mem_of_getElem? (i := 1306) (by decide +kernel)⟩
theorem lw_p69 : lw_okq (⟨"EnumRulesModel", "first", "(III)V"⟩, 74) := ⟨⟨by decide +kernel, by decide +kernel⟩, List.mem_of_getElem? (i := 952) (by decide +kernel), List.mem_of_getElem? (i := 1309) (by decide +kernel), List.mem_of_getElem? (i := 1310) (by decide +kernel)⟩
theorem lw_p70 : lw_okq (⟨"EnumRulesModel", "giveBy", "(III)I"⟩, 74) := ⟨⟨by decide +kernel, by decide +kernel⟩, List.mem_of_getElem? (i := 952) (by decide +kernel), List.mem_of_getElem? (i := 1313) (by decide +kernel), List.mem_of_getElem? (i := 1314) (by decide +kernel)⟩
theorem lw_p71 : lw_okq (⟨"EnumRulesModel", "memberOf", "(III)I"⟩, 74) := ⟨⟨by decide +kernel, by decide +kernel⟩, List.mem_of_getElem? (i := 952) (by decide +kernel), List.mem_of_getElem? (i := 1317) (by decide +kernel), List.mem_of_getElem? (i := 1318) (by decide +kernel)⟩
theorem lw_p72 : lw_okq (⟨"EnumRulesModel", "lookAtAct", "(I)V"⟩, 74) := ⟨⟨by decide +kernel, by decide +kernel⟩, List.mem_of_getElem? (i := 952) (by decide +kernel), List.mem_of_getElem? (i := 1321) (by decide +kernel), List.mem_of_getElem? (i := 1322) (by decide +kernel)⟩
theorem lw_p73 : lw_okq (⟨"EnumRulesModel", "fieldOf", "(III)I"⟩, 74) := ⟨⟨by decide +kernel, by decide +kernel⟩, List.mem_of_getElem? (i := 952) (by decide +kernel), List.mem_of_getElem? (i := 1325) (by decide +kernel), List.mem_of_getElem? (i := 1326) (by decide +kernel)⟩
theorem lw_p74 : lw_okq (⟨"EnumRulesModel", "constOf", "(III)I"⟩, 74) := ⟨⟨by decide +kernel, by decide +kernel⟩, List.mem_of_getElem? (i := 952) (by decide +kernel), List.mem_of_getElem? (i := 1329) (by decide +kernel), List.mem_of_getElem? (i := 1330) (by decide +kernel)⟩
theorem lw_p75 : lw_okq (⟨"EnumRulesModel", "isEnum", "(I)Z"⟩, 74) := ⟨⟨by decide +kernel, by decide +kernel⟩, List.mem_of_getElem? (i := 952) (by decide +kernel), List.mem_of_getElem? (i := 1345) (by decide +kernel), List.mem_of_getElem? (i := 1346) (by decide +kernel)⟩
theorem lw_p76 : lw_okq (⟨"EnumRulesModel", "isConst", "(II)Z"⟩, 74) := ⟨⟨by decide +kernel, by decide +kernel⟩, List.mem_of_getElem? (i := 952) (by decide +kernel), List.mem_of_getElem? (i := 1354) (by decide +kernel), List.mem_of_getElem? (i := 1355) (by decide +kernel)⟩
theorem lw_p77 : lw_okq (⟨"EnumRulesModel", "want", "(I)Z"⟩, 74) := ⟨⟨by decide +kernel, by decide +kernel⟩, List.mem_of_getElem? (i := 952) (by decide +kernel), List.mem_of_getElem? (i := 1362) (by decide +kernel), List.mem_of_getElem? (i := 1363) (by decide +kernel)⟩
theorem lw_p78 : lw_okq (⟨"EnumRulesModel", "begin", "(I)V"⟩, 74) := ⟨⟨by decide +kernel, by decide +kernel⟩, List.mem_of_getElem? (i := 952) (by decide +kernel), List.mem_of_getElem? (i := 1366) (by decide +kernel), List.mem_of_getElem? (i := 1367) (by decide +kernel)⟩
theorem lw_p79 : lw_okq (⟨"EnumRulesModel", "note", "(II)V"⟩, 74) := ⟨⟨by decide +kernel, by decide +kernel⟩, List.mem_of_getElem? (i := 952) (by decide +kernel), List.mem_of_getElem? (i := 1370) (by decide +kernel), List.mem_of_getElem? (i := 1371) (by decide +kernel)⟩
def lw_privs_5 : List (MethodName × Nat) := [(⟨"EnumRulesModel", "lookAtAll", "()V"⟩, 74), (⟨"EnumRulesModel", "lookAtEnum", "(I)V"⟩, 74), (⟨"EnumRulesModel", "enumOf", "(II)I"⟩, 74), (⟨"EnumRulesModel", "isSame", "(IIII)Z"⟩, 74), (⟨"EnumRulesModel", "wrong", "(II)V"⟩, 74), (⟨"EnumRulesModel", "first", "(III)V"⟩, 74), (⟨"EnumRulesModel", "giveBy", "(III)I"⟩, 74), (⟨"EnumRulesModel", "memberOf", "(III)I"⟩, 74), (⟨"EnumRulesModel", "lookAtAct", "(I)V"⟩, 74), (⟨"EnumRulesModel", "fieldOf", "(III)I"⟩, 74), (⟨"EnumRulesModel", "constOf", "(III)I"⟩, 74), (⟨"EnumRulesModel", "isEnum", "(I)Z"⟩, 74), (⟨"EnumRulesModel", "isConst", "(II)Z"⟩, 74), (⟨"EnumRulesModel", "want", "(I)Z"⟩, 74), (⟨"EnumRulesModel", "begin", "(I)V"⟩, 74), (⟨"EnumRulesModel", "note", "(II)V"⟩, 74)]
theorem lw_r5 : ∀ q ∈ lw_privs_5, lw_okq q := List.forall_mem_cons.mpr ⟨lw_p64, List.forall_mem_cons.mpr ⟨lw_p65, List.forall_mem_cons.mpr ⟨lw_p66, List.forall_mem_cons.mpr ⟨lw_p67, List.forall_mem_cons.mpr ⟨lw_p68, List.forall_mem_cons.mpr ⟨lw_p69, List.forall_mem_cons.mpr ⟨lw_p70, List.forall_mem_cons.mpr ⟨lw_p71, List.forall_mem_cons.mpr ⟨lw_p72, List.forall_mem_cons.mpr ⟨lw_p73, List.forall_mem_cons.mpr ⟨lw_p74, List.forall_mem_cons.mpr ⟨lw_p75, List.forall_mem_cons.mpr ⟨lw_p76, List.forall_mem_cons.mpr ⟨lw_p77, List.forall_mem_cons.mpr ⟨lw_p78, List.forall_mem_cons.mpr ⟨lw_p79, fun _ h => absurd h List.not_mem_nil⟩⟩⟩⟩⟩⟩⟩⟩⟩⟩⟩⟩⟩⟩⟩⟩
theorem lw_p80 : lw_okq (⟨"EnumRulesModel", "pushFrame", "(IIII)V"⟩, 74) := ⟨⟨by decide +kernel, by decide +kernel⟩, List.mem_of_getElem? (i := 952) (by decide +kernel), List.mem_of_getElem? (i := 1374) (by decide +kernel), List.mem_of_getElem? (i := 1375) (by decide +kernel)⟩
theorem lw_p81 : lw_okq (⟨"EnumRulesModel", "work", "()V"⟩, 74) := ⟨⟨by decide +kernel, by decide +kernel⟩, List.mem_of_getElem? (i := 952) (by decide +kernel), List.mem_of_getElem? (i := 1378) (by decide +kernel), List.mem_of_getElem? (i := 1379) (by decide +kernel)⟩
theorem lw_p82 : lw_okq (⟨"EnumRulesModel", "goOn", "(I)V"⟩, 74) := ⟨⟨by decide +kernel, by decide +kernel⟩, List.mem_of_getElem? (i := 952) (by decide +kernel), List.mem_of_getElem? (i := 1382) (by decide +kernel), List.mem_of_getElem? (i := 1383) (by decide +kernel)⟩
theorem lw_p83 : lw_okq (⟨"EnumRulesModel", "made", "(II)V"⟩, 74) := ⟨⟨by decide +kernel, by decide +kernel⟩, List.mem_of_getElem? (i := 952) (by decide +kernel), List.mem_of_getElem? (i := 1386) (by decide +kernel), List.mem_of_getElem? (i := 1387) (by decide +kernel)⟩
theorem lw_p84 : lw_okq (⟨"EnumRulesModel", "doAct", "(II)V"⟩, 74) := ⟨⟨by decide +kernel, by decide +kernel⟩, List.mem_of_getElem? (i := 952) (by decide +kernel), List.mem_of_getElem? (i := 1390) (by decide +kernel), List.mem_of_getElem? (i := 1391) (by decide +kernel)⟩
theorem lw_p85 : lw_okq (⟨"EnumRulesModel", "push", "(I)V"⟩, 74) := ⟨⟨by decide +kernel, by decide +kernel⟩, List.mem_of_getElem? (i := 952) (by decide +kernel), List.mem_of_getElem? (i := 1394) (by decide +kernel), List.mem_of_getElem? (i := 1395) (by decide +kernel)⟩
theorem lw_p86 : lw_okq (⟨"EnumRulesModel", "fails", "(I)V"⟩, 74) := ⟨⟨by decide +kernel, by decide +kernel⟩, List.mem_of_getElem? (i := 952) (by decide +kernel), List.mem_of_getElem? (i := 1398) (by decide +kernel), List.mem_of_getElem? (i := 1399) (by decide +kernel)⟩
def lw_privs_6 : List (MethodName × Nat) := [(⟨"EnumRulesModel", "pushFrame", "(IIII)V"⟩, 74), (⟨"EnumRulesModel", "work", "()V"⟩, 74), (⟨"EnumRulesModel", "goOn", "(I)V"⟩, 74), (⟨"EnumRulesModel", "made", "(II)V"⟩, 74), (⟨"EnumRulesModel", "doAct", "(II)V"⟩, 74), (⟨"EnumRulesModel", "push", "(I)V"⟩, 74), (⟨"EnumRulesModel", "fails", "(I)V"⟩, 74)]
theorem lw_r6 : ∀ q ∈ lw_privs_6, lw_okq q := List.forall_mem_cons.mpr ⟨lw_p80, List.forall_mem_cons.mpr ⟨lw_p81, List.forall_mem_cons.mpr ⟨lw_p82, List.forall_mem_cons.mpr ⟨lw_p83, List.forall_mem_cons.mpr ⟨lw_p84, List.forall_mem_cons.mpr ⟨lw_p85, List.forall_mem_cons.mpr ⟨lw_p86, fun _ h => absurd h List.not_mem_nil⟩⟩⟩⟩⟩⟩⟩
def lw_privs : List (MethodName × Nat) := lw_privs_1 ++ (lw_privs_2 ++ (lw_privs_3 ++ (lw_privs_4 ++ (lw_privs_5 ++ (lw_privs_6)))))
def lw_tbl : List Cond := k2_sels lw_privs ++ tables_1
theorem lw_privs_ok : ∀ q ∈ lw_privs, lw_okq q := by
  show ∀ q ∈ lw_privs_1 ++ (lw_privs_2 ++ (lw_privs_3 ++ (lw_privs_4 ++ (lw_privs_5 ++ (lw_privs_6))))), lw_okq q
  exact List.forall_mem_append.mpr ⟨lw_r1, List.forall_mem_append.mpr ⟨lw_r2, List.forall_mem_append.mpr ⟨lw_r3, List.forall_mem_append.mpr ⟨lw_r4, List.forall_mem_append.mpr ⟨lw_r5, lw_r6⟩⟩⟩⟩⟩
def RX0 : String := "EnumRules$Binder"
def TX0 : u_T := fun k => match k with
  | 0 => ("EnumRules$Binder", "program", "LEnumRules$Program;", false)
  | 1 => ("EnumRules$Binder", "faults", "LEnumRules$Faults;", false)
  | 2 => ("EnumRules$Binder", "open", "LEnumRules$Enumeration;", false)
  | 3 => ("EnumRules$Binder", "constant", "I", false)
  | _ => ("EnumRules$Binder", "inMaker", "Z", false)
def tyX0 : Nat → FieldType := fun k => match k with
  | 0 => .object "EnumRules$Program"
  | 1 => .object "EnumRules$Faults"
  | 2 => .object "EnumRules$Enumeration"
  | 3 => .int
  | _ => .boolean
abbrev wsX00 : List Cond := u_ws RX0 TX0 5
theorem nmX0 : ∀ a, a < 5 → ∀ b, b < 5 → a ≠ b → (TX0 a).2.1 ≠ (TX0 b).2.1 := by decide +kernel
theorem tyX0_ok : ∀ k, k < 5 → parseFieldDescriptor (TX0 k).2.2.1 = some (tyX0 k) := by decide +kernel
abbrev cX0_init : ByteArray := prog_2_method_1_code
def yX0_init : MethodName := ⟨RX0, "<init>", "()V"⟩
abbrev cX0_bind : ByteArray := prog_2_method_2_code
def yX0_bind : MethodName := ⟨RX0, "bind", "(LEnumRules$Program;LEnumRules$Faults;)V"⟩
abbrev cX0_noteTwice : ByteArray := prog_2_method_3_code
def yX0_noteTwice : MethodName := ⟨RX0, "noteTwice", "([II)V"⟩
abbrev cX0_bindOp : ByteArray := prog_2_method_4_code
def yX0_bindOp : MethodName := ⟨RX0, "bindOp", "(I)V"⟩
abbrev cX0_bindGive : ByteArray := prog_2_method_5_code
def yX0_bindGive : MethodName := ⟨RX0, "bindGive", "(II)V"⟩
abbrev cX0_bindField : ByteArray := prog_2_method_6_code
def yX0_bindField : MethodName := ⟨RX0, "bindField", "(II)V"⟩
abbrev cX0_bindConstant : ByteArray := prog_2_method_7_code
def yX0_bindConstant : MethodName := ⟨RX0, "bindConstant", "(III)V"⟩
abbrev cX0_noteNotGiven : ByteArray := prog_2_method_8_code
def yX0_noteNotGiven : MethodName := ⟨RX0, "noteNotGiven", "(LEnumRules$Enumeration;)V"⟩
abbrev cX0_isGiven : ByteArray := prog_2_method_9_code
def yX0_isGiven : MethodName := ⟨RX0, "isGiven", "(LEnumRules$Enumeration;II)Z"⟩
def RX1 : String := "EnumRules$Enumeration"
def TX1 : u_T := fun k => match k with
  | 0 => ("EnumRules$Enumeration", "constantNames", "[I", true)
  | 1 => ("EnumRules$Enumeration", "args", "[I", true)
  | 2 => ("EnumRules$Enumeration", "bodies", "[Z", true)
  | 3 => ("EnumRules$Enumeration", "giveCodes", "[I", true)
  | 4 => ("EnumRules$Enumeration", "memberNames", "[I", true)
  | 5 => ("EnumRules$Enumeration", "defCodes", "[I", true)
  | 6 => ("EnumRules$Enumeration", "fieldNames", "[I", true)
  | 7 => ("EnumRules$Enumeration", "fieldCodes", "[I", true)
  | 8 => ("EnumRules$Enumeration", "fieldNumbers", "[I", true)
  | 9 => ("EnumRules$Enumeration", "vals", "[I", true)
  | 10 => ("EnumRules$Enumeration", "names", "[I", true)
  | 11 => ("EnumRules$Enumeration", "namesSize", "I", false)
  | 12 => ("EnumRules$Enumeration", "constants", "I", false)
  | 13 => ("EnumRules$Enumeration", "members", "I", false)
  | 14 => ("EnumRules$Enumeration", "fields", "I", false)
  | 15 => ("EnumRules$Enumeration", "worked", "I", false)
  | 16 => ("EnumRules$Enumeration", "makerCode", "I", false)
  | 17 => ("EnumRules$Enumeration", "state", "I", false)
  | _ => ("EnumRules$Enumeration", "made", "I", false)
def tyX1 : Nat → FieldType := fun k => match k with
  | 0 => .array .int
  | 1 => .array .int
  | 2 => .array .boolean
  | 3 => .array .int
  | 4 => .array .int
  | 5 => .array .int
  | 6 => .array .int
  | 7 => .array .int
  | 8 => .array .int
  | 9 => .array .int
  | 10 => .array .int
  | 11 => .int
  | 12 => .int
  | 13 => .int
  | 14 => .int
  | 15 => .int
  | 16 => .int
  | 17 => .int
  | _ => .int
abbrev wsX10 : List Cond := u_ws RX1 TX1 19
theorem nmX1 : ∀ a, a < 19 → ∀ b, b < 19 → a ≠ b → (TX1 a).2.1 ≠ (TX1 b).2.1 := by decide +kernel
theorem tyX1_ok : ∀ k, k < 19 → parseFieldDescriptor (TX1 k).2.2.1 = some (tyX1 k) := by decide +kernel
abbrev cX1_init : ByteArray := prog_3_method_1_code
def yX1_init : MethodName := ⟨RX1, "<init>", "()V"⟩
abbrev cX1_begin : ByteArray := prog_3_method_2_code
def yX1_begin : MethodName := ⟨RX1, "begin", "()V"⟩
abbrev cX1_addName : ByteArray := prog_3_method_3_code
def yX1_addName : MethodName := ⟨RX1, "addName", "(I)V"⟩
abbrev cX1_addConstant : ByteArray := prog_3_method_4_code
def yX1_addConstant : MethodName := ⟨RX1, "addConstant", "(I)Z"⟩
abbrev cX1_addMember : ByteArray := prog_3_method_5_code
def yX1_addMember : MethodName := ⟨RX1, "addMember", "(II)Z"⟩
abbrev cX1_addField : ByteArray := prog_3_method_6_code
def yX1_addField : MethodName := ⟨RX1, "addField", "(II)Z"⟩
abbrev cX1_hasConstant : ByteArray := prog_3_method_7_code
def yX1_hasConstant : MethodName := ⟨RX1, "hasConstant", "(I)Z"⟩
abbrev cX1_hasMember : ByteArray := prog_3_method_8_code
def yX1_hasMember : MethodName := ⟨RX1, "hasMember", "(I)Z"⟩
abbrev cX1_hasField : ByteArray := prog_3_method_9_code
def yX1_hasField : MethodName := ⟨RX1, "hasField", "(I)Z"⟩
abbrev cX1_isWorked : ByteArray := prog_3_method_10_code
def yX1_isWorked : MethodName := ⟨RX1, "isWorked", "(I)Z"⟩
abbrev cX1_isAbstract : ByteArray := prog_3_method_11_code
def yX1_isAbstract : MethodName := ⟨RX1, "isAbstract", "(I)Z"⟩
abbrev cX1_giveCode : ByteArray := prog_3_method_12_code
def yX1_giveCode : MethodName := ⟨RX1, "giveCode", "(II)I"⟩
abbrev cX1_codeOf : ByteArray := prog_3_method_13_code
def yX1_codeOf : MethodName := ⟨RX1, "codeOf", "(II)I"⟩
def RX2 : String := "EnumRules$ExpReader"
def TX2 : u_T := fun k => match k with
  | 0 => ("EnumRules$ExpReader", "pile", "[I", true)
  | 1 => ("EnumRules$ExpReader", "tokens", "LEnumRules$Tokens;", false)
  | 2 => ("EnumRules$ExpReader", "program", "LEnumRules$Program;", false)
  | 3 => ("EnumRules$ExpReader", "faults", "LEnumRules$Faults;", false)
  | 4 => ("EnumRules$ExpReader", "sort", "I", false)
  | 5 => ("EnumRules$ExpReader", "waiting", "I", false)
  | 6 => ("EnumRules$ExpReader", "opened", "I", false)
  | 7 => ("EnumRules$ExpReader", "nested", "I", false)
  | _ => ("EnumRules$ExpReader", "signs", "I", false)
def tyX2 : Nat → FieldType := fun k => match k with
  | 0 => .array .int
  | 1 => .object "EnumRules$Tokens"
  | 2 => .object "EnumRules$Program"
  | 3 => .object "EnumRules$Faults"
  | 4 => .int
  | 5 => .int
  | 6 => .int
  | 7 => .int
  | _ => .int
abbrev wsX20 : List Cond := u_ws RX2 TX2 9
theorem nmX2 : ∀ a, a < 9 → ∀ b, b < 9 → a ≠ b → (TX2 a).2.1 ≠ (TX2 b).2.1 := by decide +kernel
theorem tyX2_ok : ∀ k, k < 9 → parseFieldDescriptor (TX2 k).2.2.1 = some (tyX2 k) := by decide +kernel
abbrev cX2_init : ByteArray := prog_4_method_1_code
def yX2_init : MethodName := ⟨RX2, "<init>", "()V"⟩
abbrev cX2_begin : ByteArray := prog_4_method_2_code
def yX2_begin : MethodName := ⟨RX2, "begin", "(LEnumRules$Tokens;LEnumRules$Program;LEnumRules$Faults;)V"⟩
abbrev cX2_read : ByteArray := prog_4_method_3_code
def yX2_read : MethodName := ⟨RX2, "read", "(I)Z"⟩
abbrev cX2_readNesting : ByteArray := prog_4_method_4_code
def yX2_readNesting : MethodName := ⟨RX2, "readNesting", "()Z"⟩
abbrev cX2_readOne : ByteArray := prog_4_method_5_code
def yX2_readOne : MethodName := ⟨RX2, "readOne", "()Z"⟩
abbrev cX2_readName : ByteArray := prog_4_method_6_code
def yX2_readName : MethodName := ⟨RX2, "readName", "()Z"⟩
abbrev cX2_readWord : ByteArray := prog_4_method_7_code
def yX2_readWord : MethodName := ⟨RX2, "readWord", "(IZ)Z"⟩
abbrev cX2_readClosing : ByteArray := prog_4_method_8_code
def yX2_readClosing : MethodName := ⟨RX2, "readClosing", "()Z"⟩
abbrev cX2_joiningOp : ByteArray := prog_4_method_9_code
def yX2_joiningOp : MethodName := ⟨RX2, "joiningOp", "()I"⟩
abbrev cX2_readSign : ByteArray := prog_4_method_10_code
def yX2_readSign : MethodName := ⟨RX2, "readSign", "(I)Z"⟩
abbrev cX2_finishExp : ByteArray := prog_4_method_11_code
def yX2_finishExp : MethodName := ⟨RX2, "finishExp", "()Z"⟩
abbrev cX2_strengthOf : ByteArray := prog_4_method_12_code
def yX2_strengthOf : MethodName := ⟨RX2, "strengthOf", "(I)I"⟩
abbrev cX2_pushWaiting : ByteArray := prog_4_method_13_code
def yX2_pushWaiting : MethodName := ⟨RX2, "pushWaiting", "(I)V"⟩
abbrev cX2_putWaiting : ByteArray := prog_4_method_14_code
def yX2_putWaiting : MethodName := ⟨RX2, "putWaiting", "(I)V"⟩
def RX3 : String := "EnumRules$Faults"
def TX3 : u_T := fun k => match k with
  | 0 => ("EnumRules$Faults", "number", "I", false)
  | _ => ("EnumRules$Faults", "place", "I", false)
def tyX3 : Nat → FieldType := fun k => match k with
  | 0 => .int
  | _ => .int
abbrev wsX30 : List Cond := u_ws RX3 TX3 2
theorem nmX3 : ∀ a, a < 2 → ∀ b, b < 2 → a ≠ b → (TX3 a).2.1 ≠ (TX3 b).2.1 := by decide +kernel
theorem tyX3_ok : ∀ k, k < 2 → parseFieldDescriptor (TX3 k).2.2.1 = some (tyX3 k) := by decide +kernel
abbrev cX3_init : ByteArray := prog_5_method_1_code
def yX3_init : MethodName := ⟨RX3, "<init>", "()V"⟩
abbrev cX3_forget : ByteArray := prog_5_method_2_code
def yX3_forget : MethodName := ⟨RX3, "forget", "()V"⟩
abbrev cX3_note : ByteArray := prog_5_method_3_code
def yX3_note : MethodName := ⟨RX3, "note", "(II)V"⟩
abbrev cX3_noteText : ByteArray := prog_5_method_4_code
def yX3_noteText : MethodName := ⟨RX3, "noteText", "(I)V"⟩
def RX4 : String := "EnumRules$Op"
def TX4 : u_T := fun k => match k with
  | _ => ("", "", "", false)
def tyX4 : Nat → FieldType := fun k => match k with
  | _ => .int
abbrev wsX40 : List Cond := u_ws RX4 TX4 0
theorem nmX4 : ∀ a, a < 0 → ∀ b, b < 0 → a ≠ b → (TX4 a).2.1 ≠ (TX4 b).2.1 := by decide +kernel
theorem tyX4_ok : ∀ k, k < 0 → parseFieldDescriptor (TX4 k).2.2.1 = some (tyX4 k) := by decide +kernel
def RX5 : String := "EnumRules$Parser"
def TX5 : u_T := fun k => match k with
  | 0 => ("EnumRules$Parser", "tokens", "LEnumRules$Tokens;", true)
  | 1 => ("EnumRules$Parser", "exps", "LEnumRules$ExpReader;", true)
  | 2 => ("EnumRules$Parser", "program", "LEnumRules$Program;", false)
  | 3 => ("EnumRules$Parser", "faults", "LEnumRules$Faults;", false)
  | _ => ("EnumRules$Parser", "open", "LEnumRules$Enumeration;", false)
def tyX5 : Nat → FieldType := fun k => match k with
  | 0 => .object "EnumRules$Tokens"
  | 1 => .object "EnumRules$ExpReader"
  | 2 => .object "EnumRules$Program"
  | 3 => .object "EnumRules$Faults"
  | _ => .object "EnumRules$Enumeration"
abbrev wsX50 : List Cond := u_ws RX5 TX5 5
theorem nmX5 : ∀ a, a < 5 → ∀ b, b < 5 → a ≠ b → (TX5 a).2.1 ≠ (TX5 b).2.1 := by decide +kernel
theorem tyX5_ok : ∀ k, k < 5 → parseFieldDescriptor (TX5 k).2.2.1 = some (tyX5 k) := by decide +kernel
abbrev cX5_init : ByteArray := prog_7_method_1_code
def yX5_init : MethodName := ⟨RX5, "<init>", "()V"⟩
abbrev cX5_readText : ByteArray := prog_7_method_2_code
def yX5_readText : MethodName := ⟨RX5, "readText", "(LEnumRules$Program;LEnumRules$Faults;)Z"⟩
abbrev cX5_openEnum : ByteArray := prog_7_method_3_code
def yX5_openEnum : MethodName := ⟨RX5, "openEnum", "()Z"⟩
abbrev cX5_readConstants : ByteArray := prog_7_method_4_code
def yX5_readConstants : MethodName := ⟨RX5, "readConstants", "()Z"⟩
abbrev cX5_readArg : ByteArray := prog_7_method_5_code
def yX5_readArg : MethodName := ⟨RX5, "readArg", "()Z"⟩
abbrev cX5_readBody : ByteArray := prog_7_method_6_code
def yX5_readBody : MethodName := ⟨RX5, "readBody", "()Z"⟩
abbrev cX5_readMembers : ByteArray := prog_7_method_7_code
def yX5_readMembers : MethodName := ⟨RX5, "readMembers", "()Z"⟩
abbrev cX5_readAbstract : ByteArray := prog_7_method_8_code
def yX5_readAbstract : MethodName := ⟨RX5, "readAbstract", "()Z"⟩
abbrev cX5_readDef : ByteArray := prog_7_method_9_code
def yX5_readDef : MethodName := ⟨RX5, "readDef", "()Z"⟩
abbrev cX5_readField : ByteArray := prog_7_method_10_code
def yX5_readField : MethodName := ⟨RX5, "readField", "()Z"⟩
abbrev cX5_readConst : ByteArray := prog_7_method_11_code
def yX5_readConst : MethodName := ⟨RX5, "readConst", "()Z"⟩
abbrev cX5_readMaker : ByteArray := prog_7_method_12_code
def yX5_readMaker : MethodName := ⟨RX5, "readMaker", "()Z"⟩
def RX6 : String := "EnumRules$Program"
def TX6 : u_T := fun k => match k with
  | 0 => ("EnumRules$Program", "enums", "[LEnumRules$Enumeration;", true)
  | 1 => ("EnumRules$Program", "enumNames", "[I", true)
  | 2 => ("EnumRules$Program", "code", "[J", true)
  | 3 => ("EnumRules$Program", "size", "I", false)
  | 4 => ("EnumRules$Program", "codeSize", "I", false)
  | _ => ("EnumRules$Program", "text", "LEnumRules$Tape;", false)
def tyX6 : Nat → FieldType := fun k => match k with
  | 0 => .array (.object "EnumRules$Enumeration")
  | 1 => .array .int
  | 2 => .array .long
  | 3 => .int
  | 4 => .int
  | _ => .object "EnumRules$Tape"
abbrev wsX60 : List Cond := u_ws RX6 TX6 6
theorem nmX6 : ∀ a, a < 6 → ∀ b, b < 6 → a ≠ b → (TX6 a).2.1 ≠ (TX6 b).2.1 := by decide +kernel
theorem tyX6_ok : ∀ k, k < 6 → parseFieldDescriptor (TX6 k).2.2.1 = some (tyX6 k) := by decide +kernel
abbrev cX6_init : ByteArray := prog_8_method_1_code
def yX6_init : MethodName := ⟨RX6, "<init>", "()V"⟩
abbrev cX6_begin : ByteArray := prog_8_method_2_code
def yX6_begin : MethodName := ⟨RX6, "begin", "(LEnumRules$Tape;)V"⟩
abbrev cX6_addEnum : ByteArray := prog_8_method_3_code
def yX6_addEnum : MethodName := ⟨RX6, "addEnum", "(I)LEnumRules$Enumeration;"⟩
abbrev cX6_enumAt : ByteArray := prog_8_method_4_code
def yX6_enumAt : MethodName := ⟨RX6, "enumAt", "(I)LEnumRules$Enumeration;"⟩
abbrev cX6_put : ByteArray := prog_8_method_5_code
def yX6_put : MethodName := ⟨RX6, "put", "(II)Z"⟩
abbrev cX6_bindTo : ByteArray := prog_8_method_6_code
def yX6_bindTo : MethodName := ⟨RX6, "bindTo", "(II)V"⟩
abbrev cX6_opAt : ByteArray := prog_8_method_7_code
def yX6_opAt : MethodName := ⟨RX6, "opAt", "(I)I"⟩
abbrev cX6_operandAt : ByteArray := prog_8_method_8_code
def yX6_operandAt : MethodName := ⟨RX6, "operandAt", "(I)I"⟩
def RX7 : String := "EnumRules$Runner"
def TX7 : u_T := fun k => match k with
  | 0 => ("EnumRules$Runner", "traceRows", "[I", true)
  | 1 => ("EnumRules$Runner", "stack", "[I", true)
  | 2 => ("EnumRules$Runner", "traceSize", "I", false)
  | 3 => ("EnumRules$Runner", "top", "I", false)
  | 4 => ("EnumRules$Runner", "failure", "I", false)
  | _ => ("EnumRules$Runner", "program", "LEnumRules$Program;", false)
def tyX7 : Nat → FieldType := fun k => match k with
  | 0 => .array .int
  | 1 => .array .int
  | 2 => .int
  | 3 => .int
  | 4 => .int
  | _ => .object "EnumRules$Program"
abbrev wsX70 : List Cond := u_ws RX7 TX7 6
theorem nmX7 : ∀ a, a < 6 → ∀ b, b < 6 → a ≠ b → (TX7 a).2.1 ≠ (TX7 b).2.1 := by decide +kernel
theorem tyX7_ok : ∀ k, k < 6 → parseFieldDescriptor (TX7 k).2.2.1 = some (tyX7 k) := by decide +kernel
abbrev cX7_init : ByteArray := prog_9_method_1_code
def yX7_init : MethodName := ⟨RX7, "<init>", "()V"⟩
abbrev cX7_begin : ByteArray := prog_9_method_2_code
def yX7_begin : MethodName := ⟨RX7, "begin", "(LEnumRules$Program;)V"⟩
abbrev cX7_failBy : ByteArray := prog_9_method_3_code
def yX7_failBy : MethodName := ⟨RX7, "failBy", "(I)Z"⟩
abbrev cX7_want : ByteArray := prog_9_method_4_code
def yX7_want : MethodName := ⟨RX7, "want", "(II)Z"⟩
abbrev cX7_start : ByteArray := prog_9_method_5_code
def yX7_start : MethodName := ⟨RX7, "start", "(ILEnumRules$Enumeration;I)V"⟩
abbrev cX7_make : ByteArray := prog_9_method_6_code
def yX7_make : MethodName := ⟨RX7, "make", "(ILEnumRules$Enumeration;II)V"⟩
abbrev cX7_set : ByteArray := prog_9_method_7_code
def yX7_set : MethodName := ⟨RX7, "set", "(LEnumRules$Enumeration;II)V"⟩
abbrev cX7_work : ByteArray := prog_9_method_8_code
def yX7_work : MethodName := ⟨RX7, "work", "(ILEnumRules$Enumeration;II)I"⟩
abbrev cX7_step : ByteArray := prog_9_method_9_code
def yX7_step : MethodName := ⟨RX7, "step", "(ILEnumRules$Enumeration;II)V"⟩
abbrev cX7_join : ByteArray := prog_9_method_10_code
def yX7_join : MethodName := ⟨RX7, "join", "(I)V"⟩
abbrev cX7_divide : ByteArray := prog_9_method_11_code
def yX7_divide : MethodName := ⟨RX7, "divide", "(II)I"⟩
abbrev cX7_valOf : ByteArray := prog_9_method_12_code
def yX7_valOf : MethodName := ⟨RX7, "valOf", "(III)I"⟩
abbrev cX7_push : ByteArray := prog_9_method_13_code
def yX7_push : MethodName := ⟨RX7, "push", "(I)V"⟩
abbrev cX7_pop : ByteArray := prog_9_method_14_code
def yX7_pop : MethodName := ⟨RX7, "pop", "()I"⟩
abbrev cX7_addTrace : ByteArray := prog_9_method_15_code
def yX7_addTrace : MethodName := ⟨RX7, "addTrace", "(I)V"⟩
def RX8 : String := "EnumRules$Tape"
def TX8 : u_T := fun k => match k with
  | 0 => ("EnumRules$Tape", "bytes", "[B", true)
  | _ => ("EnumRules$Tape", "length", "I", false)
def tyX8 : Nat → FieldType := fun k => match k with
  | 0 => .array .byte
  | _ => .int
abbrev wsX80 : List Cond := u_ws RX8 TX8 2
theorem nmX8 : ∀ a, a < 2 → ∀ b, b < 2 → a ≠ b → (TX8 a).2.1 ≠ (TX8 b).2.1 := by decide +kernel
theorem tyX8_ok : ∀ k, k < 2 → parseFieldDescriptor (TX8 k).2.2.1 = some (tyX8 k) := by decide +kernel
abbrev cX8_init : ByteArray := prog_10_method_1_code
def yX8_init : MethodName := ⟨RX8, "<init>", "()V"⟩
abbrev cX8_append : ByteArray := prog_10_method_2_code
def yX8_append : MethodName := ⟨RX8, "append", "(I)V"⟩
abbrev cX8_byteAt : ByteArray := prog_10_method_3_code
def yX8_byteAt : MethodName := ⟨RX8, "byteAt", "(I)I"⟩
abbrev cX8_isLetterAt : ByteArray := prog_10_method_4_code
def yX8_isLetterAt : MethodName := ⟨RX8, "isLetterAt", "(I)Z"⟩
abbrev cX8_isDigitAt : ByteArray := prog_10_method_5_code
def yX8_isDigitAt : MethodName := ⟨RX8, "isDigitAt", "(I)Z"⟩
abbrev cX8_nameLength : ByteArray := prog_10_method_6_code
def yX8_nameLength : MethodName := ⟨RX8, "nameLength", "(I)I"⟩
abbrev cX8_numberLength : ByteArray := prog_10_method_7_code
def yX8_numberLength : MethodName := ⟨RX8, "numberLength", "(I)I"⟩
abbrev cX8_numberAt : ByteArray := prog_10_method_8_code
def yX8_numberAt : MethodName := ⟨RX8, "numberAt", "(I)I"⟩
abbrev cX8_same : ByteArray := prog_10_method_9_code
def yX8_same : MethodName := ⟨RX8, "same", "(ILEnumRules$Tape;II)Z"⟩
abbrev cX8_spells : ByteArray := prog_10_method_10_code
def yX8_spells : MethodName := ⟨RX8, "spells", "(IILjava/lang/String;)Z"⟩
abbrev cX8_firstNamed : ByteArray := prog_10_method_11_code
def yX8_firstNamed : MethodName := ⟨RX8, "firstNamed", "(I[II)I"⟩
def RX9 : String := "EnumRules$Tokens"
def TX9 : u_T := fun k => match k with
  | 0 => ("EnumRules$Tokens", "rows", "[J", true)
  | 1 => ("EnumRules$Tokens", "size", "I", false)
  | 2 => ("EnumRules$Tokens", "next", "I", false)
  | 3 => ("EnumRules$Tokens", "kind", "I", false)
  | 4 => ("EnumRules$Tokens", "place", "I", false)
  | _ => ("EnumRules$Tokens", "number", "I", false)
def tyX9 : Nat → FieldType := fun k => match k with
  | 0 => .array .long
  | 1 => .int
  | 2 => .int
  | 3 => .int
  | 4 => .int
  | _ => .int
abbrev wsX90 : List Cond := u_ws RX9 TX9 6
theorem nmX9 : ∀ a, a < 6 → ∀ b, b < 6 → a ≠ b → (TX9 a).2.1 ≠ (TX9 b).2.1 := by decide +kernel
theorem tyX9_ok : ∀ k, k < 6 → parseFieldDescriptor (TX9 k).2.2.1 = some (tyX9 k) := by decide +kernel
abbrev cX9_init : ByteArray := prog_11_method_1_code
def yX9_init : MethodName := ⟨RX9, "<init>", "()V"⟩
abbrev cX9_split : ByteArray := prog_11_method_2_code
def yX9_split : MethodName := ⟨RX9, "split", "(LEnumRules$Tape;)V"⟩
abbrev cX9_addAt : ByteArray := prog_11_method_3_code
def yX9_addAt : MethodName := ⟨RX9, "addAt", "(LEnumRules$Tape;I)I"⟩
abbrev cX9_wordOrName : ByteArray := prog_11_method_4_code
def yX9_wordOrName : MethodName := ⟨RX9, "wordOrName", "(LEnumRules$Tape;II)I"⟩
abbrev cX9_add : ByteArray := prog_11_method_5_code
def yX9_add : MethodName := ⟨RX9, "add", "(III)V"⟩
abbrev cX9_advance : ByteArray := prog_11_method_6_code
def yX9_advance : MethodName := ⟨RX9, "advance", "()Z"⟩
abbrev cX9_take : ByteArray := prog_11_method_7_code
def yX9_take : MethodName := ⟨RX9, "take", "(I)Z"⟩
def RX10 : String := "EnumRules"
def TX10 : u_T := fun k => match k with
  | 0 => ("EnumRules", "loaded", "LEnumRules$Program;", false)
  | 1 => ("EnumRules", "spare", "LEnumRules$Program;", false)
  | 2 => ("EnumRules", "tape", "LEnumRules$Tape;", false)
  | 3 => ("EnumRules", "faults", "LEnumRules$Faults;", true)
  | 4 => ("EnumRules", "parser", "LEnumRules$Parser;", true)
  | 5 => ("EnumRules", "binder", "LEnumRules$Binder;", true)
  | 6 => ("EnumRules", "runner", "LEnumRules$Runner;", true)
  | 7 => ("EnumRules", "handPlaces", "[I", true)
  | 8 => ("EnumRules", "handEnum", "I", false)
  | 9 => ("EnumRules", "handSize", "I", false)
  | 10 => ("EnumRules", "lastCause", "I", false)
  | _ => ("EnumRules", "failedCalls", "I", false)
def tyX10 : Nat → FieldType := fun k => match k with
  | 0 => .object "EnumRules$Program"
  | 1 => .object "EnumRules$Program"
  | 2 => .object "EnumRules$Tape"
  | 3 => .object "EnumRules$Faults"
  | 4 => .object "EnumRules$Parser"
  | 5 => .object "EnumRules$Binder"
  | 6 => .object "EnumRules$Runner"
  | 7 => .array .int
  | 8 => .int
  | 9 => .int
  | 10 => .int
  | _ => .int
abbrev wsX100 : List Cond := u_ws RX10 TX10 12
theorem nmX10 : ∀ a, a < 12 → ∀ b, b < 12 → a ≠ b → (TX10 a).2.1 ≠ (TX10 b).2.1 := by decide +kernel
theorem tyX10_ok : ∀ k, k < 12 → parseFieldDescriptor (TX10 k).2.2.1 = some (tyX10 k) := by decide +kernel
abbrev cX10_init : ByteArray := prog_1_method_1_code
def yX10_init : MethodName := ⟨RX10, "<init>", "()V"⟩
abbrev cX10_feed : ByteArray := prog_1_method_2_code
def yX10_feed : MethodName := ⟨RX10, "feed", "(IIIII)I"⟩
abbrev cX10_end : ByteArray := prog_1_method_3_code
def yX10_end : MethodName := ⟨RX10, "end", "(I)I"⟩
abbrev cX10_load : ByteArray := prog_1_method_4_code
def yX10_load : MethodName := ⟨RX10, "load", "()I"⟩
abbrev cX10_takeSpare : ByteArray := prog_1_method_5_code
def yX10_takeSpare : MethodName := ⟨RX10, "takeSpare", "()V"⟩
abbrev cX10_fault : ByteArray := prog_1_method_6_code
def yX10_fault : MethodName := ⟨RX10, "fault", "(I)I"⟩
abbrev cX10_cause : ByteArray := prog_1_method_7_code
def yX10_cause : MethodName := ⟨RX10, "cause", "()I"⟩
abbrev cX10_told : ByteArray := prog_1_method_8_code
def yX10_told : MethodName := ⟨RX10, "told", "(II)I"⟩
abbrev cX10_hasBody : ByteArray := prog_1_method_9_code
def yX10_hasBody : MethodName := ⟨RX10, "hasBody", "(II)I"⟩
abbrev cX10_value : ByteArray := prog_1_method_10_code
def yX10_value : MethodName := ⟨RX10, "value", "(II)I"⟩
abbrev cX10_call : ByteArray := prog_1_method_11_code
def yX10_call : MethodName := ⟨RX10, "call", "(III)I"⟩
abbrev cX10_field : ByteArray := prog_1_method_12_code
def yX10_field : MethodName := ⟨RX10, "field", "(II)I"⟩
abbrev cX10_compare : ByteArray := prog_1_method_13_code
def yX10_compare : MethodName := ⟨RX10, "compare", "(IIII)I"⟩
abbrev cX10_values : ByteArray := prog_1_method_14_code
def yX10_values : MethodName := ⟨RX10, "values", "(I)I"⟩
abbrev cX10_takeInHand : ByteArray := prog_1_method_15_code
def yX10_takeInHand : MethodName := ⟨RX10, "takeInHand", "(II)V"⟩
abbrev cX10_swap : ByteArray := prog_1_method_16_code
def yX10_swap : MethodName := ⟨RX10, "swap", "(II)I"⟩
abbrev cX10_hand : ByteArray := prog_1_method_17_code
def yX10_hand : MethodName := ⟨RX10, "hand", "(I)I"⟩
abbrev cX10_isInHand : ByteArray := prog_1_method_18_code
def yX10_isInHand : MethodName := ⟨RX10, "isInHand", "(I)Z"⟩
abbrev cX10_named : ByteArray := prog_1_method_19_code
def yX10_named : MethodName := ⟨RX10, "named", "(I)I"⟩
abbrev cX10_lookFor : ByteArray := prog_1_method_20_code
def yX10_lookFor : MethodName := ⟨RX10, "lookFor", "(LEnumRules$Enumeration;)I"⟩
abbrev cX10_trace : ByteArray := prog_1_method_21_code
def yX10_trace : MethodName := ⟨RX10, "trace", "(I)I"⟩
abbrev cX10_count : ByteArray := prog_1_method_22_code
def yX10_count : MethodName := ⟨RX10, "count", "(I)I"⟩
abbrev cX10_clear : ByteArray := prog_1_method_23_code
def yX10_clear : MethodName := ⟨RX10, "clear", "()I"⟩
abbrev cX10_finish : ByteArray := prog_1_method_24_code
def yX10_finish : MethodName := ⟨RX10, "finish", "(I)I"⟩
def RX11 : String := "EnumRulesModel"
def TX11 : u_T := fun k => match k with
  | 0 => ("EnumRulesModel", "tape", "[I", true)
  | 1 => ("EnumRulesModel", "taped", "I", false)
  | 2 => ("EnumRulesModel", "text", "[I", true)
  | 3 => ("EnumRulesModel", "now", "I", false)
  | 4 => ("EnumRulesModel", "t", "I", false)
  | 5 => ("EnumRulesModel", "long0", "I", false)
  | 6 => ("EnumRulesModel", "enums", "[I", true)
  | 7 => ("EnumRulesModel", "enumName", "[I", true)
  | 8 => ("EnumRulesModel", "enumNameLong", "[I", true)
  | 9 => ("EnumRulesModel", "consts", "[I", true)
  | 10 => ("EnumRulesModel", "members", "[I", true)
  | 11 => ("EnumRulesModel", "fields", "[I", true)
  | 12 => ("EnumRulesModel", "makerFrom", "[I", true)
  | 13 => ("EnumRulesModel", "makerTo", "[I", true)
  | 14 => ("EnumRulesModel", "constName", "[I", true)
  | 15 => ("EnumRulesModel", "constNameLong", "[I", true)
  | 16 => ("EnumRulesModel", "constNumber", "[I", true)
  | 17 => ("EnumRulesModel", "constBody", "[I", true)
  | 18 => ("EnumRulesModel", "memberName", "[I", true)
  | 19 => ("EnumRulesModel", "memberNameLong", "[I", true)
  | 20 => ("EnumRulesModel", "memberFrom", "[I", true)
  | 21 => ("EnumRulesModel", "memberTo", "[I", true)
  | 22 => ("EnumRulesModel", "fieldName", "[I", true)
  | 23 => ("EnumRulesModel", "fieldNameLong", "[I", true)
  | 24 => ("EnumRulesModel", "fieldConst", "[I", true)
  | 25 => ("EnumRulesModel", "fieldFrom", "[I", true)
  | 26 => ("EnumRulesModel", "fieldTo", "[I", true)
  | 27 => ("EnumRulesModel", "gives", "[I", true)
  | 28 => ("EnumRulesModel", "giveOf", "[I", true)
  | 29 => ("EnumRulesModel", "giveName", "[I", true)
  | 30 => ("EnumRulesModel", "giveNameLong", "[I", true)
  | 31 => ("EnumRulesModel", "giveFrom", "[I", true)
  | 32 => ("EnumRulesModel", "giveTo", "[I", true)
  | 33 => ("EnumRulesModel", "acts", "[I", true)
  | 34 => ("EnumRulesModel", "act", "[I", true)
  | 35 => ("EnumRulesModel", "actA", "[I", true)
  | 36 => ("EnumRulesModel", "actB", "[I", true)
  | 37 => ("EnumRulesModel", "actAt", "[I", true)
  | 38 => ("EnumRulesModel", "actNameLong", "[I", true)
  | 39 => ("EnumRulesModel", "actSecond", "[I", true)
  | 40 => ("EnumRulesModel", "actSecondLong", "[I", true)
  | 41 => ("EnumRulesModel", "at", "I", false)
  | 42 => ("EnumRulesModel", "tokenAt", "I", false)
  | 43 => ("EnumRulesModel", "tokenLong", "I", false)
  | 44 => ("EnumRulesModel", "token", "I", false)
  | 45 => ("EnumRulesModel", "value", "I", false)
  | 46 => ("EnumRulesModel", "fault", "I", false)
  | 47 => ("EnumRulesModel", "faultAt", "I", false)
  | 48 => ("EnumRulesModel", "e", "I", false)
  | 49 => ("EnumRulesModel", "makerTwice", "[I", true)
  | 50 => ("EnumRulesModel", "actWhere", "[I", true)
  | 51 => ("EnumRulesModel", "actEnum", "[I", true)
  | 52 => ("EnumRulesModel", "ops", "[I", true)
  | 53 => ("EnumRulesModel", "opMany", "I", false)
  | 54 => ("EnumRulesModel", "toldFault", "I", false)
  | 55 => ("EnumRulesModel", "toldPlace", "I", false)
  | 56 => ("EnumRulesModel", "states", "[I", true)
  | 57 => ("EnumRulesModel", "vals", "[I", true)
  | 58 => ("EnumRulesModel", "fieldVals", "[I", true)
  | 59 => ("EnumRulesModel", "far", "[I", true)
  | 60 => ("EnumRulesModel", "traces", "[I", true)
  | 61 => ("EnumRulesModel", "traceMany", "I", false)
  | 62 => ("EnumRulesModel", "cause", "I", false)
  | 63 => ("EnumRulesModel", "failedMany", "I", false)
  | 64 => ("EnumRulesModel", "frames", "I", false)
  | 65 => ("EnumRulesModel", "fEnum", "[I", true)
  | 66 => ("EnumRulesModel", "fConst", "[I", true)
  | 67 => ("EnumRulesModel", "fAt", "[I", true)
  | 68 => ("EnumRulesModel", "fTo", "[I", true)
  | 69 => ("EnumRulesModel", "stack", "[I", true)
  | 70 => ("EnumRulesModel", "stacked", "I", false)
  | 71 => ("EnumRulesModel", "handMany", "I", false)
  | 72 => ("EnumRulesModel", "handEnum", "I", false)
  | _ => ("EnumRulesModel", "hands", "[I", true)
def tyX11 : Nat → FieldType := fun k => match k with
  | 0 => .array .int
  | 1 => .int
  | 2 => .array .int
  | 3 => .int
  | 4 => .int
  | 5 => .int
  | 6 => .array .int
  | 7 => .array .int
  | 8 => .array .int
  | 9 => .array .int
  | 10 => .array .int
  | 11 => .array .int
  | 12 => .array .int
  | 13 => .array .int
  | 14 => .array .int
  | 15 => .array .int
  | 16 => .array .int
  | 17 => .array .int
  | 18 => .array .int
  | 19 => .array .int
  | 20 => .array .int
  | 21 => .array .int
  | 22 => .array .int
  | 23 => .array .int
  | 24 => .array .int
  | 25 => .array .int
  | 26 => .array .int
  | 27 => .array .int
  | 28 => .array .int
  | 29 => .array .int
  | 30 => .array .int
  | 31 => .array .int
  | 32 => .array .int
  | 33 => .array .int
  | 34 => .array .int
  | 35 => .array .int
  | 36 => .array .int
  | 37 => .array .int
  | 38 => .array .int
  | 39 => .array .int
  | 40 => .array .int
  | 41 => .int
  | 42 => .int
  | 43 => .int
  | 44 => .int
  | 45 => .int
  | 46 => .int
  | 47 => .int
  | 48 => .int
  | 49 => .array .int
  | 50 => .array .int
  | 51 => .array .int
  | 52 => .array .int
  | 53 => .int
  | 54 => .int
  | 55 => .int
  | 56 => .array .int
  | 57 => .array .int
  | 58 => .array .int
  | 59 => .array .int
  | 60 => .array .int
  | 61 => .int
  | 62 => .int
  | 63 => .int
  | 64 => .int
  | 65 => .array .int
  | 66 => .array .int
  | 67 => .array .int
  | 68 => .array .int
  | 69 => .array .int
  | 70 => .int
  | 71 => .int
  | 72 => .int
  | _ => .array .int
abbrev wsX110 : List Cond := u_ws RX11 TX11 74
theorem nmX11 : ∀ a, a < 74 → ∀ b, b < 74 → a ≠ b → (TX11 a).2.1 ≠ (TX11 b).2.1 := by decide +kernel
theorem tyX11_ok : ∀ k, k < 74 → parseFieldDescriptor (TX11 k).2.2.1 = some (tyX11 k) := by decide +kernel
abbrev cX11_init : ByteArray := prog_13_method_1_code
def yX11_init : MethodName := ⟨RX11, "<init>", "()V"⟩
abbrev cX11_in : ByteArray := prog_13_method_3_code
def yX11_in : MethodName := ⟨RX11, "in", "(III)Z"⟩
abbrev cX11_feed : ByteArray := prog_13_method_4_code
def yX11_feed : MethodName := ⟨RX11, "feed", "(IIIII)I"⟩
abbrev cX11_end : ByteArray := prog_13_method_5_code
def yX11_end : MethodName := ⟨RX11, "end", "(I)I"⟩
abbrev cX11_byteAt : ByteArray := prog_13_method_6_code
def yX11_byteAt : MethodName := ⟨RX11, "byteAt", "(I)I"⟩
abbrev cX11_isLetter : ByteArray := prog_13_method_7_code
def yX11_isLetter : MethodName := ⟨RX11, "isLetter", "(I)Z"⟩
abbrev cX11_isDigit : ByteArray := prog_13_method_8_code
def yX11_isDigit : MethodName := ⟨RX11, "isDigit", "(I)Z"⟩
abbrev cX11_isSign : ByteArray := prog_13_method_9_code
def yX11_isSign : MethodName := ⟨RX11, "isSign", "(I)Z"⟩
abbrev cX11_next : ByteArray := prog_13_method_10_code
def yX11_next : MethodName := ⟨RX11, "next", "()V"⟩
abbrev cX11_spells : ByteArray := prog_13_method_11_code
def yX11_spells : MethodName := ⟨RX11, "spells", "(JI)Z"⟩
abbrev cX11_wordAt : ByteArray := prog_13_method_12_code
def yX11_wordAt : MethodName := ⟨RX11, "wordAt", "()I"⟩
abbrev cX11_isAt : ByteArray := prog_13_method_13_code
def yX11_isAt : MethodName := ⟨RX11, "isAt", "(I)Z"⟩
abbrev cX11_wrong : ByteArray := prog_13_method_14_code
def yX11_wrong : MethodName := ⟨RX11, "wrong", "(II)V"⟩
abbrev cX11_isGood : ByteArray := prog_13_method_15_code
def yX11_isGood : MethodName := ⟨RX11, "isGood", "()Z"⟩
abbrev cX11_stop : ByteArray := prog_13_method_16_code
def yX11_stop : MethodName := ⟨RX11, "stop", "()V"⟩
abbrev cX11_need : ByteArray := prog_13_method_17_code
def yX11_need : MethodName := ⟨RX11, "need", "(I)V"⟩
abbrev cX11_isSame : ByteArray := prog_13_method_18_code
def yX11_isSame : MethodName := ⟨RX11, "isSame", "(IIII)Z"⟩
abbrev cX11_readText : ByteArray := prog_13_method_19_code
def yX11_readText : MethodName := ⟨RX11, "readText", "()V"⟩
abbrev cX11_readEnum : ByteArray := prog_13_method_20_code
def yX11_readEnum : MethodName := ⟨RX11, "readEnum", "()V"⟩
abbrev cX11_readConst : ByteArray := prog_13_method_21_code
def yX11_readConst : MethodName := ⟨RX11, "readConst", "()V"⟩
abbrev cX11_readMember : ByteArray := prog_13_method_22_code
def yX11_readMember : MethodName := ⟨RX11, "readMember", "()V"⟩
abbrev cX11_emit : ByteArray := prog_13_method_23_code
def yX11_emit : MethodName := ⟨RX11, "emit", "(II)V"⟩
abbrev cX11_rank : ByteArray := prog_13_method_24_code
def yX11_rank : MethodName := ⟨RX11, "rank", "(I)I"⟩
abbrev cX11_readExp : ByteArray := prog_13_method_25_code
def yX11_readExp : MethodName := ⟨RX11, "readExp", "()V"⟩
abbrev cX11_hasOpen : ByteArray := prog_13_method_26_code
def yX11_hasOpen : MethodName := ⟨RX11, "hasOpen", "(I)Z"⟩
abbrev cX11_closeMinus : ByteArray := prog_13_method_27_code
def yX11_closeMinus : MethodName := ⟨RX11, "closeMinus", "(I)I"⟩
abbrev cX11_readOne : ByteArray := prog_13_method_28_code
def yX11_readOne : MethodName := ⟨RX11, "readOne", "()V"⟩
abbrev cX11_memberOf : ByteArray := prog_13_method_29_code
def yX11_memberOf : MethodName := ⟨RX11, "memberOf", "(III)I"⟩
abbrev cX11_fieldOf : ByteArray := prog_13_method_30_code
def yX11_fieldOf : MethodName := ⟨RX11, "fieldOf", "(III)I"⟩
abbrev cX11_constOf : ByteArray := prog_13_method_31_code
def yX11_constOf : MethodName := ⟨RX11, "constOf", "(III)I"⟩
abbrev cX11_enumOf : ByteArray := prog_13_method_32_code
def yX11_enumOf : MethodName := ⟨RX11, "enumOf", "(II)I"⟩
abbrev cX11_giveBy : ByteArray := prog_13_method_33_code
def yX11_giveBy : MethodName := ⟨RX11, "giveBy", "(III)I"⟩
abbrev cX11_first : ByteArray := prog_13_method_34_code
def yX11_first : MethodName := ⟨RX11, "first", "(III)V"⟩
abbrev cX11_lookAtEnum : ByteArray := prog_13_method_35_code
def yX11_lookAtEnum : MethodName := ⟨RX11, "lookAtEnum", "(I)V"⟩
abbrev cX11_lookAtAct : ByteArray := prog_13_method_36_code
def yX11_lookAtAct : MethodName := ⟨RX11, "lookAtAct", "(I)V"⟩
abbrev cX11_lookAtAll : ByteArray := prog_13_method_37_code
def yX11_lookAtAll : MethodName := ⟨RX11, "lookAtAll", "()V"⟩
abbrev cX11_load : ByteArray := prog_13_method_38_code
def yX11_load : MethodName := ⟨RX11, "load", "()I"⟩
abbrev cX11_fault : ByteArray := prog_13_method_39_code
def yX11_fault : MethodName := ⟨RX11, "fault", "(I)I"⟩
abbrev cX11_note : ByteArray := prog_13_method_40_code
def yX11_note : MethodName := ⟨RX11, "note", "(II)V"⟩
abbrev cX11_pushFrame : ByteArray := prog_13_method_41_code
def yX11_pushFrame : MethodName := ⟨RX11, "pushFrame", "(IIII)V"⟩
abbrev cX11_begin : ByteArray := prog_13_method_42_code
def yX11_begin : MethodName := ⟨RX11, "begin", "(I)V"⟩
abbrev cX11_fails : ByteArray := prog_13_method_43_code
def yX11_fails : MethodName := ⟨RX11, "fails", "(I)V"⟩
abbrev cX11_work : ByteArray := prog_13_method_44_code
def yX11_work : MethodName := ⟨RX11, "work", "()V"⟩
abbrev cX11_goOn : ByteArray := prog_13_method_45_code
def yX11_goOn : MethodName := ⟨RX11, "goOn", "(I)V"⟩
abbrev cX11_made : ByteArray := prog_13_method_46_code
def yX11_made : MethodName := ⟨RX11, "made", "(II)V"⟩
abbrev cX11_push : ByteArray := prog_13_method_47_code
def yX11_push : MethodName := ⟨RX11, "push", "(I)V"⟩
abbrev cX11_doAct : ByteArray := prog_13_method_48_code
def yX11_doAct : MethodName := ⟨RX11, "doAct", "(II)V"⟩
abbrev cX11_want : ByteArray := prog_13_method_49_code
def yX11_want : MethodName := ⟨RX11, "want", "(I)Z"⟩
abbrev cX11_isEnum : ByteArray := prog_13_method_50_code
def yX11_isEnum : MethodName := ⟨RX11, "isEnum", "(I)Z"⟩
abbrev cX11_isConst : ByteArray := prog_13_method_51_code
def yX11_isConst : MethodName := ⟨RX11, "isConst", "(II)Z"⟩
abbrev cX11_cause : ByteArray := prog_13_method_52_code
def yX11_cause : MethodName := ⟨RX11, "cause", "()I"⟩
abbrev cX11_told : ByteArray := prog_13_method_53_code
def yX11_told : MethodName := ⟨RX11, "told", "(II)I"⟩
abbrev cX11_hasBody : ByteArray := prog_13_method_54_code
def yX11_hasBody : MethodName := ⟨RX11, "hasBody", "(II)I"⟩
abbrev cX11_value : ByteArray := prog_13_method_55_code
def yX11_value : MethodName := ⟨RX11, "value", "(II)I"⟩
abbrev cX11_call : ByteArray := prog_13_method_56_code
def yX11_call : MethodName := ⟨RX11, "call", "(III)I"⟩
abbrev cX11_field : ByteArray := prog_13_method_57_code
def yX11_field : MethodName := ⟨RX11, "field", "(II)I"⟩
abbrev cX11_compare : ByteArray := prog_13_method_58_code
def yX11_compare : MethodName := ⟨RX11, "compare", "(IIII)I"⟩
abbrev cX11_values : ByteArray := prog_13_method_59_code
def yX11_values : MethodName := ⟨RX11, "values", "(I)I"⟩
abbrev cX11_swap : ByteArray := prog_13_method_60_code
def yX11_swap : MethodName := ⟨RX11, "swap", "(II)I"⟩
abbrev cX11_hand : ByteArray := prog_13_method_61_code
def yX11_hand : MethodName := ⟨RX11, "hand", "(I)I"⟩
abbrev cX11_named : ByteArray := prog_13_method_62_code
def yX11_named : MethodName := ⟨RX11, "named", "(I)I"⟩
abbrev cX11_trace : ByteArray := prog_13_method_63_code
def yX11_trace : MethodName := ⟨RX11, "trace", "(I)I"⟩
abbrev cX11_count : ByteArray := prog_13_method_64_code
def yX11_count : MethodName := ⟨RX11, "count", "(I)I"⟩
abbrev cX11_clear : ByteArray := prog_13_method_65_code
def yX11_clear : MethodName := ⟨RX11, "clear", "()I"⟩
def RL : String := "EnumRulesLaw"
abbrev cL_law : ByteArray := code
def yL_law : MethodName := ⟨RL, "law", "([I)Z"⟩
/-- the words that every method is given: those of the tables that keep -/
def lwg : List Cond := lw_tbl.filter goodWord
theorem lwg_tb {w : Cond} {i : Nat} (h : tables_1[i]? = some w) (g : goodWord w = true) : w ∈ lwg := List.mem_filter.mpr ⟨List.mem_append_right _ (List.mem_of_getElem? h), g⟩
theorem lwg_pr {w : Cond} {i : Nat} (h : (k2_sels lw_privs)[i]? = some w) (g : goodWord w = true) : w ∈ lwg := List.mem_filter.mpr ⟨List.mem_append_left _ (List.mem_of_getElem? h), g⟩
theorem ii_L : Cond.initialized RL ∈ lwg := lwg_tb (i := 0) (by decide +kernel) (by decide +kernel)
theorem ii_X10 : Cond.initialized RX10 ∈ lwg := lwg_tb (i := 1) (by decide +kernel) (by decide +kernel)
theorem ii_X6 : Cond.initialized RX6 ∈ lwg := lwg_tb (i := 2) (by decide +kernel) (by decide +kernel)
theorem ii_X1 : Cond.initialized RX1 ∈ lwg := lwg_tb (i := 3) (by decide +kernel) (by decide +kernel)
theorem ii_X8 : Cond.initialized RX8 ∈ lwg := lwg_tb (i := 4) (by decide +kernel) (by decide +kernel)
theorem ii_X3 : Cond.initialized RX3 ∈ lwg := lwg_tb (i := 5) (by decide +kernel) (by decide +kernel)
theorem ii_X5 : Cond.initialized RX5 ∈ lwg := lwg_tb (i := 6) (by decide +kernel) (by decide +kernel)
theorem ii_X9 : Cond.initialized RX9 ∈ lwg := lwg_tb (i := 7) (by decide +kernel) (by decide +kernel)
theorem ii_X2 : Cond.initialized RX2 ∈ lwg := lwg_tb (i := 8) (by decide +kernel) (by decide +kernel)
theorem ii_X0 : Cond.initialized RX0 ∈ lwg := lwg_tb (i := 9) (by decide +kernel) (by decide +kernel)
theorem ii_X7 : Cond.initialized RX7 ∈ lwg := lwg_tb (i := 10) (by decide +kernel) (by decide +kernel)
theorem ii_X11 : Cond.initialized RX11 ∈ lwg := lwg_tb (i := 11) (by decide +kernel) (by decide +kernel)
theorem cl_L_7 : Cond.classLink RL 7 RX10 ∈ lwg := lwg_tb (i := 18) (by decide +kernel) (by decide +kernel)
theorem is_X10 : Cond.instantiable RX10 12 ∈ lwg := lwg_tb (i := 19) (by decide +kernel) (by decide +kernel)
theorem ml_L_9 : Cond.methodLink RL 9 yX10_init ∈ lwg := lwg_tb (i := 20) (by decide +kernel) (by decide +kernel)
theorem im_yX10_init : Cond.instanceMethod yX10_init ∈ lwg := lwg_tb (i := 21) (by decide +kernel) (by decide +kernel)
theorem cd_yX10_init : Cond.code yX10_init cX10_init 1 none ∈ lwg := lwg_tb (i := 22) (by decide +kernel) (by decide +kernel)
theorem ml_X10_1 : Cond.methodLink RX10 1 objectInit ∈ lwg := lwg_tb (i := 23) (by decide +kernel) (by decide +kernel)
theorem im_objectInit : Cond.instanceMethod objectInit ∈ lwg := lwg_tb (i := 24) (by decide +kernel) (by decide +kernel)
theorem cd_objectInit : Cond.code objectInit ⟨#[0xb1]⟩ 1 none ∈ lwg := lwg_tb (i := 25) (by decide +kernel) (by decide +kernel)
theorem cl_X10_7 : Cond.classLink RX10 7 RX6 ∈ lwg := lwg_tb (i := 26) (by decide +kernel) (by decide +kernel)
theorem is_X6 : Cond.instantiable RX6 6 ∈ lwg := lwg_tb (i := 27) (by decide +kernel) (by decide +kernel)
theorem ml_X10_9 : Cond.methodLink RX10 9 yX6_init ∈ lwg := lwg_tb (i := 28) (by decide +kernel) (by decide +kernel)
theorem im_yX6_init : Cond.instanceMethod yX6_init ∈ lwg := lwg_tb (i := 29) (by decide +kernel) (by decide +kernel)
theorem cd_yX6_init : Cond.code yX6_init cX6_init 2 none ∈ lwg := lwg_tb (i := 30) (by decide +kernel) (by decide +kernel)
theorem ml_X6_3 : Cond.methodLink RX6 3 objectInit ∈ lwg := lwg_tb (i := 31) (by decide +kernel) (by decide +kernel)
theorem cl_X6_9 : Cond.classLink RX6 9 RX1 ∈ lwg := lwg_tb (i := 32) (by decide +kernel) (by decide +kernel)
theorem is_X1 : Cond.instantiable RX1 19 ∈ lwg := lwg_tb (i := 34) (by decide +kernel) (by decide +kernel)
theorem im_yX1_init : Cond.instanceMethod yX1_init ∈ lwg := lwg_tb (i := 36) (by decide +kernel) (by decide +kernel)
theorem cd_yX1_init : Cond.code yX1_init cX1_init 1 none ∈ lwg := lwg_tb (i := 37) (by decide +kernel) (by decide +kernel)
theorem ml_X1_3 : Cond.methodLink RX1 3 objectInit ∈ lwg := lwg_tb (i := 38) (by decide +kernel) (by decide +kernel)
theorem fl_X1_9 : Cond.fieldLink RX1 9 "EnumRules$Enumeration" "constantNames" "[I" ∈ lwg := lwg_tb (i := 39) (by decide +kernel) (by decide +kernel)
theorem fl_X0_131 : Cond.fieldLink RX0 131 "EnumRules$Enumeration" "constantNames" "[I" ∈ lwg := lwg_tb (i := 40) (by decide +kernel) (by decide +kernel)
theorem fl_X10_194 : Cond.fieldLink RX10 194 "EnumRules$Enumeration" "constantNames" "[I" ∈ lwg := lwg_tb (i := 41) (by decide +kernel) (by decide +kernel)
theorem fl_X1_15 : Cond.fieldLink RX1 15 "EnumRules$Enumeration" "args" "[I" ∈ lwg := lwg_tb (i := 42) (by decide +kernel) (by decide +kernel)
theorem fl_X5_111 : Cond.fieldLink RX5 111 "EnumRules$Enumeration" "args" "[I" ∈ lwg := lwg_tb (i := 43) (by decide +kernel) (by decide +kernel)
theorem fl_X7_118 : Cond.fieldLink RX7 118 "EnumRules$Enumeration" "args" "[I" ∈ lwg := lwg_tb (i := 44) (by decide +kernel) (by decide +kernel)
theorem fl_X1_18 : Cond.fieldLink RX1 18 "EnumRules$Enumeration" "bodies" "[Z" ∈ lwg := lwg_tb (i := 45) (by decide +kernel) (by decide +kernel)
theorem fl_X5_118 : Cond.fieldLink RX5 118 "EnumRules$Enumeration" "bodies" "[Z" ∈ lwg := lwg_tb (i := 46) (by decide +kernel) (by decide +kernel)
theorem fl_X10_134 : Cond.fieldLink RX10 134 "EnumRules$Enumeration" "bodies" "[Z" ∈ lwg := lwg_tb (i := 47) (by decide +kernel) (by decide +kernel)
theorem fl_X1_22 : Cond.fieldLink RX1 22 "EnumRules$Enumeration" "giveCodes" "[I" ∈ lwg := lwg_tb (i := 48) (by decide +kernel) (by decide +kernel)
theorem fl_X0_116 : Cond.fieldLink RX0 116 "EnumRules$Enumeration" "giveCodes" "[I" ∈ lwg := lwg_tb (i := 49) (by decide +kernel) (by decide +kernel)
theorem fl_X1_25 : Cond.fieldLink RX1 25 "EnumRules$Enumeration" "memberNames" "[I" ∈ lwg := lwg_tb (i := 50) (by decide +kernel) (by decide +kernel)
theorem fl_X0_102 : Cond.fieldLink RX0 102 "EnumRules$Enumeration" "memberNames" "[I" ∈ lwg := lwg_tb (i := 51) (by decide +kernel) (by decide +kernel)
theorem fl_X1_28 : Cond.fieldLink RX1 28 "EnumRules$Enumeration" "defCodes" "[I" ∈ lwg := lwg_tb (i := 52) (by decide +kernel) (by decide +kernel)
theorem fl_X1_31 : Cond.fieldLink RX1 31 "EnumRules$Enumeration" "fieldNames" "[I" ∈ lwg := lwg_tb (i := 53) (by decide +kernel) (by decide +kernel)
theorem fl_X0_119 : Cond.fieldLink RX0 119 "EnumRules$Enumeration" "fieldNames" "[I" ∈ lwg := lwg_tb (i := 54) (by decide +kernel) (by decide +kernel)
theorem fl_X1_34 : Cond.fieldLink RX1 34 "EnumRules$Enumeration" "fieldCodes" "[I" ∈ lwg := lwg_tb (i := 55) (by decide +kernel) (by decide +kernel)
theorem fl_X7_85 : Cond.fieldLink RX7 85 "EnumRules$Enumeration" "fieldCodes" "[I" ∈ lwg := lwg_tb (i := 56) (by decide +kernel) (by decide +kernel)
theorem fl_X1_37 : Cond.fieldLink RX1 37 "EnumRules$Enumeration" "fieldNumbers" "[I" ∈ lwg := lwg_tb (i := 57) (by decide +kernel) (by decide +kernel)
theorem fl_X7_88 : Cond.fieldLink RX7 88 "EnumRules$Enumeration" "fieldNumbers" "[I" ∈ lwg := lwg_tb (i := 58) (by decide +kernel) (by decide +kernel)
theorem fl_X5_155 : Cond.fieldLink RX5 155 "EnumRules$Enumeration" "fieldNumbers" "[I" ∈ lwg := lwg_tb (i := 59) (by decide +kernel) (by decide +kernel)
theorem fl_X10_169 : Cond.fieldLink RX10 169 "EnumRules$Enumeration" "fieldNumbers" "[I" ∈ lwg := lwg_tb (i := 60) (by decide +kernel) (by decide +kernel)
theorem fl_X1_40 : Cond.fieldLink RX1 40 "EnumRules$Enumeration" "vals" "[I" ∈ lwg := lwg_tb (i := 61) (by decide +kernel) (by decide +kernel)
theorem fl_X7_76 : Cond.fieldLink RX7 76 "EnumRules$Enumeration" "vals" "[I" ∈ lwg := lwg_tb (i := 62) (by decide +kernel) (by decide +kernel)
theorem fl_X10_145 : Cond.fieldLink RX10 145 "EnumRules$Enumeration" "vals" "[I" ∈ lwg := lwg_tb (i := 63) (by decide +kernel) (by decide +kernel)
theorem fl_X1_43 : Cond.fieldLink RX1 43 "EnumRules$Enumeration" "names" "[I" ∈ lwg := lwg_tb (i := 64) (by decide +kernel) (by decide +kernel)
theorem fl_X0_55 : Cond.fieldLink RX0 55 "EnumRules$Enumeration" "names" "[I" ∈ lwg := lwg_tb (i := 65) (by decide +kernel) (by decide +kernel)
theorem fl_X1_46 : Cond.fieldLink RX1 46 "EnumRules$Enumeration" "namesSize" "I" ∈ lwg := lwg_tb (i := 66) (by decide +kernel) (by decide +kernel)
theorem fl_X0_60 : Cond.fieldLink RX0 60 "EnumRules$Enumeration" "namesSize" "I" ∈ lwg := lwg_tb (i := 67) (by decide +kernel) (by decide +kernel)
theorem fl_X1_50 : Cond.fieldLink RX1 50 "EnumRules$Enumeration" "constants" "I" ∈ lwg := lwg_tb (i := 68) (by decide +kernel) (by decide +kernel)
theorem fl_X7_52 : Cond.fieldLink RX7 52 "EnumRules$Enumeration" "constants" "I" ∈ lwg := lwg_tb (i := 69) (by decide +kernel) (by decide +kernel)
theorem fl_X5_105 : Cond.fieldLink RX5 105 "EnumRules$Enumeration" "constants" "I" ∈ lwg := lwg_tb (i := 70) (by decide +kernel) (by decide +kernel)
theorem fl_X0_134 : Cond.fieldLink RX0 134 "EnumRules$Enumeration" "constants" "I" ∈ lwg := lwg_tb (i := 71) (by decide +kernel) (by decide +kernel)
theorem fl_X10_113 : Cond.fieldLink RX10 113 "EnumRules$Enumeration" "constants" "I" ∈ lwg := lwg_tb (i := 72) (by decide +kernel) (by decide +kernel)
theorem fl_X1_53 : Cond.fieldLink RX1 53 "EnumRules$Enumeration" "members" "I" ∈ lwg := lwg_tb (i := 73) (by decide +kernel) (by decide +kernel)
theorem fl_X0_105 : Cond.fieldLink RX0 105 "EnumRules$Enumeration" "members" "I" ∈ lwg := lwg_tb (i := 74) (by decide +kernel) (by decide +kernel)
theorem fl_X10_118 : Cond.fieldLink RX10 118 "EnumRules$Enumeration" "members" "I" ∈ lwg := lwg_tb (i := 75) (by decide +kernel) (by decide +kernel)
theorem fl_X1_56 : Cond.fieldLink RX1 56 "EnumRules$Enumeration" "fields" "I" ∈ lwg := lwg_tb (i := 76) (by decide +kernel) (by decide +kernel)
theorem fl_X7_59 : Cond.fieldLink RX7 59 "EnumRules$Enumeration" "fields" "I" ∈ lwg := lwg_tb (i := 77) (by decide +kernel) (by decide +kernel)
theorem fl_X0_122 : Cond.fieldLink RX0 122 "EnumRules$Enumeration" "fields" "I" ∈ lwg := lwg_tb (i := 78) (by decide +kernel) (by decide +kernel)
theorem fl_X10_124 : Cond.fieldLink RX10 124 "EnumRules$Enumeration" "fields" "I" ∈ lwg := lwg_tb (i := 79) (by decide +kernel) (by decide +kernel)
theorem fl_X5_149 : Cond.fieldLink RX5 149 "EnumRules$Enumeration" "fields" "I" ∈ lwg := lwg_tb (i := 80) (by decide +kernel) (by decide +kernel)
theorem fl_X1_59 : Cond.fieldLink RX1 59 "EnumRules$Enumeration" "worked" "I" ∈ lwg := lwg_tb (i := 81) (by decide +kernel) (by decide +kernel)
theorem fl_X10_121 : Cond.fieldLink RX10 121 "EnumRules$Enumeration" "worked" "I" ∈ lwg := lwg_tb (i := 82) (by decide +kernel) (by decide +kernel)
theorem fl_X1_62 : Cond.fieldLink RX1 62 "EnumRules$Enumeration" "makerCode" "I" ∈ lwg := lwg_tb (i := 83) (by decide +kernel) (by decide +kernel)
theorem fl_X7_66 : Cond.fieldLink RX7 66 "EnumRules$Enumeration" "makerCode" "I" ∈ lwg := lwg_tb (i := 84) (by decide +kernel) (by decide +kernel)
theorem fl_X5_158 : Cond.fieldLink RX5 158 "EnumRules$Enumeration" "makerCode" "I" ∈ lwg := lwg_tb (i := 85) (by decide +kernel) (by decide +kernel)
theorem fl_X1_65 : Cond.fieldLink RX1 65 "EnumRules$Enumeration" "state" "I" ∈ lwg := lwg_tb (i := 86) (by decide +kernel) (by decide +kernel)
theorem fl_X7_35 : Cond.fieldLink RX7 35 "EnumRules$Enumeration" "state" "I" ∈ lwg := lwg_tb (i := 87) (by decide +kernel) (by decide +kernel)
theorem fl_X10_127 : Cond.fieldLink RX10 127 "EnumRules$Enumeration" "state" "I" ∈ lwg := lwg_tb (i := 88) (by decide +kernel) (by decide +kernel)
theorem fl_X1_68 : Cond.fieldLink RX1 68 "EnumRules$Enumeration" "made" "I" ∈ lwg := lwg_tb (i := 89) (by decide +kernel) (by decide +kernel)
theorem fl_X7_79 : Cond.fieldLink RX7 79 "EnumRules$Enumeration" "made" "I" ∈ lwg := lwg_tb (i := 90) (by decide +kernel) (by decide +kernel)
theorem ac_int : Cond.arrayClass .int ∈ lwg := lwg_tb (i := 130) (by decide +kernel) (by decide +kernel)
theorem ac_long : Cond.arrayClass .long ∈ lwg := lwg_tb (i := 131) (by decide +kernel) (by decide +kernel)
theorem ac_boolean : Cond.arrayClass .boolean ∈ lwg := lwg_tb (i := 132) (by decide +kernel) (by decide +kernel)
theorem fl_X6_11 : Cond.fieldLink RX6 11 "EnumRules$Program" "enums" "[LEnumRules$Enumeration;" ∈ lwg := lwg_tb (i := 133) (by decide +kernel) (by decide +kernel)
theorem fl_X6_17 : Cond.fieldLink RX6 17 "EnumRules$Program" "enumNames" "[I" ∈ lwg := lwg_tb (i := 134) (by decide +kernel) (by decide +kernel)
theorem fl_X0_40 : Cond.fieldLink RX0 40 "EnumRules$Program" "enumNames" "[I" ∈ lwg := lwg_tb (i := 135) (by decide +kernel) (by decide +kernel)
theorem fl_X6_21 : Cond.fieldLink RX6 21 "EnumRules$Program" "code" "[J" ∈ lwg := lwg_tb (i := 136) (by decide +kernel) (by decide +kernel)
theorem fl_X6_30 : Cond.fieldLink RX6 30 "EnumRules$Program" "size" "I" ∈ lwg := lwg_tb (i := 137) (by decide +kernel) (by decide +kernel)
theorem fl_X0_44 : Cond.fieldLink RX0 44 "EnumRules$Program" "size" "I" ∈ lwg := lwg_tb (i := 138) (by decide +kernel) (by decide +kernel)
theorem fl_X5_74 : Cond.fieldLink RX5 74 "EnumRules$Program" "size" "I" ∈ lwg := lwg_tb (i := 139) (by decide +kernel) (by decide +kernel)
theorem fl_X10_89 : Cond.fieldLink RX10 89 "EnumRules$Program" "size" "I" ∈ lwg := lwg_tb (i := 140) (by decide +kernel) (by decide +kernel)
theorem fl_X6_34 : Cond.fieldLink RX6 34 "EnumRules$Program" "codeSize" "I" ∈ lwg := lwg_tb (i := 141) (by decide +kernel) (by decide +kernel)
theorem fl_X0_31 : Cond.fieldLink RX0 31 "EnumRules$Program" "codeSize" "I" ∈ lwg := lwg_tb (i := 142) (by decide +kernel) (by decide +kernel)
theorem fl_X7_91 : Cond.fieldLink RX7 91 "EnumRules$Program" "codeSize" "I" ∈ lwg := lwg_tb (i := 143) (by decide +kernel) (by decide +kernel)
theorem fl_X5_143 : Cond.fieldLink RX5 143 "EnumRules$Program" "codeSize" "I" ∈ lwg := lwg_tb (i := 144) (by decide +kernel) (by decide +kernel)
theorem fl_X6_26 : Cond.fieldLink RX6 26 "EnumRules$Program" "text" "LEnumRules$Tape;" ∈ lwg := lwg_tb (i := 145) (by decide +kernel) (by decide +kernel)
theorem fl_X5_33 : Cond.fieldLink RX5 33 "EnumRules$Program" "text" "LEnumRules$Tape;" ∈ lwg := lwg_tb (i := 146) (by decide +kernel) (by decide +kernel)
theorem fl_X0_67 : Cond.fieldLink RX0 67 "EnumRules$Program" "text" "LEnumRules$Tape;" ∈ lwg := lwg_tb (i := 147) (by decide +kernel) (by decide +kernel)
theorem fl_X10_92 : Cond.fieldLink RX10 92 "EnumRules$Program" "text" "LEnumRules$Tape;" ∈ lwg := lwg_tb (i := 148) (by decide +kernel) (by decide +kernel)
theorem cl_X10_19 : Cond.classLink RX10 19 RX8 ∈ lwg := lwg_tb (i := 162) (by decide +kernel) (by decide +kernel)
theorem is_X8 : Cond.instantiable RX8 2 ∈ lwg := lwg_tb (i := 163) (by decide +kernel) (by decide +kernel)
theorem im_yX8_init : Cond.instanceMethod yX8_init ∈ lwg := lwg_tb (i := 165) (by decide +kernel) (by decide +kernel)
theorem cd_yX8_init : Cond.code yX8_init cX8_init 1 none ∈ lwg := lwg_tb (i := 166) (by decide +kernel) (by decide +kernel)
theorem ml_X8_3 : Cond.methodLink RX8 3 objectInit ∈ lwg := lwg_tb (i := 167) (by decide +kernel) (by decide +kernel)
theorem fl_X8_9 : Cond.fieldLink RX8 9 "EnumRules$Tape" "bytes" "[B" ∈ lwg := lwg_tb (i := 168) (by decide +kernel) (by decide +kernel)
theorem fl_X10_62 : Cond.fieldLink RX10 62 "EnumRules$Tape" "length" "I" ∈ lwg := lwg_tb (i := 169) (by decide +kernel) (by decide +kernel)
theorem fl_X8_15 : Cond.fieldLink RX8 15 "EnumRules$Tape" "length" "I" ∈ lwg := lwg_tb (i := 170) (by decide +kernel) (by decide +kernel)
theorem fl_X9_19 : Cond.fieldLink RX9 19 "EnumRules$Tape" "length" "I" ∈ lwg := lwg_tb (i := 171) (by decide +kernel) (by decide +kernel)
theorem ac_byte : Cond.arrayClass .byte ∈ lwg := lwg_tb (i := 177) (by decide +kernel) (by decide +kernel)
theorem cl_X10_26 : Cond.classLink RX10 26 RX3 ∈ lwg := lwg_tb (i := 178) (by decide +kernel) (by decide +kernel)
theorem is_X3 : Cond.instantiable RX3 2 ∈ lwg := lwg_tb (i := 179) (by decide +kernel) (by decide +kernel)
theorem im_yX3_init : Cond.instanceMethod yX3_init ∈ lwg := lwg_tb (i := 181) (by decide +kernel) (by decide +kernel)
theorem cd_yX3_init : Cond.code yX3_init cX3_init 1 none ∈ lwg := lwg_tb (i := 182) (by decide +kernel) (by decide +kernel)
theorem ml_X3_3 : Cond.methodLink RX3 3 objectInit ∈ lwg := lwg_tb (i := 183) (by decide +kernel) (by decide +kernel)
theorem fl_X3_9 : Cond.fieldLink RX3 9 "EnumRules$Faults" "number" "I" ∈ lwg := lwg_tb (i := 184) (by decide +kernel) (by decide +kernel)
theorem fl_X10_83 : Cond.fieldLink RX10 83 "EnumRules$Faults" "number" "I" ∈ lwg := lwg_tb (i := 185) (by decide +kernel) (by decide +kernel)
theorem fl_X3_15 : Cond.fieldLink RX3 15 "EnumRules$Faults" "place" "I" ∈ lwg := lwg_tb (i := 186) (by decide +kernel) (by decide +kernel)
theorem fl_X10_102 : Cond.fieldLink RX10 102 "EnumRules$Faults" "place" "I" ∈ lwg := lwg_tb (i := 187) (by decide +kernel) (by decide +kernel)
theorem cl_X10_33 : Cond.classLink RX10 33 RX5 ∈ lwg := lwg_tb (i := 193) (by decide +kernel) (by decide +kernel)
theorem is_X5 : Cond.instantiable RX5 5 ∈ lwg := lwg_tb (i := 194) (by decide +kernel) (by decide +kernel)
theorem im_yX5_init : Cond.instanceMethod yX5_init ∈ lwg := lwg_tb (i := 196) (by decide +kernel) (by decide +kernel)
theorem cd_yX5_init : Cond.code yX5_init cX5_init 1 none ∈ lwg := lwg_tb (i := 197) (by decide +kernel) (by decide +kernel)
theorem ml_X5_3 : Cond.methodLink RX5 3 objectInit ∈ lwg := lwg_tb (i := 198) (by decide +kernel) (by decide +kernel)
theorem cl_X5_9 : Cond.classLink RX5 9 RX9 ∈ lwg := lwg_tb (i := 199) (by decide +kernel) (by decide +kernel)
theorem is_X9 : Cond.instantiable RX9 6 ∈ lwg := lwg_tb (i := 200) (by decide +kernel) (by decide +kernel)
theorem im_yX9_init : Cond.instanceMethod yX9_init ∈ lwg := lwg_tb (i := 202) (by decide +kernel) (by decide +kernel)
theorem cd_yX9_init : Cond.code yX9_init cX9_init 1 none ∈ lwg := lwg_tb (i := 203) (by decide +kernel) (by decide +kernel)
theorem ml_X9_3 : Cond.methodLink RX9 3 objectInit ∈ lwg := lwg_tb (i := 204) (by decide +kernel) (by decide +kernel)
theorem fl_X9_9 : Cond.fieldLink RX9 9 "EnumRules$Tokens" "rows" "[J" ∈ lwg := lwg_tb (i := 205) (by decide +kernel) (by decide +kernel)
theorem fl_X9_15 : Cond.fieldLink RX9 15 "EnumRules$Tokens" "size" "I" ∈ lwg := lwg_tb (i := 206) (by decide +kernel) (by decide +kernel)
theorem fl_X9_32 : Cond.fieldLink RX9 32 "EnumRules$Tokens" "next" "I" ∈ lwg := lwg_tb (i := 207) (by decide +kernel) (by decide +kernel)
theorem fl_X5_47 : Cond.fieldLink RX5 47 "EnumRules$Tokens" "kind" "I" ∈ lwg := lwg_tb (i := 208) (by decide +kernel) (by decide +kernel)
theorem fl_X2_64 : Cond.fieldLink RX2 64 "EnumRules$Tokens" "kind" "I" ∈ lwg := lwg_tb (i := 209) (by decide +kernel) (by decide +kernel)
theorem fl_X9_96 : Cond.fieldLink RX9 96 "EnumRules$Tokens" "kind" "I" ∈ lwg := lwg_tb (i := 210) (by decide +kernel) (by decide +kernel)
theorem fl_X5_65 : Cond.fieldLink RX5 65 "EnumRules$Tokens" "place" "I" ∈ lwg := lwg_tb (i := 211) (by decide +kernel) (by decide +kernel)
theorem fl_X2_94 : Cond.fieldLink RX2 94 "EnumRules$Tokens" "place" "I" ∈ lwg := lwg_tb (i := 212) (by decide +kernel) (by decide +kernel)
theorem fl_X9_99 : Cond.fieldLink RX9 99 "EnumRules$Tokens" "place" "I" ∈ lwg := lwg_tb (i := 213) (by decide +kernel) (by decide +kernel)
theorem fl_X5_115 : Cond.fieldLink RX5 115 "EnumRules$Tokens" "number" "I" ∈ lwg := lwg_tb (i := 214) (by decide +kernel) (by decide +kernel)
theorem fl_X2_78 : Cond.fieldLink RX2 78 "EnumRules$Tokens" "number" "I" ∈ lwg := lwg_tb (i := 215) (by decide +kernel) (by decide +kernel)
theorem fl_X9_101 : Cond.fieldLink RX9 101 "EnumRules$Tokens" "number" "I" ∈ lwg := lwg_tb (i := 216) (by decide +kernel) (by decide +kernel)
theorem cl_X5_18 : Cond.classLink RX5 18 RX2 ∈ lwg := lwg_tb (i := 230) (by decide +kernel) (by decide +kernel)
theorem is_X2 : Cond.instantiable RX2 9 ∈ lwg := lwg_tb (i := 231) (by decide +kernel) (by decide +kernel)
theorem im_yX2_init : Cond.instanceMethod yX2_init ∈ lwg := lwg_tb (i := 233) (by decide +kernel) (by decide +kernel)
theorem cd_yX2_init : Cond.code yX2_init cX2_init 1 none ∈ lwg := lwg_tb (i := 234) (by decide +kernel) (by decide +kernel)
theorem ml_X2_3 : Cond.methodLink RX2 3 objectInit ∈ lwg := lwg_tb (i := 235) (by decide +kernel) (by decide +kernel)
theorem fl_X2_9 : Cond.fieldLink RX2 9 "EnumRules$ExpReader" "pile" "[I" ∈ lwg := lwg_tb (i := 236) (by decide +kernel) (by decide +kernel)
theorem fl_X2_15 : Cond.fieldLink RX2 15 "EnumRules$ExpReader" "tokens" "LEnumRules$Tokens;" ∈ lwg := lwg_tb (i := 237) (by decide +kernel) (by decide +kernel)
theorem fl_X2_19 : Cond.fieldLink RX2 19 "EnumRules$ExpReader" "program" "LEnumRules$Program;" ∈ lwg := lwg_tb (i := 238) (by decide +kernel) (by decide +kernel)
theorem fl_X2_23 : Cond.fieldLink RX2 23 "EnumRules$ExpReader" "faults" "LEnumRules$Faults;" ∈ lwg := lwg_tb (i := 239) (by decide +kernel) (by decide +kernel)
theorem fl_X2_27 : Cond.fieldLink RX2 27 "EnumRules$ExpReader" "sort" "I" ∈ lwg := lwg_tb (i := 240) (by decide +kernel) (by decide +kernel)
theorem fl_X2_31 : Cond.fieldLink RX2 31 "EnumRules$ExpReader" "waiting" "I" ∈ lwg := lwg_tb (i := 241) (by decide +kernel) (by decide +kernel)
theorem fl_X2_34 : Cond.fieldLink RX2 34 "EnumRules$ExpReader" "opened" "I" ∈ lwg := lwg_tb (i := 242) (by decide +kernel) (by decide +kernel)
theorem fl_X2_37 : Cond.fieldLink RX2 37 "EnumRules$ExpReader" "nested" "I" ∈ lwg := lwg_tb (i := 243) (by decide +kernel) (by decide +kernel)
theorem fl_X2_40 : Cond.fieldLink RX2 40 "EnumRules$ExpReader" "signs" "I" ∈ lwg := lwg_tb (i := 244) (by decide +kernel) (by decide +kernel)
theorem fl_X5_12 : Cond.fieldLink RX5 12 "EnumRules$Parser" "tokens" "LEnumRules$Tokens;" ∈ lwg := lwg_tb (i := 264) (by decide +kernel) (by decide +kernel)
theorem fl_X5_21 : Cond.fieldLink RX5 21 "EnumRules$Parser" "exps" "LEnumRules$ExpReader;" ∈ lwg := lwg_tb (i := 265) (by decide +kernel) (by decide +kernel)
theorem fl_X5_25 : Cond.fieldLink RX5 25 "EnumRules$Parser" "program" "LEnumRules$Program;" ∈ lwg := lwg_tb (i := 266) (by decide +kernel) (by decide +kernel)
theorem fl_X5_29 : Cond.fieldLink RX5 29 "EnumRules$Parser" "faults" "LEnumRules$Faults;" ∈ lwg := lwg_tb (i := 267) (by decide +kernel) (by decide +kernel)
theorem fl_X5_87 : Cond.fieldLink RX5 87 "EnumRules$Parser" "open" "LEnumRules$Enumeration;" ∈ lwg := lwg_tb (i := 268) (by decide +kernel) (by decide +kernel)
theorem cl_X10_40 : Cond.classLink RX10 40 RX0 ∈ lwg := lwg_tb (i := 280) (by decide +kernel) (by decide +kernel)
theorem is_X0 : Cond.instantiable RX0 5 ∈ lwg := lwg_tb (i := 281) (by decide +kernel) (by decide +kernel)
theorem im_yX0_init : Cond.instanceMethod yX0_init ∈ lwg := lwg_tb (i := 283) (by decide +kernel) (by decide +kernel)
theorem cd_yX0_init : Cond.code yX0_init cX0_init 1 none ∈ lwg := lwg_tb (i := 284) (by decide +kernel) (by decide +kernel)
theorem ml_X0_3 : Cond.methodLink RX0 3 objectInit ∈ lwg := lwg_tb (i := 285) (by decide +kernel) (by decide +kernel)
theorem fl_X0_9 : Cond.fieldLink RX0 9 "EnumRules$Binder" "program" "LEnumRules$Program;" ∈ lwg := lwg_tb (i := 286) (by decide +kernel) (by decide +kernel)
theorem fl_X0_15 : Cond.fieldLink RX0 15 "EnumRules$Binder" "faults" "LEnumRules$Faults;" ∈ lwg := lwg_tb (i := 287) (by decide +kernel) (by decide +kernel)
theorem fl_X0_19 : Cond.fieldLink RX0 19 "EnumRules$Binder" "open" "LEnumRules$Enumeration;" ∈ lwg := lwg_tb (i := 288) (by decide +kernel) (by decide +kernel)
theorem fl_X0_23 : Cond.fieldLink RX0 23 "EnumRules$Binder" "constant" "I" ∈ lwg := lwg_tb (i := 289) (by decide +kernel) (by decide +kernel)
theorem fl_X0_27 : Cond.fieldLink RX0 27 "EnumRules$Binder" "inMaker" "Z" ∈ lwg := lwg_tb (i := 290) (by decide +kernel) (by decide +kernel)
theorem cl_X10_47 : Cond.classLink RX10 47 RX7 ∈ lwg := lwg_tb (i := 302) (by decide +kernel) (by decide +kernel)
theorem is_X7 : Cond.instantiable RX7 6 ∈ lwg := lwg_tb (i := 303) (by decide +kernel) (by decide +kernel)
theorem im_yX7_init : Cond.instanceMethod yX7_init ∈ lwg := lwg_tb (i := 305) (by decide +kernel) (by decide +kernel)
theorem cd_yX7_init : Cond.code yX7_init cX7_init 1 none ∈ lwg := lwg_tb (i := 306) (by decide +kernel) (by decide +kernel)
theorem ml_X7_3 : Cond.methodLink RX7 3 objectInit ∈ lwg := lwg_tb (i := 307) (by decide +kernel) (by decide +kernel)
theorem fl_X7_9 : Cond.fieldLink RX7 9 "EnumRules$Runner" "traceRows" "[I" ∈ lwg := lwg_tb (i := 308) (by decide +kernel) (by decide +kernel)
theorem fl_X10_204 : Cond.fieldLink RX10 204 "EnumRules$Runner" "traceRows" "[I" ∈ lwg := lwg_tb (i := 309) (by decide +kernel) (by decide +kernel)
theorem fl_X7_15 : Cond.fieldLink RX7 15 "EnumRules$Runner" "stack" "[I" ∈ lwg := lwg_tb (i := 310) (by decide +kernel) (by decide +kernel)
theorem fl_X10_95 : Cond.fieldLink RX10 95 "EnumRules$Runner" "traceSize" "I" ∈ lwg := lwg_tb (i := 311) (by decide +kernel) (by decide +kernel)
theorem fl_X7_132 : Cond.fieldLink RX7 132 "EnumRules$Runner" "traceSize" "I" ∈ lwg := lwg_tb (i := 312) (by decide +kernel) (by decide +kernel)
theorem fl_X7_22 : Cond.fieldLink RX7 22 "EnumRules$Runner" "top" "I" ∈ lwg := lwg_tb (i := 313) (by decide +kernel) (by decide +kernel)
theorem fl_X7_26 : Cond.fieldLink RX7 26 "EnumRules$Runner" "failure" "I" ∈ lwg := lwg_tb (i := 314) (by decide +kernel) (by decide +kernel)
theorem fl_X10_210 : Cond.fieldLink RX10 210 "EnumRules$Runner" "failure" "I" ∈ lwg := lwg_tb (i := 315) (by decide +kernel) (by decide +kernel)
theorem fl_X7_18 : Cond.fieldLink RX7 18 "EnumRules$Runner" "program" "LEnumRules$Program;" ∈ lwg := lwg_tb (i := 316) (by decide +kernel) (by decide +kernel)
theorem ml_X10_58 : Cond.methodLink RX10 58 yX6_begin ∈ lwg := lwg_tb (i := 330) (by decide +kernel) (by decide +kernel)
theorem im_yX6_begin : Cond.instanceMethod yX6_begin ∈ lwg := lwg_tb (i := 331) (by decide +kernel) (by decide +kernel)
theorem se_yX6_begin : Cond.selects RX6 yX6_begin yX6_begin ∈ lwg := lwg_tb (i := 332) (by decide +kernel) (by decide +kernel)
theorem cd_yX6_begin : Cond.code yX6_begin cX6_begin 2 none ∈ lwg := lwg_tb (i := 333) (by decide +kernel) (by decide +kernel)
theorem fl_X10_10 : Cond.fieldLink RX10 10 "EnumRules" "loaded" "LEnumRules$Program;" ∈ lwg := lwg_tb (i := 334) (by decide +kernel) (by decide +kernel)
theorem fl_X10_16 : Cond.fieldLink RX10 16 "EnumRules" "spare" "LEnumRules$Program;" ∈ lwg := lwg_tb (i := 335) (by decide +kernel) (by decide +kernel)
theorem fl_X10_22 : Cond.fieldLink RX10 22 "EnumRules" "tape" "LEnumRules$Tape;" ∈ lwg := lwg_tb (i := 336) (by decide +kernel) (by decide +kernel)
theorem fl_X10_29 : Cond.fieldLink RX10 29 "EnumRules" "faults" "LEnumRules$Faults;" ∈ lwg := lwg_tb (i := 337) (by decide +kernel) (by decide +kernel)
theorem fl_X10_36 : Cond.fieldLink RX10 36 "EnumRules" "parser" "LEnumRules$Parser;" ∈ lwg := lwg_tb (i := 338) (by decide +kernel) (by decide +kernel)
theorem fl_X10_43 : Cond.fieldLink RX10 43 "EnumRules" "binder" "LEnumRules$Binder;" ∈ lwg := lwg_tb (i := 339) (by decide +kernel) (by decide +kernel)
theorem fl_X10_50 : Cond.fieldLink RX10 50 "EnumRules" "runner" "LEnumRules$Runner;" ∈ lwg := lwg_tb (i := 340) (by decide +kernel) (by decide +kernel)
theorem fl_X10_54 : Cond.fieldLink RX10 54 "EnumRules" "handPlaces" "[I" ∈ lwg := lwg_tb (i := 341) (by decide +kernel) (by decide +kernel)
theorem fl_X10_179 : Cond.fieldLink RX10 179 "EnumRules" "handEnum" "I" ∈ lwg := lwg_tb (i := 342) (by decide +kernel) (by decide +kernel)
theorem fl_X10_98 : Cond.fieldLink RX10 98 "EnumRules" "handSize" "I" ∈ lwg := lwg_tb (i := 343) (by decide +kernel) (by decide +kernel)
theorem fl_X10_105 : Cond.fieldLink RX10 105 "EnumRules" "lastCause" "I" ∈ lwg := lwg_tb (i := 344) (by decide +kernel) (by decide +kernel)
theorem fl_X10_207 : Cond.fieldLink RX10 207 "EnumRules" "failedCalls" "I" ∈ lwg := lwg_tb (i := 345) (by decide +kernel) (by decide +kernel)
theorem ml_L_13 : Cond.methodLink RL 13 yX10_feed ∈ lwg := lwg_tb (i := 371) (by decide +kernel) (by decide +kernel)
theorem im_yX10_feed : Cond.instanceMethod yX10_feed ∈ lwg := lwg_tb (i := 372) (by decide +kernel) (by decide +kernel)
theorem se_yX10_feed : Cond.selects RX10 yX10_feed yX10_feed ∈ lwg := lwg_tb (i := 373) (by decide +kernel) (by decide +kernel)
theorem cd_yX10_feed : Cond.code yX10_feed cX10_feed 6 (some .int) ∈ lwg := lwg_tb (i := 374) (by decide +kernel) (by decide +kernel)
theorem co_X10_66 : Cond.constant RX10 66 (-1000004) ∈ lwg := lwg_tb (i := 375) (by decide +kernel) (by decide +kernel)
theorem ml_X10_67 : Cond.methodLink RX10 67 yX8_append ∈ lwg := lwg_tb (i := 376) (by decide +kernel) (by decide +kernel)
theorem im_yX8_append : Cond.instanceMethod yX8_append ∈ lwg := lwg_tb (i := 377) (by decide +kernel) (by decide +kernel)
theorem se_yX8_append : Cond.selects RX8 yX8_append yX8_append ∈ lwg := lwg_tb (i := 378) (by decide +kernel) (by decide +kernel)
theorem cd_yX8_append : Cond.code yX8_append cX8_append 3 none ∈ lwg := lwg_tb (i := 379) (by decide +kernel) (by decide +kernel)
theorem ml_L_18 : Cond.methodLink RL 18 yX10_end ∈ lwg := lwg_tb (i := 380) (by decide +kernel) (by decide +kernel)
theorem im_yX10_end : Cond.instanceMethod yX10_end ∈ lwg := lwg_tb (i := 381) (by decide +kernel) (by decide +kernel)
theorem se_yX10_end : Cond.selects RX10 yX10_end yX10_end ∈ lwg := lwg_tb (i := 382) (by decide +kernel) (by decide +kernel)
theorem cd_yX10_end : Cond.code yX10_end cX10_end 2 (some .int) ∈ lwg := lwg_tb (i := 383) (by decide +kernel) (by decide +kernel)
theorem co_X10_71 : Cond.constant RX10 71 (-1000002) ∈ lwg := lwg_tb (i := 384) (by decide +kernel) (by decide +kernel)
theorem ml_L_23 : Cond.methodLink RL 23 yX10_load ∈ lwg := lwg_tb (i := 385) (by decide +kernel) (by decide +kernel)
theorem im_yX10_load : Cond.instanceMethod yX10_load ∈ lwg := lwg_tb (i := 386) (by decide +kernel) (by decide +kernel)
theorem se_yX10_load : Cond.selects RX10 yX10_load yX10_load ∈ lwg := lwg_tb (i := 387) (by decide +kernel) (by decide +kernel)
theorem cd_yX10_load : Cond.code yX10_load cX10_load 1 (some .int) ∈ lwg := lwg_tb (i := 388) (by decide +kernel) (by decide +kernel)
theorem ml_X10_72 : Cond.methodLink RX10 72 yX3_forget ∈ lwg := lwg_tb (i := 389) (by decide +kernel) (by decide +kernel)
theorem im_yX3_forget : Cond.instanceMethod yX3_forget ∈ lwg := lwg_tb (i := 390) (by decide +kernel) (by decide +kernel)
theorem se_yX3_forget : Cond.selects RX3 yX3_forget yX3_forget ∈ lwg := lwg_tb (i := 391) (by decide +kernel) (by decide +kernel)
theorem cd_yX3_forget : Cond.code yX3_forget cX3_forget 1 none ∈ lwg := lwg_tb (i := 392) (by decide +kernel) (by decide +kernel)
theorem ml_X10_75 : Cond.methodLink RX10 75 yX5_readText ∈ lwg := lwg_tb (i := 393) (by decide +kernel) (by decide +kernel)
theorem im_yX5_readText : Cond.instanceMethod yX5_readText ∈ lwg := lwg_tb (i := 394) (by decide +kernel) (by decide +kernel)
theorem se_yX5_readText : Cond.selects RX5 yX5_readText yX5_readText ∈ lwg := lwg_tb (i := 395) (by decide +kernel) (by decide +kernel)
theorem cd_yX5_readText : Cond.code yX5_readText cX5_readText 5 (some .boolean) ∈ lwg := lwg_tb (i := 396) (by decide +kernel) (by decide +kernel)
theorem ml_X5_39 : Cond.methodLink RX5 39 yX9_split ∈ lwg := lwg_tb (i := 397) (by decide +kernel) (by decide +kernel)
theorem im_yX9_split : Cond.instanceMethod yX9_split ∈ lwg := lwg_tb (i := 398) (by decide +kernel) (by decide +kernel)
theorem se_yX9_split : Cond.selects RX9 yX9_split yX9_split ∈ lwg := lwg_tb (i := 399) (by decide +kernel) (by decide +kernel)
theorem cd_yX9_split : Cond.code yX9_split cX9_split 4 none ∈ lwg := lwg_tb (i := 400) (by decide +kernel) (by decide +kernel)
theorem ml_X9_24 : Cond.methodLink RX9 24 yX9_addAt ∈ lwg := lwg_tb (i := 401) (by decide +kernel) (by decide +kernel)
theorem im_yX9_addAt : Cond.instanceMethod yX9_addAt ∈ lwg := lwg_tb (i := 403) (by decide +kernel) (by decide +kernel)
theorem cd_yX9_addAt : Cond.code yX9_addAt cX9_addAt 5 (some .int) ∈ lwg := lwg_tb (i := 404) (by decide +kernel) (by decide +kernel)
theorem ml_X9_39 : Cond.methodLink RX9 39 yX8_byteAt ∈ lwg := lwg_tb (i := 405) (by decide +kernel) (by decide +kernel)
theorem im_yX8_byteAt : Cond.instanceMethod yX8_byteAt ∈ lwg := lwg_tb (i := 406) (by decide +kernel) (by decide +kernel)
theorem se_yX8_byteAt : Cond.selects RX8 yX8_byteAt yX8_byteAt ∈ lwg := lwg_tb (i := 407) (by decide +kernel) (by decide +kernel)
theorem cd_yX8_byteAt : Cond.code yX8_byteAt cX8_byteAt 2 (some .int) ∈ lwg := lwg_tb (i := 408) (by decide +kernel) (by decide +kernel)
theorem ml_X9_43 : Cond.methodLink RX9 43 yX8_isLetterAt ∈ lwg := lwg_tb (i := 409) (by decide +kernel) (by decide +kernel)
theorem im_yX8_isLetterAt : Cond.instanceMethod yX8_isLetterAt ∈ lwg := lwg_tb (i := 410) (by decide +kernel) (by decide +kernel)
theorem se_yX8_isLetterAt : Cond.selects RX8 yX8_isLetterAt yX8_isLetterAt ∈ lwg := lwg_tb (i := 411) (by decide +kernel) (by decide +kernel)
theorem cd_yX8_isLetterAt : Cond.code yX8_isLetterAt cX8_isLetterAt 3 (some .boolean) ∈ lwg := lwg_tb (i := 412) (by decide +kernel) (by decide +kernel)
theorem ml_X8_19 : Cond.methodLink RX8 19 yX8_byteAt ∈ lwg := lwg_tb (i := 413) (by decide +kernel) (by decide +kernel)
theorem ml_X9_47 : Cond.methodLink RX9 47 yX8_nameLength ∈ lwg := lwg_tb (i := 414) (by decide +kernel) (by decide +kernel)
theorem im_yX8_nameLength : Cond.instanceMethod yX8_nameLength ∈ lwg := lwg_tb (i := 415) (by decide +kernel) (by decide +kernel)
theorem se_yX8_nameLength : Cond.selects RX8 yX8_nameLength yX8_nameLength ∈ lwg := lwg_tb (i := 416) (by decide +kernel) (by decide +kernel)
theorem cd_yX8_nameLength : Cond.code yX8_nameLength cX8_nameLength 3 (some .int) ∈ lwg := lwg_tb (i := 417) (by decide +kernel) (by decide +kernel)
theorem ml_X8_23 : Cond.methodLink RX8 23 yX8_isLetterAt ∈ lwg := lwg_tb (i := 418) (by decide +kernel) (by decide +kernel)
theorem ml_X8_27 : Cond.methodLink RX8 27 yX8_isDigitAt ∈ lwg := lwg_tb (i := 419) (by decide +kernel) (by decide +kernel)
theorem im_yX8_isDigitAt : Cond.instanceMethod yX8_isDigitAt ∈ lwg := lwg_tb (i := 420) (by decide +kernel) (by decide +kernel)
theorem se_yX8_isDigitAt : Cond.selects RX8 yX8_isDigitAt yX8_isDigitAt ∈ lwg := lwg_tb (i := 421) (by decide +kernel) (by decide +kernel)
theorem cd_yX8_isDigitAt : Cond.code yX8_isDigitAt cX8_isDigitAt 3 (some .boolean) ∈ lwg := lwg_tb (i := 422) (by decide +kernel) (by decide +kernel)
theorem ml_X9_50 : Cond.methodLink RX9 50 yX9_wordOrName ∈ lwg := lwg_tb (i := 423) (by decide +kernel) (by decide +kernel)
theorem im_yX9_wordOrName : Cond.instanceMethod yX9_wordOrName ∈ lwg := lwg_tb (i := 425) (by decide +kernel) (by decide +kernel)
theorem cd_yX9_wordOrName : Cond.code yX9_wordOrName cX9_wordOrName 4 (some .int) ∈ lwg := lwg_tb (i := 426) (by decide +kernel) (by decide +kernel)
theorem ml_X9_72 : Cond.methodLink RX9 72 yX8_spells ∈ lwg := lwg_tb (i := 428) (by decide +kernel) (by decide +kernel)
theorem im_yX8_spells : Cond.instanceMethod yX8_spells ∈ lwg := lwg_tb (i := 429) (by decide +kernel) (by decide +kernel)
theorem se_yX8_spells : Cond.selects RX8 yX8_spells yX8_spells ∈ lwg := lwg_tb (i := 430) (by decide +kernel) (by decide +kernel)
theorem cd_yX8_spells : Cond.code yX8_spells cX8_spells 5 (some .boolean) ∈ lwg := lwg_tb (i := 431) (by decide +kernel) (by decide +kernel)
theorem ml_X8_33 : Cond.methodLink RX8 33 ⟨"java/lang/String", "length", "()I"⟩ ∈ lwg := lwg_tb (i := 432) (by decide +kernel) (by decide +kernel)
theorem ml_X8_38 : Cond.methodLink RX8 38 ⟨"java/lang/String", "charAt", "(I)C"⟩ ∈ lwg := lwg_tb (i := 442) (by decide +kernel) (by decide +kernel)
theorem ml_X9_28 : Cond.methodLink RX9 28 yX9_add ∈ lwg := lwg_tb (i := 488) (by decide +kernel) (by decide +kernel)
theorem im_yX9_add : Cond.instanceMethod yX9_add ∈ lwg := lwg_tb (i := 490) (by decide +kernel) (by decide +kernel)
theorem cd_yX9_add : Cond.code yX9_add cX9_add 4 none ∈ lwg := lwg_tb (i := 491) (by decide +kernel) (by decide +kernel)
theorem cj_X9_92 : Cond.constantLong RX9 92 (4096) ∈ lwg := lwg_tb (i := 492) (by decide +kernel) (by decide +kernel)
theorem cj_X9_94 : Cond.constantLong RX9 94 (256) ∈ lwg := lwg_tb (i := 493) (by decide +kernel) (by decide +kernel)
theorem ml_X9_54 : Cond.methodLink RX9 54 yX8_isDigitAt ∈ lwg := lwg_tb (i := 494) (by decide +kernel) (by decide +kernel)
theorem ml_X9_57 : Cond.methodLink RX9 57 yX8_numberAt ∈ lwg := lwg_tb (i := 495) (by decide +kernel) (by decide +kernel)
theorem im_yX8_numberAt : Cond.instanceMethod yX8_numberAt ∈ lwg := lwg_tb (i := 496) (by decide +kernel) (by decide +kernel)
theorem se_yX8_numberAt : Cond.selects RX8 yX8_numberAt yX8_numberAt ∈ lwg := lwg_tb (i := 497) (by decide +kernel) (by decide +kernel)
theorem cd_yX8_numberAt : Cond.code yX8_numberAt cX8_numberAt 5 (some .int) ∈ lwg := lwg_tb (i := 498) (by decide +kernel) (by decide +kernel)
theorem ml_X8_30 : Cond.methodLink RX8 30 yX8_numberLength ∈ lwg := lwg_tb (i := 499) (by decide +kernel) (by decide +kernel)
theorem im_yX8_numberLength : Cond.instanceMethod yX8_numberLength ∈ lwg := lwg_tb (i := 500) (by decide +kernel) (by decide +kernel)
theorem se_yX8_numberLength : Cond.selects RX8 yX8_numberLength yX8_numberLength ∈ lwg := lwg_tb (i := 501) (by decide +kernel) (by decide +kernel)
theorem cd_yX8_numberLength : Cond.code yX8_numberLength cX8_numberLength 3 (some .int) ∈ lwg := lwg_tb (i := 502) (by decide +kernel) (by decide +kernel)
theorem ml_X9_60 : Cond.methodLink RX9 60 yX8_numberLength ∈ lwg := lwg_tb (i := 503) (by decide +kernel) (by decide +kernel)
theorem ml_X9_65 : Cond.methodLink RX9 65 ⟨"java/lang/String", "indexOf", "(I)I"⟩ ∈ lwg := lwg_tb (i := 505) (by decide +kernel) (by decide +kernel)
theorem ml_X9_35 : Cond.methodLink RX9 35 yX9_advance ∈ lwg := lwg_tb (i := 564) (by decide +kernel) (by decide +kernel)
theorem im_yX9_advance : Cond.instanceMethod yX9_advance ∈ lwg := lwg_tb (i := 565) (by decide +kernel) (by decide +kernel)
theorem se_yX9_advance : Cond.selects RX9 yX9_advance yX9_advance ∈ lwg := lwg_tb (i := 566) (by decide +kernel) (by decide +kernel)
theorem cd_yX9_advance : Cond.code yX9_advance cX9_advance 3 (some .boolean) ∈ lwg := lwg_tb (i := 567) (by decide +kernel) (by decide +kernel)
theorem ml_X5_43 : Cond.methodLink RX5 43 yX2_begin ∈ lwg := lwg_tb (i := 568) (by decide +kernel) (by decide +kernel)
theorem im_yX2_begin : Cond.instanceMethod yX2_begin ∈ lwg := lwg_tb (i := 569) (by decide +kernel) (by decide +kernel)
theorem se_yX2_begin : Cond.selects RX2 yX2_begin yX2_begin ∈ lwg := lwg_tb (i := 570) (by decide +kernel) (by decide +kernel)
theorem cd_yX2_begin : Cond.code yX2_begin cX2_begin 4 none ∈ lwg := lwg_tb (i := 571) (by decide +kernel) (by decide +kernel)
theorem ml_X5_51 : Cond.methodLink RX5 51 yX9_take ∈ lwg := lwg_tb (i := 572) (by decide +kernel) (by decide +kernel)
theorem im_yX9_take : Cond.instanceMethod yX9_take ∈ lwg := lwg_tb (i := 573) (by decide +kernel) (by decide +kernel)
theorem se_yX9_take : Cond.selects RX9 yX9_take yX9_take ∈ lwg := lwg_tb (i := 574) (by decide +kernel) (by decide +kernel)
theorem cd_yX9_take : Cond.code yX9_take cX9_take 2 (some .boolean) ∈ lwg := lwg_tb (i := 575) (by decide +kernel) (by decide +kernel)
theorem ml_X5_55 : Cond.methodLink RX5 55 yX5_openEnum ∈ lwg := lwg_tb (i := 576) (by decide +kernel) (by decide +kernel)
theorem im_yX5_openEnum : Cond.instanceMethod yX5_openEnum ∈ lwg := lwg_tb (i := 578) (by decide +kernel) (by decide +kernel)
theorem cd_yX5_openEnum : Cond.code yX5_openEnum cX5_openEnum 1 (some .boolean) ∈ lwg := lwg_tb (i := 579) (by decide +kernel) (by decide +kernel)
theorem ml_X5_79 : Cond.methodLink RX5 79 yX6_put ∈ lwg := lwg_tb (i := 580) (by decide +kernel) (by decide +kernel)
theorem im_yX6_put : Cond.instanceMethod yX6_put ∈ lwg := lwg_tb (i := 581) (by decide +kernel) (by decide +kernel)
theorem se_yX6_put : Cond.selects RX6 yX6_put yX6_put ∈ lwg := lwg_tb (i := 582) (by decide +kernel) (by decide +kernel)
theorem cd_yX6_put : Cond.code yX6_put cX6_put 3 (some .boolean) ∈ lwg := lwg_tb (i := 583) (by decide +kernel) (by decide +kernel)
theorem cj_X6_42 : Cond.constantLong RX6 42 (16) ∈ lwg := lwg_tb (i := 584) (by decide +kernel) (by decide +kernel)
theorem ml_X5_83 : Cond.methodLink RX5 83 yX6_addEnum ∈ lwg := lwg_tb (i := 585) (by decide +kernel) (by decide +kernel)
theorem im_yX6_addEnum : Cond.instanceMethod yX6_addEnum ∈ lwg := lwg_tb (i := 586) (by decide +kernel) (by decide +kernel)
theorem se_yX6_addEnum : Cond.selects RX6 yX6_addEnum yX6_addEnum ∈ lwg := lwg_tb (i := 587) (by decide +kernel) (by decide +kernel)
theorem cd_yX6_addEnum : Cond.code yX6_addEnum cX6_addEnum 2 (some (.object "EnumRules$Enumeration")) ∈ lwg := lwg_tb (i := 588) (by decide +kernel) (by decide +kernel)
theorem ml_X6_37 : Cond.methodLink RX6 37 yX1_begin ∈ lwg := lwg_tb (i := 589) (by decide +kernel) (by decide +kernel)
theorem im_yX1_begin : Cond.instanceMethod yX1_begin ∈ lwg := lwg_tb (i := 590) (by decide +kernel) (by decide +kernel)
theorem se_yX1_begin : Cond.selects RX1 yX1_begin yX1_begin ∈ lwg := lwg_tb (i := 591) (by decide +kernel) (by decide +kernel)
theorem cd_yX1_begin : Cond.code yX1_begin cX1_begin 1 none ∈ lwg := lwg_tb (i := 592) (by decide +kernel) (by decide +kernel)
theorem ml_X5_91 : Cond.methodLink RX5 91 yX9_advance ∈ lwg := lwg_tb (i := 593) (by decide +kernel) (by decide +kernel)
theorem ml_X5_59 : Cond.methodLink RX5 59 yX5_readConstants ∈ lwg := lwg_tb (i := 594) (by decide +kernel) (by decide +kernel)
theorem im_yX5_readConstants : Cond.instanceMethod yX5_readConstants ∈ lwg := lwg_tb (i := 596) (by decide +kernel) (by decide +kernel)
theorem cd_yX5_readConstants : Cond.code yX5_readConstants cX5_readConstants 2 (some .boolean) ∈ lwg := lwg_tb (i := 597) (by decide +kernel) (by decide +kernel)
theorem ml_X5_94 : Cond.methodLink RX5 94 yX1_addConstant ∈ lwg := lwg_tb (i := 598) (by decide +kernel) (by decide +kernel)
theorem im_yX1_addConstant : Cond.instanceMethod yX1_addConstant ∈ lwg := lwg_tb (i := 599) (by decide +kernel) (by decide +kernel)
theorem se_yX1_addConstant : Cond.selects RX1 yX1_addConstant yX1_addConstant ∈ lwg := lwg_tb (i := 600) (by decide +kernel) (by decide +kernel)
theorem cd_yX1_addConstant : Cond.code yX1_addConstant cX1_addConstant 3 (some .boolean) ∈ lwg := lwg_tb (i := 601) (by decide +kernel) (by decide +kernel)
theorem ml_X1_71 : Cond.methodLink RX1 71 yX1_addName ∈ lwg := lwg_tb (i := 602) (by decide +kernel) (by decide +kernel)
theorem im_yX1_addName : Cond.instanceMethod yX1_addName ∈ lwg := lwg_tb (i := 604) (by decide +kernel) (by decide +kernel)
theorem cd_yX1_addName : Cond.code yX1_addName cX1_addName 2 none ∈ lwg := lwg_tb (i := 605) (by decide +kernel) (by decide +kernel)
theorem ml_X5_99 : Cond.methodLink RX5 99 yX5_readArg ∈ lwg := lwg_tb (i := 606) (by decide +kernel) (by decide +kernel)
theorem im_yX5_readArg : Cond.instanceMethod yX5_readArg ∈ lwg := lwg_tb (i := 608) (by decide +kernel) (by decide +kernel)
theorem cd_yX5_readArg : Cond.code yX5_readArg cX5_readArg 2 (some .boolean) ∈ lwg := lwg_tb (i := 609) (by decide +kernel) (by decide +kernel)
theorem ml_X5_108 : Cond.methodLink RX5 108 yX1_hasConstant ∈ lwg := lwg_tb (i := 610) (by decide +kernel) (by decide +kernel)
theorem im_yX1_hasConstant : Cond.instanceMethod yX1_hasConstant ∈ lwg := lwg_tb (i := 611) (by decide +kernel) (by decide +kernel)
theorem se_yX1_hasConstant : Cond.selects RX1 yX1_hasConstant yX1_hasConstant ∈ lwg := lwg_tb (i := 612) (by decide +kernel) (by decide +kernel)
theorem cd_yX1_hasConstant : Cond.code yX1_hasConstant cX1_hasConstant 2 (some .boolean) ∈ lwg := lwg_tb (i := 613) (by decide +kernel) (by decide +kernel)
theorem ml_X5_102 : Cond.methodLink RX5 102 yX5_readBody ∈ lwg := lwg_tb (i := 614) (by decide +kernel) (by decide +kernel)
theorem im_yX5_readBody : Cond.instanceMethod yX5_readBody ∈ lwg := lwg_tb (i := 616) (by decide +kernel) (by decide +kernel)
theorem cd_yX5_readBody : Cond.code yX5_readBody cX5_readBody 3 (some .boolean) ∈ lwg := lwg_tb (i := 617) (by decide +kernel) (by decide +kernel)
theorem ml_X5_122 : Cond.methodLink RX5 122 yX2_read ∈ lwg := lwg_tb (i := 618) (by decide +kernel) (by decide +kernel)
theorem im_yX2_read : Cond.instanceMethod yX2_read ∈ lwg := lwg_tb (i := 619) (by decide +kernel) (by decide +kernel)
theorem se_yX2_read : Cond.selects RX2 yX2_read yX2_read ∈ lwg := lwg_tb (i := 620) (by decide +kernel) (by decide +kernel)
theorem cd_yX2_read : Cond.code yX2_read cX2_read 4 (some .boolean) ∈ lwg := lwg_tb (i := 621) (by decide +kernel) (by decide +kernel)
theorem ml_X2_43 : Cond.methodLink RX2 43 yX2_readNesting ∈ lwg := lwg_tb (i := 622) (by decide +kernel) (by decide +kernel)
theorem im_yX2_readNesting : Cond.instanceMethod yX2_readNesting ∈ lwg := lwg_tb (i := 624) (by decide +kernel) (by decide +kernel)
theorem cd_yX2_readNesting : Cond.code yX2_readNesting cX2_readNesting 2 (some .boolean) ∈ lwg := lwg_tb (i := 625) (by decide +kernel) (by decide +kernel)
theorem ml_X2_71 : Cond.methodLink RX2 71 yX2_pushWaiting ∈ lwg := lwg_tb (i := 626) (by decide +kernel) (by decide +kernel)
theorem im_yX2_pushWaiting : Cond.instanceMethod yX2_pushWaiting ∈ lwg := lwg_tb (i := 628) (by decide +kernel) (by decide +kernel)
theorem cd_yX2_pushWaiting : Cond.code yX2_pushWaiting cX2_pushWaiting 2 none ∈ lwg := lwg_tb (i := 629) (by decide +kernel) (by decide +kernel)
theorem ml_X2_75 : Cond.methodLink RX2 75 yX9_advance ∈ lwg := lwg_tb (i := 630) (by decide +kernel) (by decide +kernel)
theorem ml_X2_47 : Cond.methodLink RX2 47 yX2_readOne ∈ lwg := lwg_tb (i := 631) (by decide +kernel) (by decide +kernel)
theorem im_yX2_readOne : Cond.instanceMethod yX2_readOne ∈ lwg := lwg_tb (i := 633) (by decide +kernel) (by decide +kernel)
theorem cd_yX2_readOne : Cond.code yX2_readOne cX2_readOne 1 (some .boolean) ∈ lwg := lwg_tb (i := 634) (by decide +kernel) (by decide +kernel)
theorem ml_X2_81 : Cond.methodLink RX2 81 yX6_put ∈ lwg := lwg_tb (i := 635) (by decide +kernel) (by decide +kernel)
theorem ml_X2_87 : Cond.methodLink RX2 87 yX2_readName ∈ lwg := lwg_tb (i := 636) (by decide +kernel) (by decide +kernel)
theorem im_yX2_readName : Cond.instanceMethod yX2_readName ∈ lwg := lwg_tb (i := 638) (by decide +kernel) (by decide +kernel)
theorem cd_yX2_readName : Cond.code yX2_readName cX2_readName 2 (some .boolean) ∈ lwg := lwg_tb (i := 639) (by decide +kernel) (by decide +kernel)
theorem ml_X2_90 : Cond.methodLink RX2 90 yX2_readWord ∈ lwg := lwg_tb (i := 640) (by decide +kernel) (by decide +kernel)
theorem im_yX2_readWord : Cond.instanceMethod yX2_readWord ∈ lwg := lwg_tb (i := 642) (by decide +kernel) (by decide +kernel)
theorem cd_yX2_readWord : Cond.code yX2_readWord cX2_readWord 3 (some .boolean) ∈ lwg := lwg_tb (i := 643) (by decide +kernel) (by decide +kernel)
theorem ml_X2_97 : Cond.methodLink RX2 97 yX3_note ∈ lwg := lwg_tb (i := 644) (by decide +kernel) (by decide +kernel)
theorem im_yX3_note : Cond.instanceMethod yX3_note ∈ lwg := lwg_tb (i := 645) (by decide +kernel) (by decide +kernel)
theorem se_yX3_note : Cond.selects RX3 yX3_note yX3_note ∈ lwg := lwg_tb (i := 646) (by decide +kernel) (by decide +kernel)
theorem cd_yX3_note : Cond.code yX3_note cX3_note 3 none ∈ lwg := lwg_tb (i := 647) (by decide +kernel) (by decide +kernel)
theorem ml_X2_50 : Cond.methodLink RX2 50 yX2_readClosing ∈ lwg := lwg_tb (i := 648) (by decide +kernel) (by decide +kernel)
theorem im_yX2_readClosing : Cond.instanceMethod yX2_readClosing ∈ lwg := lwg_tb (i := 650) (by decide +kernel) (by decide +kernel)
theorem cd_yX2_readClosing : Cond.code yX2_readClosing cX2_readClosing 2 (some .boolean) ∈ lwg := lwg_tb (i := 651) (by decide +kernel) (by decide +kernel)
theorem ml_X2_103 : Cond.methodLink RX2 103 yX2_putWaiting ∈ lwg := lwg_tb (i := 652) (by decide +kernel) (by decide +kernel)
theorem im_yX2_putWaiting : Cond.instanceMethod yX2_putWaiting ∈ lwg := lwg_tb (i := 654) (by decide +kernel) (by decide +kernel)
theorem cd_yX2_putWaiting : Cond.code yX2_putWaiting cX2_putWaiting 3 none ∈ lwg := lwg_tb (i := 655) (by decide +kernel) (by decide +kernel)
theorem ml_X2_106 : Cond.methodLink RX2 106 yX2_strengthOf ∈ lwg := lwg_tb (i := 656) (by decide +kernel) (by decide +kernel)
theorem im_yX2_strengthOf : Cond.instanceMethod yX2_strengthOf ∈ lwg := lwg_tb (i := 658) (by decide +kernel) (by decide +kernel)
theorem cd_yX2_strengthOf : Cond.code yX2_strengthOf cX2_strengthOf 2 (some .int) ∈ lwg := lwg_tb (i := 659) (by decide +kernel) (by decide +kernel)
theorem ml_X2_53 : Cond.methodLink RX2 53 yX2_joiningOp ∈ lwg := lwg_tb (i := 660) (by decide +kernel) (by decide +kernel)
theorem im_yX2_joiningOp : Cond.instanceMethod yX2_joiningOp ∈ lwg := lwg_tb (i := 662) (by decide +kernel) (by decide +kernel)
theorem cd_yX2_joiningOp : Cond.code yX2_joiningOp cX2_joiningOp 1 (some .int) ∈ lwg := lwg_tb (i := 663) (by decide +kernel) (by decide +kernel)
theorem ml_X2_57 : Cond.methodLink RX2 57 yX2_finishExp ∈ lwg := lwg_tb (i := 664) (by decide +kernel) (by decide +kernel)
theorem im_yX2_finishExp : Cond.instanceMethod yX2_finishExp ∈ lwg := lwg_tb (i := 666) (by decide +kernel) (by decide +kernel)
theorem cd_yX2_finishExp : Cond.code yX2_finishExp cX2_finishExp 1 (some .boolean) ∈ lwg := lwg_tb (i := 667) (by decide +kernel) (by decide +kernel)
theorem ml_X2_60 : Cond.methodLink RX2 60 yX2_readSign ∈ lwg := lwg_tb (i := 668) (by decide +kernel) (by decide +kernel)
theorem im_yX2_readSign : Cond.instanceMethod yX2_readSign ∈ lwg := lwg_tb (i := 670) (by decide +kernel) (by decide +kernel)
theorem cd_yX2_readSign : Cond.code yX2_readSign cX2_readSign 2 (some .boolean) ∈ lwg := lwg_tb (i := 671) (by decide +kernel) (by decide +kernel)
theorem ml_X5_62 : Cond.methodLink RX5 62 yX5_readMembers ∈ lwg := lwg_tb (i := 672) (by decide +kernel) (by decide +kernel)
theorem im_yX5_readMembers : Cond.instanceMethod yX5_readMembers ∈ lwg := lwg_tb (i := 674) (by decide +kernel) (by decide +kernel)
theorem cd_yX5_readMembers : Cond.code yX5_readMembers cX5_readMembers 3 (some .boolean) ∈ lwg := lwg_tb (i := 675) (by decide +kernel) (by decide +kernel)
theorem ml_X5_125 : Cond.methodLink RX5 125 yX5_readAbstract ∈ lwg := lwg_tb (i := 676) (by decide +kernel) (by decide +kernel)
theorem im_yX5_readAbstract : Cond.instanceMethod yX5_readAbstract ∈ lwg := lwg_tb (i := 678) (by decide +kernel) (by decide +kernel)
theorem cd_yX5_readAbstract : Cond.code yX5_readAbstract cX5_readAbstract 1 (some .boolean) ∈ lwg := lwg_tb (i := 679) (by decide +kernel) (by decide +kernel)
theorem ml_X5_140 : Cond.methodLink RX5 140 yX1_addMember ∈ lwg := lwg_tb (i := 680) (by decide +kernel) (by decide +kernel)
theorem im_yX1_addMember : Cond.instanceMethod yX1_addMember ∈ lwg := lwg_tb (i := 681) (by decide +kernel) (by decide +kernel)
theorem se_yX1_addMember : Cond.selects RX1 yX1_addMember yX1_addMember ∈ lwg := lwg_tb (i := 682) (by decide +kernel) (by decide +kernel)
theorem cd_yX1_addMember : Cond.code yX1_addMember cX1_addMember 3 (some .boolean) ∈ lwg := lwg_tb (i := 683) (by decide +kernel) (by decide +kernel)
theorem ml_X5_128 : Cond.methodLink RX5 128 yX5_readDef ∈ lwg := lwg_tb (i := 684) (by decide +kernel) (by decide +kernel)
theorem im_yX5_readDef : Cond.instanceMethod yX5_readDef ∈ lwg := lwg_tb (i := 686) (by decide +kernel) (by decide +kernel)
theorem cd_yX5_readDef : Cond.code yX5_readDef cX5_readDef 1 (some .boolean) ∈ lwg := lwg_tb (i := 687) (by decide +kernel) (by decide +kernel)
theorem ml_X5_131 : Cond.methodLink RX5 131 yX5_readField ∈ lwg := lwg_tb (i := 688) (by decide +kernel) (by decide +kernel)
theorem im_yX5_readField : Cond.instanceMethod yX5_readField ∈ lwg := lwg_tb (i := 690) (by decide +kernel) (by decide +kernel)
theorem cd_yX5_readField : Cond.code yX5_readField cX5_readField 1 (some .boolean) ∈ lwg := lwg_tb (i := 691) (by decide +kernel) (by decide +kernel)
theorem ml_X5_146 : Cond.methodLink RX5 146 yX1_addField ∈ lwg := lwg_tb (i := 692) (by decide +kernel) (by decide +kernel)
theorem im_yX1_addField : Cond.instanceMethod yX1_addField ∈ lwg := lwg_tb (i := 693) (by decide +kernel) (by decide +kernel)
theorem se_yX1_addField : Cond.selects RX1 yX1_addField yX1_addField ∈ lwg := lwg_tb (i := 694) (by decide +kernel) (by decide +kernel)
theorem cd_yX1_addField : Cond.code yX1_addField cX1_addField 3 (some .boolean) ∈ lwg := lwg_tb (i := 695) (by decide +kernel) (by decide +kernel)
theorem ml_X5_134 : Cond.methodLink RX5 134 yX5_readConst ∈ lwg := lwg_tb (i := 696) (by decide +kernel) (by decide +kernel)
theorem im_yX5_readConst : Cond.instanceMethod yX5_readConst ∈ lwg := lwg_tb (i := 698) (by decide +kernel) (by decide +kernel)
theorem cd_yX5_readConst : Cond.code yX5_readConst cX5_readConst 2 (some .boolean) ∈ lwg := lwg_tb (i := 699) (by decide +kernel) (by decide +kernel)
theorem ml_X5_152 : Cond.methodLink RX5 152 yX1_hasField ∈ lwg := lwg_tb (i := 700) (by decide +kernel) (by decide +kernel)
theorem im_yX1_hasField : Cond.instanceMethod yX1_hasField ∈ lwg := lwg_tb (i := 701) (by decide +kernel) (by decide +kernel)
theorem se_yX1_hasField : Cond.selects RX1 yX1_hasField yX1_hasField ∈ lwg := lwg_tb (i := 702) (by decide +kernel) (by decide +kernel)
theorem cd_yX1_hasField : Cond.code yX1_hasField cX1_hasField 2 (some .boolean) ∈ lwg := lwg_tb (i := 703) (by decide +kernel) (by decide +kernel)
theorem ml_X5_137 : Cond.methodLink RX5 137 yX5_readMaker ∈ lwg := lwg_tb (i := 704) (by decide +kernel) (by decide +kernel)
theorem im_yX5_readMaker : Cond.instanceMethod yX5_readMaker ∈ lwg := lwg_tb (i := 706) (by decide +kernel) (by decide +kernel)
theorem cd_yX5_readMaker : Cond.code yX5_readMaker cX5_readMaker 1 (some .boolean) ∈ lwg := lwg_tb (i := 707) (by decide +kernel) (by decide +kernel)
theorem ml_X5_161 : Cond.methodLink RX5 161 yX3_note ∈ lwg := lwg_tb (i := 708) (by decide +kernel) (by decide +kernel)
theorem ml_X5_68 : Cond.methodLink RX5 68 yX3_noteText ∈ lwg := lwg_tb (i := 709) (by decide +kernel) (by decide +kernel)
theorem im_yX3_noteText : Cond.instanceMethod yX3_noteText ∈ lwg := lwg_tb (i := 710) (by decide +kernel) (by decide +kernel)
theorem se_yX3_noteText : Cond.selects RX3 yX3_noteText yX3_noteText ∈ lwg := lwg_tb (i := 711) (by decide +kernel) (by decide +kernel)
theorem cd_yX3_noteText : Cond.code yX3_noteText cX3_noteText 2 none ∈ lwg := lwg_tb (i := 712) (by decide +kernel) (by decide +kernel)
theorem ml_X10_79 : Cond.methodLink RX10 79 yX0_bind ∈ lwg := lwg_tb (i := 713) (by decide +kernel) (by decide +kernel)
theorem im_yX0_bind : Cond.instanceMethod yX0_bind ∈ lwg := lwg_tb (i := 714) (by decide +kernel) (by decide +kernel)
theorem se_yX0_bind : Cond.selects RX0 yX0_bind yX0_bind ∈ lwg := lwg_tb (i := 715) (by decide +kernel) (by decide +kernel)
theorem cd_yX0_bind : Cond.code yX0_bind cX0_bind 5 none ∈ lwg := lwg_tb (i := 716) (by decide +kernel) (by decide +kernel)
theorem ml_X0_36 : Cond.methodLink RX0 36 yX0_bindOp ∈ lwg := lwg_tb (i := 717) (by decide +kernel) (by decide +kernel)
theorem im_yX0_bindOp : Cond.instanceMethod yX0_bindOp ∈ lwg := lwg_tb (i := 719) (by decide +kernel) (by decide +kernel)
theorem cd_yX0_bindOp : Cond.code yX0_bindOp cX0_bindOp 3 none ∈ lwg := lwg_tb (i := 720) (by decide +kernel) (by decide +kernel)
theorem ml_X0_83 : Cond.methodLink RX0 83 yX6_operandAt ∈ lwg := lwg_tb (i := 721) (by decide +kernel) (by decide +kernel)
theorem im_yX6_operandAt : Cond.instanceMethod yX6_operandAt ∈ lwg := lwg_tb (i := 722) (by decide +kernel) (by decide +kernel)
theorem se_yX6_operandAt : Cond.selects RX6 yX6_operandAt yX6_operandAt ∈ lwg := lwg_tb (i := 723) (by decide +kernel) (by decide +kernel)
theorem cd_yX6_operandAt : Cond.code yX6_operandAt cX6_operandAt 2 (some .int) ∈ lwg := lwg_tb (i := 724) (by decide +kernel) (by decide +kernel)
theorem ml_X0_87 : Cond.methodLink RX0 87 yX6_opAt ∈ lwg := lwg_tb (i := 725) (by decide +kernel) (by decide +kernel)
theorem im_yX6_opAt : Cond.instanceMethod yX6_opAt ∈ lwg := lwg_tb (i := 726) (by decide +kernel) (by decide +kernel)
theorem se_yX6_opAt : Cond.selects RX6 yX6_opAt yX6_opAt ∈ lwg := lwg_tb (i := 727) (by decide +kernel) (by decide +kernel)
theorem cd_yX6_opAt : Cond.code yX6_opAt cX6_opAt 2 (some .int) ∈ lwg := lwg_tb (i := 728) (by decide +kernel) (by decide +kernel)
theorem ml_X0_51 : Cond.methodLink RX0 51 yX6_enumAt ∈ lwg := lwg_tb (i := 729) (by decide +kernel) (by decide +kernel)
theorem im_yX6_enumAt : Cond.instanceMethod yX6_enumAt ∈ lwg := lwg_tb (i := 730) (by decide +kernel) (by decide +kernel)
theorem se_yX6_enumAt : Cond.selects RX6 yX6_enumAt yX6_enumAt ∈ lwg := lwg_tb (i := 731) (by decide +kernel) (by decide +kernel)
theorem cd_yX6_enumAt : Cond.code yX6_enumAt cX6_enumAt 2 (some (.object "EnumRules$Enumeration")) ∈ lwg := lwg_tb (i := 732) (by decide +kernel) (by decide +kernel)
theorem ml_X0_90 : Cond.methodLink RX0 90 yX0_bindGive ∈ lwg := lwg_tb (i := 733) (by decide +kernel) (by decide +kernel)
theorem im_yX0_bindGive : Cond.instanceMethod yX0_bindGive ∈ lwg := lwg_tb (i := 735) (by decide +kernel) (by decide +kernel)
theorem cd_yX0_bindGive : Cond.code yX0_bindGive cX0_bindGive 4 none ∈ lwg := lwg_tb (i := 736) (by decide +kernel) (by decide +kernel)
theorem ml_X0_71 : Cond.methodLink RX0 71 yX8_firstNamed ∈ lwg := lwg_tb (i := 737) (by decide +kernel) (by decide +kernel)
theorem im_yX8_firstNamed : Cond.instanceMethod yX8_firstNamed ∈ lwg := lwg_tb (i := 738) (by decide +kernel) (by decide +kernel)
theorem se_yX8_firstNamed : Cond.selects RX8 yX8_firstNamed yX8_firstNamed ∈ lwg := lwg_tb (i := 739) (by decide +kernel) (by decide +kernel)
theorem cd_yX8_firstNamed : Cond.code yX8_firstNamed cX8_firstNamed 6 (some .int) ∈ lwg := lwg_tb (i := 740) (by decide +kernel) (by decide +kernel)
theorem ml_X8_42 : Cond.methodLink RX8 42 yX8_nameLength ∈ lwg := lwg_tb (i := 741) (by decide +kernel) (by decide +kernel)
theorem ml_X8_45 : Cond.methodLink RX8 45 yX8_same ∈ lwg := lwg_tb (i := 742) (by decide +kernel) (by decide +kernel)
theorem im_yX8_same : Cond.instanceMethod yX8_same ∈ lwg := lwg_tb (i := 743) (by decide +kernel) (by decide +kernel)
theorem se_yX8_same : Cond.selects RX8 yX8_same yX8_same ∈ lwg := lwg_tb (i := 744) (by decide +kernel) (by decide +kernel)
theorem cd_yX8_same : Cond.code yX8_same cX8_same 6 (some .boolean) ∈ lwg := lwg_tb (i := 745) (by decide +kernel) (by decide +kernel)
theorem ml_X0_77 : Cond.methodLink RX0 77 yX3_note ∈ lwg := lwg_tb (i := 746) (by decide +kernel) (by decide +kernel)
theorem ml_X0_108 : Cond.methodLink RX0 108 yX1_giveCode ∈ lwg := lwg_tb (i := 747) (by decide +kernel) (by decide +kernel)
theorem im_yX1_giveCode : Cond.instanceMethod yX1_giveCode ∈ lwg := lwg_tb (i := 748) (by decide +kernel) (by decide +kernel)
theorem se_yX1_giveCode : Cond.selects RX1 yX1_giveCode yX1_giveCode ∈ lwg := lwg_tb (i := 749) (by decide +kernel) (by decide +kernel)
theorem cd_yX1_giveCode : Cond.code yX1_giveCode cX1_giveCode 3 (some .int) ∈ lwg := lwg_tb (i := 750) (by decide +kernel) (by decide +kernel)
theorem ml_X1_82 : Cond.methodLink RX1 82 yX1_hasConstant ∈ lwg := lwg_tb (i := 751) (by decide +kernel) (by decide +kernel)
theorem ml_X1_79 : Cond.methodLink RX1 79 yX1_hasMember ∈ lwg := lwg_tb (i := 752) (by decide +kernel) (by decide +kernel)
theorem im_yX1_hasMember : Cond.instanceMethod yX1_hasMember ∈ lwg := lwg_tb (i := 753) (by decide +kernel) (by decide +kernel)
theorem se_yX1_hasMember : Cond.selects RX1 yX1_hasMember yX1_hasMember ∈ lwg := lwg_tb (i := 754) (by decide +kernel) (by decide +kernel)
theorem cd_yX1_hasMember : Cond.code yX1_hasMember cX1_hasMember 2 (some .boolean) ∈ lwg := lwg_tb (i := 755) (by decide +kernel) (by decide +kernel)
theorem ml_X0_112 : Cond.methodLink RX0 112 yX1_hasConstant ∈ lwg := lwg_tb (i := 756) (by decide +kernel) (by decide +kernel)
theorem ml_X0_93 : Cond.methodLink RX0 93 yX0_bindField ∈ lwg := lwg_tb (i := 757) (by decide +kernel) (by decide +kernel)
theorem im_yX0_bindField : Cond.instanceMethod yX0_bindField ∈ lwg := lwg_tb (i := 759) (by decide +kernel) (by decide +kernel)
theorem cd_yX0_bindField : Cond.code yX0_bindField cX0_bindField 4 none ∈ lwg := lwg_tb (i := 760) (by decide +kernel) (by decide +kernel)
theorem ml_X0_125 : Cond.methodLink RX0 125 yX1_isWorked ∈ lwg := lwg_tb (i := 761) (by decide +kernel) (by decide +kernel)
theorem im_yX1_isWorked : Cond.instanceMethod yX1_isWorked ∈ lwg := lwg_tb (i := 762) (by decide +kernel) (by decide +kernel)
theorem se_yX1_isWorked : Cond.selects RX1 yX1_isWorked yX1_isWorked ∈ lwg := lwg_tb (i := 763) (by decide +kernel) (by decide +kernel)
theorem cd_yX1_isWorked : Cond.code yX1_isWorked cX1_isWorked 2 (some .boolean) ∈ lwg := lwg_tb (i := 764) (by decide +kernel) (by decide +kernel)
theorem ml_X1_75 : Cond.methodLink RX1 75 yX1_hasField ∈ lwg := lwg_tb (i := 765) (by decide +kernel) (by decide +kernel)
theorem ml_X0_128 : Cond.methodLink RX0 128 yX6_bindTo ∈ lwg := lwg_tb (i := 766) (by decide +kernel) (by decide +kernel)
theorem im_yX6_bindTo : Cond.instanceMethod yX6_bindTo ∈ lwg := lwg_tb (i := 767) (by decide +kernel) (by decide +kernel)
theorem se_yX6_bindTo : Cond.selects RX6 yX6_bindTo yX6_bindTo ∈ lwg := lwg_tb (i := 768) (by decide +kernel) (by decide +kernel)
theorem cd_yX6_bindTo : Cond.code yX6_bindTo cX6_bindTo 3 none ∈ lwg := lwg_tb (i := 769) (by decide +kernel) (by decide +kernel)
theorem ml_X6_44 : Cond.methodLink RX6 44 yX6_opAt ∈ lwg := lwg_tb (i := 770) (by decide +kernel) (by decide +kernel)
theorem ml_X0_98 : Cond.methodLink RX0 98 yX0_bindConstant ∈ lwg := lwg_tb (i := 771) (by decide +kernel) (by decide +kernel)
theorem im_yX0_bindConstant : Cond.instanceMethod yX0_bindConstant ∈ lwg := lwg_tb (i := 773) (by decide +kernel) (by decide +kernel)
theorem cd_yX0_bindConstant : Cond.code yX0_bindConstant cX0_bindConstant 7 none ∈ lwg := lwg_tb (i := 774) (by decide +kernel) (by decide +kernel)
theorem ml_X0_47 : Cond.methodLink RX0 47 yX0_noteTwice ∈ lwg := lwg_tb (i := 775) (by decide +kernel) (by decide +kernel)
theorem im_yX0_noteTwice : Cond.instanceMethod yX0_noteTwice ∈ lwg := lwg_tb (i := 777) (by decide +kernel) (by decide +kernel)
theorem cd_yX0_noteTwice : Cond.code yX0_noteTwice cX0_noteTwice 4 none ∈ lwg := lwg_tb (i := 778) (by decide +kernel) (by decide +kernel)
theorem ml_X0_63 : Cond.methodLink RX0 63 yX0_noteNotGiven ∈ lwg := lwg_tb (i := 779) (by decide +kernel) (by decide +kernel)
theorem im_yX0_noteNotGiven : Cond.instanceMethod yX0_noteNotGiven ∈ lwg := lwg_tb (i := 781) (by decide +kernel) (by decide +kernel)
theorem cd_yX0_noteNotGiven : Cond.code yX0_noteNotGiven cX0_noteNotGiven 4 none ∈ lwg := lwg_tb (i := 782) (by decide +kernel) (by decide +kernel)
theorem ml_X0_137 : Cond.methodLink RX0 137 yX1_isAbstract ∈ lwg := lwg_tb (i := 783) (by decide +kernel) (by decide +kernel)
theorem im_yX1_isAbstract : Cond.instanceMethod yX1_isAbstract ∈ lwg := lwg_tb (i := 784) (by decide +kernel) (by decide +kernel)
theorem se_yX1_isAbstract : Cond.selects RX1 yX1_isAbstract yX1_isAbstract ∈ lwg := lwg_tb (i := 785) (by decide +kernel) (by decide +kernel)
theorem cd_yX1_isAbstract : Cond.code yX1_isAbstract cX1_isAbstract 2 (some .boolean) ∈ lwg := lwg_tb (i := 786) (by decide +kernel) (by decide +kernel)
theorem ml_X0_140 : Cond.methodLink RX0 140 yX0_isGiven ∈ lwg := lwg_tb (i := 787) (by decide +kernel) (by decide +kernel)
theorem im_yX0_isGiven : Cond.instanceMethod yX0_isGiven ∈ lwg := lwg_tb (i := 789) (by decide +kernel) (by decide +kernel)
theorem cd_yX0_isGiven : Cond.code yX0_isGiven cX0_isGiven 5 (some .boolean) ∈ lwg := lwg_tb (i := 790) (by decide +kernel) (by decide +kernel)
theorem ml_X10_86 : Cond.methodLink RX10 86 yX10_takeSpare ∈ lwg := lwg_tb (i := 791) (by decide +kernel) (by decide +kernel)
theorem im_yX10_takeSpare : Cond.instanceMethod yX10_takeSpare ∈ lwg := lwg_tb (i := 793) (by decide +kernel) (by decide +kernel)
theorem cd_yX10_takeSpare : Cond.code yX10_takeSpare cX10_takeSpare 2 none ∈ lwg := lwg_tb (i := 794) (by decide +kernel) (by decide +kernel)
theorem ml_L_28 : Cond.methodLink RL 28 yX10_fault ∈ lwg := lwg_tb (i := 795) (by decide +kernel) (by decide +kernel)
theorem im_yX10_fault : Cond.instanceMethod yX10_fault ∈ lwg := lwg_tb (i := 796) (by decide +kernel) (by decide +kernel)
theorem se_yX10_fault : Cond.selects RX10 yX10_fault yX10_fault ∈ lwg := lwg_tb (i := 797) (by decide +kernel) (by decide +kernel)
theorem cd_yX10_fault : Cond.code yX10_fault cX10_fault 2 (some .int) ∈ lwg := lwg_tb (i := 798) (by decide +kernel) (by decide +kernel)
theorem co_X10_101 : Cond.constant RX10 101 (-1000009) ∈ lwg := lwg_tb (i := 799) (by decide +kernel) (by decide +kernel)
theorem ml_L_32 : Cond.methodLink RL 32 yX10_cause ∈ lwg := lwg_tb (i := 800) (by decide +kernel) (by decide +kernel)
theorem im_yX10_cause : Cond.instanceMethod yX10_cause ∈ lwg := lwg_tb (i := 801) (by decide +kernel) (by decide +kernel)
theorem se_yX10_cause : Cond.selects RX10 yX10_cause yX10_cause ∈ lwg := lwg_tb (i := 802) (by decide +kernel) (by decide +kernel)
theorem cd_yX10_cause : Cond.code yX10_cause cX10_cause 1 (some .int) ∈ lwg := lwg_tb (i := 803) (by decide +kernel) (by decide +kernel)
theorem ml_L_36 : Cond.methodLink RL 36 yX10_told ∈ lwg := lwg_tb (i := 804) (by decide +kernel) (by decide +kernel)
theorem im_yX10_told : Cond.instanceMethod yX10_told ∈ lwg := lwg_tb (i := 805) (by decide +kernel) (by decide +kernel)
theorem se_yX10_told : Cond.selects RX10 yX10_told yX10_told ∈ lwg := lwg_tb (i := 806) (by decide +kernel) (by decide +kernel)
theorem cd_yX10_told : Cond.code yX10_told cX10_told 4 (some .int) ∈ lwg := lwg_tb (i := 807) (by decide +kernel) (by decide +kernel)
theorem ml_X10_108 : Cond.methodLink RX10 108 yX6_enumAt ∈ lwg := lwg_tb (i := 808) (by decide +kernel) (by decide +kernel)
theorem co_X10_112 : Cond.constant RX10 112 (-1000001) ∈ lwg := lwg_tb (i := 809) (by decide +kernel) (by decide +kernel)
theorem ml_L_41 : Cond.methodLink RL 41 yX10_hasBody ∈ lwg := lwg_tb (i := 810) (by decide +kernel) (by decide +kernel)
theorem im_yX10_hasBody : Cond.instanceMethod yX10_hasBody ∈ lwg := lwg_tb (i := 811) (by decide +kernel) (by decide +kernel)
theorem se_yX10_hasBody : Cond.selects RX10 yX10_hasBody yX10_hasBody ∈ lwg := lwg_tb (i := 812) (by decide +kernel) (by decide +kernel)
theorem cd_yX10_hasBody : Cond.code yX10_hasBody cX10_hasBody 4 (some .int) ∈ lwg := lwg_tb (i := 813) (by decide +kernel) (by decide +kernel)
theorem ml_X10_130 : Cond.methodLink RX10 130 yX1_hasConstant ∈ lwg := lwg_tb (i := 814) (by decide +kernel) (by decide +kernel)
theorem ml_L_45 : Cond.methodLink RL 45 yX10_value ∈ lwg := lwg_tb (i := 815) (by decide +kernel) (by decide +kernel)
theorem im_yX10_value : Cond.instanceMethod yX10_value ∈ lwg := lwg_tb (i := 816) (by decide +kernel) (by decide +kernel)
theorem se_yX10_value : Cond.selects RX10 yX10_value yX10_value ∈ lwg := lwg_tb (i := 817) (by decide +kernel) (by decide +kernel)
theorem cd_yX10_value : Cond.code yX10_value cX10_value 4 (some .int) ∈ lwg := lwg_tb (i := 818) (by decide +kernel) (by decide +kernel)
theorem ml_X10_138 : Cond.methodLink RX10 138 yX7_begin ∈ lwg := lwg_tb (i := 819) (by decide +kernel) (by decide +kernel)
theorem im_yX7_begin : Cond.instanceMethod yX7_begin ∈ lwg := lwg_tb (i := 820) (by decide +kernel) (by decide +kernel)
theorem se_yX7_begin : Cond.selects RX7 yX7_begin yX7_begin ∈ lwg := lwg_tb (i := 821) (by decide +kernel) (by decide +kernel)
theorem cd_yX7_begin : Cond.code yX7_begin cX7_begin 2 none ∈ lwg := lwg_tb (i := 822) (by decide +kernel) (by decide +kernel)
theorem ml_X10_141 : Cond.methodLink RX10 141 yX7_want ∈ lwg := lwg_tb (i := 823) (by decide +kernel) (by decide +kernel)
theorem im_yX7_want : Cond.instanceMethod yX7_want ∈ lwg := lwg_tb (i := 824) (by decide +kernel) (by decide +kernel)
theorem se_yX7_want : Cond.selects RX7 yX7_want yX7_want ∈ lwg := lwg_tb (i := 825) (by decide +kernel) (by decide +kernel)
theorem cd_yX7_want : Cond.code yX7_want cX7_want 4 (some .boolean) ∈ lwg := lwg_tb (i := 826) (by decide +kernel) (by decide +kernel)
theorem ml_X7_29 : Cond.methodLink RX7 29 yX6_enumAt ∈ lwg := lwg_tb (i := 827) (by decide +kernel) (by decide +kernel)
theorem ml_X7_40 : Cond.methodLink RX7 40 yX7_failBy ∈ lwg := lwg_tb (i := 828) (by decide +kernel) (by decide +kernel)
theorem im_yX7_failBy : Cond.instanceMethod yX7_failBy ∈ lwg := lwg_tb (i := 829) (by decide +kernel) (by decide +kernel)
theorem se_yX7_failBy : Cond.selects RX7 yX7_failBy yX7_failBy ∈ lwg := lwg_tb (i := 830) (by decide +kernel) (by decide +kernel)
theorem cd_yX7_failBy : Cond.code yX7_failBy cX7_failBy 2 (some .boolean) ∈ lwg := lwg_tb (i := 831) (by decide +kernel) (by decide +kernel)
theorem ml_X7_44 : Cond.methodLink RX7 44 yX7_start ∈ lwg := lwg_tb (i := 832) (by decide +kernel) (by decide +kernel)
theorem im_yX7_start : Cond.instanceMethod yX7_start ∈ lwg := lwg_tb (i := 834) (by decide +kernel) (by decide +kernel)
theorem cd_yX7_start : Cond.code yX7_start cX7_start 5 none ∈ lwg := lwg_tb (i := 835) (by decide +kernel) (by decide +kernel)
theorem ml_X7_48 : Cond.methodLink RX7 48 yX7_addTrace ∈ lwg := lwg_tb (i := 836) (by decide +kernel) (by decide +kernel)
theorem im_yX7_addTrace : Cond.instanceMethod yX7_addTrace ∈ lwg := lwg_tb (i := 838) (by decide +kernel) (by decide +kernel)
theorem cd_yX7_addTrace : Cond.code yX7_addTrace cX7_addTrace 2 none ∈ lwg := lwg_tb (i := 839) (by decide +kernel) (by decide +kernel)
theorem ml_X7_55 : Cond.methodLink RX7 55 yX7_make ∈ lwg := lwg_tb (i := 840) (by decide +kernel) (by decide +kernel)
theorem im_yX7_make : Cond.instanceMethod yX7_make ∈ lwg := lwg_tb (i := 842) (by decide +kernel) (by decide +kernel)
theorem cd_yX7_make : Cond.code yX7_make cX7_make 6 none ∈ lwg := lwg_tb (i := 843) (by decide +kernel) (by decide +kernel)
theorem ml_X7_69 : Cond.methodLink RX7 69 yX7_work ∈ lwg := lwg_tb (i := 844) (by decide +kernel) (by decide +kernel)
theorem im_yX7_work : Cond.instanceMethod yX7_work ∈ lwg := lwg_tb (i := 845) (by decide +kernel) (by decide +kernel)
theorem se_yX7_work : Cond.selects RX7 yX7_work yX7_work ∈ lwg := lwg_tb (i := 846) (by decide +kernel) (by decide +kernel)
theorem cd_yX7_work : Cond.code yX7_work cX7_work 7 (some .int) ∈ lwg := lwg_tb (i := 847) (by decide +kernel) (by decide +kernel)
theorem ml_X7_94 : Cond.methodLink RX7 94 yX6_opAt ∈ lwg := lwg_tb (i := 848) (by decide +kernel) (by decide +kernel)
theorem ml_X7_98 : Cond.methodLink RX7 98 yX7_step ∈ lwg := lwg_tb (i := 849) (by decide +kernel) (by decide +kernel)
theorem im_yX7_step : Cond.instanceMethod yX7_step ∈ lwg := lwg_tb (i := 851) (by decide +kernel) (by decide +kernel)
theorem cd_yX7_step : Cond.code yX7_step cX7_step 7 none ∈ lwg := lwg_tb (i := 852) (by decide +kernel) (by decide +kernel)
theorem ml_X7_105 : Cond.methodLink RX7 105 yX6_operandAt ∈ lwg := lwg_tb (i := 853) (by decide +kernel) (by decide +kernel)
theorem ml_X7_108 : Cond.methodLink RX7 108 yX7_push ∈ lwg := lwg_tb (i := 854) (by decide +kernel) (by decide +kernel)
theorem im_yX7_push : Cond.instanceMethod yX7_push ∈ lwg := lwg_tb (i := 856) (by decide +kernel) (by decide +kernel)
theorem cd_yX7_push : Cond.code yX7_push cX7_push 2 none ∈ lwg := lwg_tb (i := 857) (by decide +kernel) (by decide +kernel)
theorem ml_X7_111 : Cond.methodLink RX7 111 yX1_hasField ∈ lwg := lwg_tb (i := 858) (by decide +kernel) (by decide +kernel)
theorem ml_X7_114 : Cond.methodLink RX7 114 yX7_valOf ∈ lwg := lwg_tb (i := 859) (by decide +kernel) (by decide +kernel)
theorem im_yX7_valOf : Cond.instanceMethod yX7_valOf ∈ lwg := lwg_tb (i := 861) (by decide +kernel) (by decide +kernel)
theorem cd_yX7_valOf : Cond.code yX7_valOf cX7_valOf 5 (some .int) ∈ lwg := lwg_tb (i := 862) (by decide +kernel) (by decide +kernel)
theorem ml_X7_128 : Cond.methodLink RX7 128 yX7_want ∈ lwg := lwg_tb (i := 863) (by decide +kernel) (by decide +kernel)
theorem ml_X7_73 : Cond.methodLink RX7 73 yX1_hasConstant ∈ lwg := lwg_tb (i := 864) (by decide +kernel) (by decide +kernel)
theorem ml_X7_101 : Cond.methodLink RX7 101 yX7_pop ∈ lwg := lwg_tb (i := 865) (by decide +kernel) (by decide +kernel)
theorem im_yX7_pop : Cond.instanceMethod yX7_pop ∈ lwg := lwg_tb (i := 867) (by decide +kernel) (by decide +kernel)
theorem cd_yX7_pop : Cond.code yX7_pop cX7_pop 1 (some .int) ∈ lwg := lwg_tb (i := 868) (by decide +kernel) (by decide +kernel)
theorem ml_X7_121 : Cond.methodLink RX7 121 yX7_join ∈ lwg := lwg_tb (i := 869) (by decide +kernel) (by decide +kernel)
theorem im_yX7_join : Cond.instanceMethod yX7_join ∈ lwg := lwg_tb (i := 871) (by decide +kernel) (by decide +kernel)
theorem cd_yX7_join : Cond.code yX7_join cX7_join 4 none ∈ lwg := lwg_tb (i := 872) (by decide +kernel) (by decide +kernel)
theorem ml_X7_124 : Cond.methodLink RX7 124 yX7_divide ∈ lwg := lwg_tb (i := 873) (by decide +kernel) (by decide +kernel)
theorem im_yX7_divide : Cond.instanceMethod yX7_divide ∈ lwg := lwg_tb (i := 875) (by decide +kernel) (by decide +kernel)
theorem cd_yX7_divide : Cond.code yX7_divide cX7_divide 3 (some .int) ∈ lwg := lwg_tb (i := 876) (by decide +kernel) (by decide +kernel)
theorem ml_X7_62 : Cond.methodLink RX7 62 yX7_set ∈ lwg := lwg_tb (i := 877) (by decide +kernel) (by decide +kernel)
theorem im_yX7_set : Cond.instanceMethod yX7_set ∈ lwg := lwg_tb (i := 879) (by decide +kernel) (by decide +kernel)
theorem cd_yX7_set : Cond.code yX7_set cX7_set 5 none ∈ lwg := lwg_tb (i := 880) (by decide +kernel) (by decide +kernel)
theorem ml_X7_82 : Cond.methodLink RX7 82 yX1_isWorked ∈ lwg := lwg_tb (i := 881) (by decide +kernel) (by decide +kernel)
theorem ml_X10_148 : Cond.methodLink RX10 148 yX10_finish ∈ lwg := lwg_tb (i := 882) (by decide +kernel) (by decide +kernel)
theorem im_yX10_finish : Cond.instanceMethod yX10_finish ∈ lwg := lwg_tb (i := 884) (by decide +kernel) (by decide +kernel)
theorem cd_yX10_finish : Cond.code yX10_finish cX10_finish 2 (some .int) ∈ lwg := lwg_tb (i := 885) (by decide +kernel) (by decide +kernel)
theorem ml_L_49 : Cond.methodLink RL 49 yX10_call ∈ lwg := lwg_tb (i := 886) (by decide +kernel) (by decide +kernel)
theorem im_yX10_call : Cond.instanceMethod yX10_call ∈ lwg := lwg_tb (i := 887) (by decide +kernel) (by decide +kernel)
theorem se_yX10_call : Cond.selects RX10 yX10_call yX10_call ∈ lwg := lwg_tb (i := 888) (by decide +kernel) (by decide +kernel)
theorem cd_yX10_call : Cond.code yX10_call cX10_call 6 (some .int) ∈ lwg := lwg_tb (i := 889) (by decide +kernel) (by decide +kernel)
theorem ml_X10_152 : Cond.methodLink RX10 152 yX1_hasMember ∈ lwg := lwg_tb (i := 890) (by decide +kernel) (by decide +kernel)
theorem ml_X10_155 : Cond.methodLink RX10 155 yX1_codeOf ∈ lwg := lwg_tb (i := 891) (by decide +kernel) (by decide +kernel)
theorem im_yX1_codeOf : Cond.instanceMethod yX1_codeOf ∈ lwg := lwg_tb (i := 892) (by decide +kernel) (by decide +kernel)
theorem se_yX1_codeOf : Cond.selects RX1 yX1_codeOf yX1_codeOf ∈ lwg := lwg_tb (i := 893) (by decide +kernel) (by decide +kernel)
theorem cd_yX1_codeOf : Cond.code yX1_codeOf cX1_codeOf 4 (some .int) ∈ lwg := lwg_tb (i := 894) (by decide +kernel) (by decide +kernel)
theorem ml_X1_85 : Cond.methodLink RX1 85 yX1_giveCode ∈ lwg := lwg_tb (i := 895) (by decide +kernel) (by decide +kernel)
theorem ml_X10_159 : Cond.methodLink RX10 159 yX7_work ∈ lwg := lwg_tb (i := 896) (by decide +kernel) (by decide +kernel)
theorem ml_L_54 : Cond.methodLink RL 54 yX10_field ∈ lwg := lwg_tb (i := 897) (by decide +kernel) (by decide +kernel)
theorem im_yX10_field : Cond.instanceMethod yX10_field ∈ lwg := lwg_tb (i := 898) (by decide +kernel) (by decide +kernel)
theorem se_yX10_field : Cond.selects RX10 yX10_field yX10_field ∈ lwg := lwg_tb (i := 899) (by decide +kernel) (by decide +kernel)
theorem cd_yX10_field : Cond.code yX10_field cX10_field 4 (some .int) ∈ lwg := lwg_tb (i := 900) (by decide +kernel) (by decide +kernel)
theorem ml_X10_163 : Cond.methodLink RX10 163 yX1_hasField ∈ lwg := lwg_tb (i := 901) (by decide +kernel) (by decide +kernel)
theorem ml_X10_166 : Cond.methodLink RX10 166 yX1_isWorked ∈ lwg := lwg_tb (i := 902) (by decide +kernel) (by decide +kernel)
theorem ml_L_58 : Cond.methodLink RL 58 yX10_compare ∈ lwg := lwg_tb (i := 903) (by decide +kernel) (by decide +kernel)
theorem im_yX10_compare : Cond.instanceMethod yX10_compare ∈ lwg := lwg_tb (i := 904) (by decide +kernel) (by decide +kernel)
theorem se_yX10_compare : Cond.selects RX10 yX10_compare yX10_compare ∈ lwg := lwg_tb (i := 905) (by decide +kernel) (by decide +kernel)
theorem cd_yX10_compare : Cond.code yX10_compare cX10_compare 7 (some .int) ∈ lwg := lwg_tb (i := 906) (by decide +kernel) (by decide +kernel)
theorem ml_X10_172 : Cond.methodLink RX10 172 yX7_failBy ∈ lwg := lwg_tb (i := 907) (by decide +kernel) (by decide +kernel)
theorem ml_L_63 : Cond.methodLink RL 63 yX10_values ∈ lwg := lwg_tb (i := 908) (by decide +kernel) (by decide +kernel)
theorem im_yX10_values : Cond.instanceMethod yX10_values ∈ lwg := lwg_tb (i := 909) (by decide +kernel) (by decide +kernel)
theorem se_yX10_values : Cond.selects RX10 yX10_values yX10_values ∈ lwg := lwg_tb (i := 910) (by decide +kernel) (by decide +kernel)
theorem cd_yX10_values : Cond.code yX10_values cX10_values 3 (some .int) ∈ lwg := lwg_tb (i := 911) (by decide +kernel) (by decide +kernel)
theorem ml_X10_175 : Cond.methodLink RX10 175 yX10_takeInHand ∈ lwg := lwg_tb (i := 912) (by decide +kernel) (by decide +kernel)
theorem im_yX10_takeInHand : Cond.instanceMethod yX10_takeInHand ∈ lwg := lwg_tb (i := 914) (by decide +kernel) (by decide +kernel)
theorem cd_yX10_takeInHand : Cond.code yX10_takeInHand cX10_takeInHand 4 none ∈ lwg := lwg_tb (i := 915) (by decide +kernel) (by decide +kernel)
theorem ml_X10_182 : Cond.methodLink RX10 182 ⟨"java/lang/Math", "min", "(II)I"⟩ ∈ lwg := lwg_tb (i := 916) (by decide +kernel) (by decide +kernel)
theorem ml_L_67 : Cond.methodLink RL 67 yX10_swap ∈ lwg := lwg_tb (i := 917) (by decide +kernel) (by decide +kernel)
theorem im_yX10_swap : Cond.instanceMethod yX10_swap ∈ lwg := lwg_tb (i := 918) (by decide +kernel) (by decide +kernel)
theorem se_yX10_swap : Cond.selects RX10 yX10_swap yX10_swap ∈ lwg := lwg_tb (i := 919) (by decide +kernel) (by decide +kernel)
theorem cd_yX10_swap : Cond.code yX10_swap cX10_swap 4 (some .int) ∈ lwg := lwg_tb (i := 920) (by decide +kernel) (by decide +kernel)
theorem ml_X10_187 : Cond.methodLink RX10 187 yX10_isInHand ∈ lwg := lwg_tb (i := 921) (by decide +kernel) (by decide +kernel)
theorem im_yX10_isInHand : Cond.instanceMethod yX10_isInHand ∈ lwg := lwg_tb (i := 923) (by decide +kernel) (by decide +kernel)
theorem cd_yX10_isInHand : Cond.code yX10_isInHand cX10_isInHand 2 (some .boolean) ∈ lwg := lwg_tb (i := 924) (by decide +kernel) (by decide +kernel)
theorem ml_L_71 : Cond.methodLink RL 71 yX10_hand ∈ lwg := lwg_tb (i := 925) (by decide +kernel) (by decide +kernel)
theorem im_yX10_hand : Cond.instanceMethod yX10_hand ∈ lwg := lwg_tb (i := 926) (by decide +kernel) (by decide +kernel)
theorem se_yX10_hand : Cond.selects RX10 yX10_hand yX10_hand ∈ lwg := lwg_tb (i := 927) (by decide +kernel) (by decide +kernel)
theorem cd_yX10_hand : Cond.code yX10_hand cX10_hand 3 (some .int) ∈ lwg := lwg_tb (i := 928) (by decide +kernel) (by decide +kernel)
theorem ml_L_75 : Cond.methodLink RL 75 yX10_named ∈ lwg := lwg_tb (i := 929) (by decide +kernel) (by decide +kernel)
theorem im_yX10_named : Cond.instanceMethod yX10_named ∈ lwg := lwg_tb (i := 930) (by decide +kernel) (by decide +kernel)
theorem se_yX10_named : Cond.selects RX10 yX10_named yX10_named ∈ lwg := lwg_tb (i := 931) (by decide +kernel) (by decide +kernel)
theorem cd_yX10_named : Cond.code yX10_named cX10_named 4 (some .int) ∈ lwg := lwg_tb (i := 932) (by decide +kernel) (by decide +kernel)
theorem ml_X10_190 : Cond.methodLink RX10 190 yX10_lookFor ∈ lwg := lwg_tb (i := 933) (by decide +kernel) (by decide +kernel)
theorem im_yX10_lookFor : Cond.instanceMethod yX10_lookFor ∈ lwg := lwg_tb (i := 935) (by decide +kernel) (by decide +kernel)
theorem cd_yX10_lookFor : Cond.code yX10_lookFor cX10_lookFor 4 (some .int) ∈ lwg := lwg_tb (i := 936) (by decide +kernel) (by decide +kernel)
theorem ml_X10_197 : Cond.methodLink RX10 197 yX8_nameLength ∈ lwg := lwg_tb (i := 937) (by decide +kernel) (by decide +kernel)
theorem ml_X10_200 : Cond.methodLink RX10 200 yX8_same ∈ lwg := lwg_tb (i := 938) (by decide +kernel) (by decide +kernel)
theorem ml_L_79 : Cond.methodLink RL 79 yX10_trace ∈ lwg := lwg_tb (i := 939) (by decide +kernel) (by decide +kernel)
theorem im_yX10_trace : Cond.instanceMethod yX10_trace ∈ lwg := lwg_tb (i := 940) (by decide +kernel) (by decide +kernel)
theorem se_yX10_trace : Cond.selects RX10 yX10_trace yX10_trace ∈ lwg := lwg_tb (i := 941) (by decide +kernel) (by decide +kernel)
theorem cd_yX10_trace : Cond.code yX10_trace cX10_trace 2 (some .int) ∈ lwg := lwg_tb (i := 942) (by decide +kernel) (by decide +kernel)
theorem ml_L_83 : Cond.methodLink RL 83 yX10_count ∈ lwg := lwg_tb (i := 943) (by decide +kernel) (by decide +kernel)
theorem im_yX10_count : Cond.instanceMethod yX10_count ∈ lwg := lwg_tb (i := 944) (by decide +kernel) (by decide +kernel)
theorem se_yX10_count : Cond.selects RX10 yX10_count yX10_count ∈ lwg := lwg_tb (i := 945) (by decide +kernel) (by decide +kernel)
theorem cd_yX10_count : Cond.code yX10_count cX10_count 2 (some .int) ∈ lwg := lwg_tb (i := 946) (by decide +kernel) (by decide +kernel)
theorem ml_L_87 : Cond.methodLink RL 87 yX10_clear ∈ lwg := lwg_tb (i := 947) (by decide +kernel) (by decide +kernel)
theorem im_yX10_clear : Cond.instanceMethod yX10_clear ∈ lwg := lwg_tb (i := 948) (by decide +kernel) (by decide +kernel)
theorem se_yX10_clear : Cond.selects RX10 yX10_clear yX10_clear ∈ lwg := lwg_tb (i := 949) (by decide +kernel) (by decide +kernel)
theorem cd_yX10_clear : Cond.code yX10_clear cX10_clear 2 (some .int) ∈ lwg := lwg_tb (i := 950) (by decide +kernel) (by decide +kernel)
theorem cl_L_10 : Cond.classLink RL 10 RX11 ∈ lwg := lwg_tb (i := 951) (by decide +kernel) (by decide +kernel)
theorem is_X11 : Cond.instantiable RX11 74 ∈ lwg := lwg_tb (i := 952) (by decide +kernel) (by decide +kernel)
theorem ml_L_12 : Cond.methodLink RL 12 yX11_init ∈ lwg := lwg_tb (i := 953) (by decide +kernel) (by decide +kernel)
theorem im_yX11_init : Cond.instanceMethod yX11_init ∈ lwg := lwg_tb (i := 954) (by decide +kernel) (by decide +kernel)
theorem cd_yX11_init : Cond.code yX11_init cX11_init 1 none ∈ lwg := lwg_tb (i := 955) (by decide +kernel) (by decide +kernel)
theorem ml_X11_1 : Cond.methodLink RX11 1 objectInit ∈ lwg := lwg_tb (i := 956) (by decide +kernel) (by decide +kernel)
theorem co_X11_133 : Cond.constant RX11 133 (-1000009) ∈ lwg := lwg_tb (i := 957) (by decide +kernel) (by decide +kernel)
theorem fl_X11_7 : Cond.fieldLink RX11 7 "EnumRulesModel" "tape" "[I" ∈ lwg := lwg_tb (i := 958) (by decide +kernel) (by decide +kernel)
theorem fl_X11_171 : Cond.fieldLink RX11 171 "EnumRulesModel" "taped" "I" ∈ lwg := lwg_tb (i := 959) (by decide +kernel) (by decide +kernel)
theorem fl_X11_13 : Cond.fieldLink RX11 13 "EnumRulesModel" "text" "[I" ∈ lwg := lwg_tb (i := 960) (by decide +kernel) (by decide +kernel)
theorem fl_X11_334 : Cond.fieldLink RX11 334 "EnumRulesModel" "now" "I" ∈ lwg := lwg_tb (i := 961) (by decide +kernel) (by decide +kernel)
theorem fl_X11_183 : Cond.fieldLink RX11 183 "EnumRulesModel" "t" "I" ∈ lwg := lwg_tb (i := 962) (by decide +kernel) (by decide +kernel)
theorem fl_X11_180 : Cond.fieldLink RX11 180 "EnumRulesModel" "long0" "I" ∈ lwg := lwg_tb (i := 963) (by decide +kernel) (by decide +kernel)
theorem fl_X11_16 : Cond.fieldLink RX11 16 "EnumRulesModel" "enums" "[I" ∈ lwg := lwg_tb (i := 964) (by decide +kernel) (by decide +kernel)
theorem fl_X11_19 : Cond.fieldLink RX11 19 "EnumRulesModel" "enumName" "[I" ∈ lwg := lwg_tb (i := 965) (by decide +kernel) (by decide +kernel)
theorem fl_X11_22 : Cond.fieldLink RX11 22 "EnumRulesModel" "enumNameLong" "[I" ∈ lwg := lwg_tb (i := 966) (by decide +kernel) (by decide +kernel)
theorem fl_X11_25 : Cond.fieldLink RX11 25 "EnumRulesModel" "consts" "[I" ∈ lwg := lwg_tb (i := 967) (by decide +kernel) (by decide +kernel)
theorem fl_X11_28 : Cond.fieldLink RX11 28 "EnumRulesModel" "members" "[I" ∈ lwg := lwg_tb (i := 968) (by decide +kernel) (by decide +kernel)
theorem fl_X11_31 : Cond.fieldLink RX11 31 "EnumRulesModel" "fields" "[I" ∈ lwg := lwg_tb (i := 969) (by decide +kernel) (by decide +kernel)
theorem fl_X11_34 : Cond.fieldLink RX11 34 "EnumRulesModel" "makerFrom" "[I" ∈ lwg := lwg_tb (i := 970) (by decide +kernel) (by decide +kernel)
theorem fl_X11_37 : Cond.fieldLink RX11 37 "EnumRulesModel" "makerTo" "[I" ∈ lwg := lwg_tb (i := 971) (by decide +kernel) (by decide +kernel)
theorem fl_X11_40 : Cond.fieldLink RX11 40 "EnumRulesModel" "constName" "[I" ∈ lwg := lwg_tb (i := 972) (by decide +kernel) (by decide +kernel)
theorem fl_X11_43 : Cond.fieldLink RX11 43 "EnumRulesModel" "constNameLong" "[I" ∈ lwg := lwg_tb (i := 973) (by decide +kernel) (by decide +kernel)
theorem fl_X11_46 : Cond.fieldLink RX11 46 "EnumRulesModel" "constNumber" "[I" ∈ lwg := lwg_tb (i := 974) (by decide +kernel) (by decide +kernel)
theorem fl_X11_49 : Cond.fieldLink RX11 49 "EnumRulesModel" "constBody" "[I" ∈ lwg := lwg_tb (i := 975) (by decide +kernel) (by decide +kernel)
theorem fl_X11_52 : Cond.fieldLink RX11 52 "EnumRulesModel" "memberName" "[I" ∈ lwg := lwg_tb (i := 976) (by decide +kernel) (by decide +kernel)
theorem fl_X11_55 : Cond.fieldLink RX11 55 "EnumRulesModel" "memberNameLong" "[I" ∈ lwg := lwg_tb (i := 977) (by decide +kernel) (by decide +kernel)
theorem fl_X11_58 : Cond.fieldLink RX11 58 "EnumRulesModel" "memberFrom" "[I" ∈ lwg := lwg_tb (i := 978) (by decide +kernel) (by decide +kernel)
theorem fl_X11_61 : Cond.fieldLink RX11 61 "EnumRulesModel" "memberTo" "[I" ∈ lwg := lwg_tb (i := 979) (by decide +kernel) (by decide +kernel)
theorem fl_X11_64 : Cond.fieldLink RX11 64 "EnumRulesModel" "fieldName" "[I" ∈ lwg := lwg_tb (i := 980) (by decide +kernel) (by decide +kernel)
theorem fl_X11_67 : Cond.fieldLink RX11 67 "EnumRulesModel" "fieldNameLong" "[I" ∈ lwg := lwg_tb (i := 981) (by decide +kernel) (by decide +kernel)
theorem fl_X11_70 : Cond.fieldLink RX11 70 "EnumRulesModel" "fieldConst" "[I" ∈ lwg := lwg_tb (i := 982) (by decide +kernel) (by decide +kernel)
theorem fl_X11_73 : Cond.fieldLink RX11 73 "EnumRulesModel" "fieldFrom" "[I" ∈ lwg := lwg_tb (i := 983) (by decide +kernel) (by decide +kernel)
theorem fl_X11_76 : Cond.fieldLink RX11 76 "EnumRulesModel" "fieldTo" "[I" ∈ lwg := lwg_tb (i := 984) (by decide +kernel) (by decide +kernel)
theorem fl_X11_79 : Cond.fieldLink RX11 79 "EnumRulesModel" "gives" "[I" ∈ lwg := lwg_tb (i := 985) (by decide +kernel) (by decide +kernel)
theorem fl_X11_82 : Cond.fieldLink RX11 82 "EnumRulesModel" "giveOf" "[I" ∈ lwg := lwg_tb (i := 986) (by decide +kernel) (by decide +kernel)
theorem fl_X11_85 : Cond.fieldLink RX11 85 "EnumRulesModel" "giveName" "[I" ∈ lwg := lwg_tb (i := 987) (by decide +kernel) (by decide +kernel)
theorem fl_X11_88 : Cond.fieldLink RX11 88 "EnumRulesModel" "giveNameLong" "[I" ∈ lwg := lwg_tb (i := 988) (by decide +kernel) (by decide +kernel)
theorem fl_X11_91 : Cond.fieldLink RX11 91 "EnumRulesModel" "giveFrom" "[I" ∈ lwg := lwg_tb (i := 989) (by decide +kernel) (by decide +kernel)
theorem fl_X11_94 : Cond.fieldLink RX11 94 "EnumRulesModel" "giveTo" "[I" ∈ lwg := lwg_tb (i := 990) (by decide +kernel) (by decide +kernel)
theorem fl_X11_97 : Cond.fieldLink RX11 97 "EnumRulesModel" "acts" "[I" ∈ lwg := lwg_tb (i := 991) (by decide +kernel) (by decide +kernel)
theorem fl_X11_100 : Cond.fieldLink RX11 100 "EnumRulesModel" "act" "[I" ∈ lwg := lwg_tb (i := 992) (by decide +kernel) (by decide +kernel)
theorem fl_X11_103 : Cond.fieldLink RX11 103 "EnumRulesModel" "actA" "[I" ∈ lwg := lwg_tb (i := 993) (by decide +kernel) (by decide +kernel)
theorem fl_X11_106 : Cond.fieldLink RX11 106 "EnumRulesModel" "actB" "[I" ∈ lwg := lwg_tb (i := 994) (by decide +kernel) (by decide +kernel)
theorem fl_X11_109 : Cond.fieldLink RX11 109 "EnumRulesModel" "actAt" "[I" ∈ lwg := lwg_tb (i := 995) (by decide +kernel) (by decide +kernel)
theorem fl_X11_112 : Cond.fieldLink RX11 112 "EnumRulesModel" "actNameLong" "[I" ∈ lwg := lwg_tb (i := 996) (by decide +kernel) (by decide +kernel)
theorem fl_X11_115 : Cond.fieldLink RX11 115 "EnumRulesModel" "actSecond" "[I" ∈ lwg := lwg_tb (i := 997) (by decide +kernel) (by decide +kernel)
theorem fl_X11_118 : Cond.fieldLink RX11 118 "EnumRulesModel" "actSecondLong" "[I" ∈ lwg := lwg_tb (i := 998) (by decide +kernel) (by decide +kernel)
theorem fl_X11_186 : Cond.fieldLink RX11 186 "EnumRulesModel" "at" "I" ∈ lwg := lwg_tb (i := 999) (by decide +kernel) (by decide +kernel)
theorem fl_X11_193 : Cond.fieldLink RX11 193 "EnumRulesModel" "tokenAt" "I" ∈ lwg := lwg_tb (i := 1000) (by decide +kernel) (by decide +kernel)
theorem fl_X11_206 : Cond.fieldLink RX11 206 "EnumRulesModel" "tokenLong" "I" ∈ lwg := lwg_tb (i := 1001) (by decide +kernel) (by decide +kernel)
theorem fl_X11_196 : Cond.fieldLink RX11 196 "EnumRulesModel" "token" "I" ∈ lwg := lwg_tb (i := 1002) (by decide +kernel) (by decide +kernel)
theorem fl_X11_213 : Cond.fieldLink RX11 213 "EnumRulesModel" "value" "I" ∈ lwg := lwg_tb (i := 1003) (by decide +kernel) (by decide +kernel)
theorem fl_X11_243 : Cond.fieldLink RX11 243 "EnumRulesModel" "fault" "I" ∈ lwg := lwg_tb (i := 1004) (by decide +kernel) (by decide +kernel)
theorem fl_X11_246 : Cond.fieldLink RX11 246 "EnumRulesModel" "faultAt" "I" ∈ lwg := lwg_tb (i := 1005) (by decide +kernel) (by decide +kernel)
theorem fl_X11_265 : Cond.fieldLink RX11 265 "EnumRulesModel" "e" "I" ∈ lwg := lwg_tb (i := 1006) (by decide +kernel) (by decide +kernel)
theorem fl_X11_121 : Cond.fieldLink RX11 121 "EnumRulesModel" "makerTwice" "[I" ∈ lwg := lwg_tb (i := 1007) (by decide +kernel) (by decide +kernel)
theorem fl_X11_124 : Cond.fieldLink RX11 124 "EnumRulesModel" "actWhere" "[I" ∈ lwg := lwg_tb (i := 1008) (by decide +kernel) (by decide +kernel)
theorem fl_X11_127 : Cond.fieldLink RX11 127 "EnumRulesModel" "actEnum" "[I" ∈ lwg := lwg_tb (i := 1009) (by decide +kernel) (by decide +kernel)
theorem fl_X11_130 : Cond.fieldLink RX11 130 "EnumRulesModel" "ops" "[I" ∈ lwg := lwg_tb (i := 1010) (by decide +kernel) (by decide +kernel)
theorem fl_X11_281 : Cond.fieldLink RX11 281 "EnumRulesModel" "opMany" "I" ∈ lwg := lwg_tb (i := 1011) (by decide +kernel) (by decide +kernel)
theorem fl_X11_343 : Cond.fieldLink RX11 343 "EnumRulesModel" "toldFault" "I" ∈ lwg := lwg_tb (i := 1012) (by decide +kernel) (by decide +kernel)
theorem fl_X11_134 : Cond.fieldLink RX11 134 "EnumRulesModel" "toldPlace" "I" ∈ lwg := lwg_tb (i := 1013) (by decide +kernel) (by decide +kernel)
theorem fl_X11_138 : Cond.fieldLink RX11 138 "EnumRulesModel" "states" "[I" ∈ lwg := lwg_tb (i := 1014) (by decide +kernel) (by decide +kernel)
theorem fl_X11_141 : Cond.fieldLink RX11 141 "EnumRulesModel" "vals" "[I" ∈ lwg := lwg_tb (i := 1015) (by decide +kernel) (by decide +kernel)
theorem fl_X11_144 : Cond.fieldLink RX11 144 "EnumRulesModel" "fieldVals" "[I" ∈ lwg := lwg_tb (i := 1016) (by decide +kernel) (by decide +kernel)
theorem fl_X11_147 : Cond.fieldLink RX11 147 "EnumRulesModel" "far" "[I" ∈ lwg := lwg_tb (i := 1017) (by decide +kernel) (by decide +kernel)
theorem fl_X11_150 : Cond.fieldLink RX11 150 "EnumRulesModel" "traces" "[I" ∈ lwg := lwg_tb (i := 1018) (by decide +kernel) (by decide +kernel)
theorem fl_X11_346 : Cond.fieldLink RX11 346 "EnumRulesModel" "traceMany" "I" ∈ lwg := lwg_tb (i := 1019) (by decide +kernel) (by decide +kernel)
theorem fl_X11_362 : Cond.fieldLink RX11 362 "EnumRulesModel" "cause" "I" ∈ lwg := lwg_tb (i := 1020) (by decide +kernel) (by decide +kernel)
theorem fl_X11_365 : Cond.fieldLink RX11 365 "EnumRulesModel" "failedMany" "I" ∈ lwg := lwg_tb (i := 1021) (by decide +kernel) (by decide +kernel)
theorem fl_X11_352 : Cond.fieldLink RX11 352 "EnumRulesModel" "frames" "I" ∈ lwg := lwg_tb (i := 1022) (by decide +kernel) (by decide +kernel)
theorem fl_X11_153 : Cond.fieldLink RX11 153 "EnumRulesModel" "fEnum" "[I" ∈ lwg := lwg_tb (i := 1023) (by decide +kernel) (by decide +kernel)
theorem fl_X11_156 : Cond.fieldLink RX11 156 "EnumRulesModel" "fConst" "[I" ∈ lwg := lwg_tb (i := 1024) (by decide +kernel) (by decide +kernel)
theorem fl_X11_159 : Cond.fieldLink RX11 159 "EnumRulesModel" "fAt" "[I" ∈ lwg := lwg_tb (i := 1025) (by decide +kernel) (by decide +kernel)
theorem fl_X11_162 : Cond.fieldLink RX11 162 "EnumRulesModel" "fTo" "[I" ∈ lwg := lwg_tb (i := 1026) (by decide +kernel) (by decide +kernel)
theorem fl_X11_165 : Cond.fieldLink RX11 165 "EnumRulesModel" "stack" "[I" ∈ lwg := lwg_tb (i := 1027) (by decide +kernel) (by decide +kernel)
theorem fl_X11_368 : Cond.fieldLink RX11 368 "EnumRulesModel" "stacked" "I" ∈ lwg := lwg_tb (i := 1028) (by decide +kernel) (by decide +kernel)
theorem fl_X11_349 : Cond.fieldLink RX11 349 "EnumRulesModel" "handMany" "I" ∈ lwg := lwg_tb (i := 1029) (by decide +kernel) (by decide +kernel)
theorem fl_X11_403 : Cond.fieldLink RX11 403 "EnumRulesModel" "handEnum" "I" ∈ lwg := lwg_tb (i := 1030) (by decide +kernel) (by decide +kernel)
theorem fl_X11_168 : Cond.fieldLink RX11 168 "EnumRulesModel" "hands" "[I" ∈ lwg := lwg_tb (i := 1031) (by decide +kernel) (by decide +kernel)
theorem ml_L_17 : Cond.methodLink RL 17 yX11_feed ∈ lwg := lwg_tb (i := 1181) (by decide +kernel) (by decide +kernel)
theorem im_yX11_feed : Cond.instanceMethod yX11_feed ∈ lwg := lwg_tb (i := 1182) (by decide +kernel) (by decide +kernel)
theorem se_yX11_feed : Cond.selects RX11 yX11_feed yX11_feed ∈ lwg := lwg_tb (i := 1183) (by decide +kernel) (by decide +kernel)
theorem cd_yX11_feed : Cond.code yX11_feed cX11_feed 8 (some .int) ∈ lwg := lwg_tb (i := 1184) (by decide +kernel) (by decide +kernel)
theorem co_X11_174 : Cond.constant RX11 174 (-1000004) ∈ lwg := lwg_tb (i := 1185) (by decide +kernel) (by decide +kernel)
theorem ml_L_22 : Cond.methodLink RL 22 yX11_end ∈ lwg := lwg_tb (i := 1186) (by decide +kernel) (by decide +kernel)
theorem im_yX11_end : Cond.instanceMethod yX11_end ∈ lwg := lwg_tb (i := 1187) (by decide +kernel) (by decide +kernel)
theorem se_yX11_end : Cond.selects RX11 yX11_end yX11_end ∈ lwg := lwg_tb (i := 1188) (by decide +kernel) (by decide +kernel)
theorem cd_yX11_end : Cond.code yX11_end cX11_end 2 (some .int) ∈ lwg := lwg_tb (i := 1189) (by decide +kernel) (by decide +kernel)
theorem ml_X11_175 : Cond.methodLink RX11 175 yX11_in ∈ lwg := lwg_tb (i := 1190) (by decide +kernel) (by decide +kernel)
theorem st_yX11_in : Cond.static yX11_in ∈ lwg := lwg_tb (i := 1191) (by decide +kernel) (by decide +kernel)
theorem cd_yX11_in : Cond.code yX11_in cX11_in 3 (some .boolean) ∈ lwg := lwg_tb (i := 1192) (by decide +kernel) (by decide +kernel)
theorem co_X11_179 : Cond.constant RX11 179 (-1000002) ∈ lwg := lwg_tb (i := 1193) (by decide +kernel) (by decide +kernel)
theorem ml_L_27 : Cond.methodLink RL 27 yX11_load ∈ lwg := lwg_tb (i := 1194) (by decide +kernel) (by decide +kernel)
theorem im_yX11_load : Cond.instanceMethod yX11_load ∈ lwg := lwg_tb (i := 1195) (by decide +kernel) (by decide +kernel)
theorem se_yX11_load : Cond.selects RX11 yX11_load yX11_load ∈ lwg := lwg_tb (i := 1196) (by decide +kernel) (by decide +kernel)
theorem cd_yX11_load : Cond.code yX11_load cX11_load 2 (some .int) ∈ lwg := lwg_tb (i := 1197) (by decide +kernel) (by decide +kernel)
theorem ml_X11_337 : Cond.methodLink RX11 337 yX11_readText ∈ lwg := lwg_tb (i := 1198) (by decide +kernel) (by decide +kernel)
theorem im_yX11_readText : Cond.instanceMethod yX11_readText ∈ lwg := lwg_tb (i := 1200) (by decide +kernel) (by decide +kernel)
theorem cd_yX11_readText : Cond.code yX11_readText cX11_readText 1 none ∈ lwg := lwg_tb (i := 1201) (by decide +kernel) (by decide +kernel)
theorem ml_X11_256 : Cond.methodLink RX11 256 yX11_next ∈ lwg := lwg_tb (i := 1202) (by decide +kernel) (by decide +kernel)
theorem im_yX11_next : Cond.instanceMethod yX11_next ∈ lwg := lwg_tb (i := 1204) (by decide +kernel) (by decide +kernel)
theorem cd_yX11_next : Cond.code yX11_next cX11_next 2 none ∈ lwg := lwg_tb (i := 1205) (by decide +kernel) (by decide +kernel)
theorem ml_X11_189 : Cond.methodLink RX11 189 yX11_byteAt ∈ lwg := lwg_tb (i := 1206) (by decide +kernel) (by decide +kernel)
theorem im_yX11_byteAt : Cond.instanceMethod yX11_byteAt ∈ lwg := lwg_tb (i := 1208) (by decide +kernel) (by decide +kernel)
theorem cd_yX11_byteAt : Cond.code yX11_byteAt cX11_byteAt 2 (some .int) ∈ lwg := lwg_tb (i := 1209) (by decide +kernel) (by decide +kernel)
theorem ml_X11_199 : Cond.methodLink RX11 199 yX11_isLetter ∈ lwg := lwg_tb (i := 1210) (by decide +kernel) (by decide +kernel)
theorem st_yX11_isLetter : Cond.static yX11_isLetter ∈ lwg := lwg_tb (i := 1211) (by decide +kernel) (by decide +kernel)
theorem cd_yX11_isLetter : Cond.code yX11_isLetter cX11_isLetter 1 (some .boolean) ∈ lwg := lwg_tb (i := 1212) (by decide +kernel) (by decide +kernel)
theorem ml_X11_203 : Cond.methodLink RX11 203 yX11_isDigit ∈ lwg := lwg_tb (i := 1213) (by decide +kernel) (by decide +kernel)
theorem st_yX11_isDigit : Cond.static yX11_isDigit ∈ lwg := lwg_tb (i := 1214) (by decide +kernel) (by decide +kernel)
theorem cd_yX11_isDigit : Cond.code yX11_isDigit cX11_isDigit 1 (some .boolean) ∈ lwg := lwg_tb (i := 1215) (by decide +kernel) (by decide +kernel)
theorem ml_X11_209 : Cond.methodLink RX11 209 yX11_wordAt ∈ lwg := lwg_tb (i := 1216) (by decide +kernel) (by decide +kernel)
theorem im_yX11_wordAt : Cond.instanceMethod yX11_wordAt ∈ lwg := lwg_tb (i := 1218) (by decide +kernel) (by decide +kernel)
theorem cd_yX11_wordAt : Cond.code yX11_wordAt cX11_wordAt 1 (some .int) ∈ lwg := lwg_tb (i := 1219) (by decide +kernel) (by decide +kernel)
theorem cj_X11_221 : Cond.constantLong RX11 221 (1701737837) ∈ lwg := lwg_tb (i := 1220) (by decide +kernel) (by decide +kernel)
theorem ml_X11_223 : Cond.methodLink RX11 223 yX11_spells ∈ lwg := lwg_tb (i := 1221) (by decide +kernel) (by decide +kernel)
theorem im_yX11_spells : Cond.instanceMethod yX11_spells ∈ lwg := lwg_tb (i := 1223) (by decide +kernel) (by decide +kernel)
theorem cd_yX11_spells : Cond.code yX11_spells cX11_spells 6 (some .boolean) ∈ lwg := lwg_tb (i := 1224) (by decide +kernel) (by decide +kernel)
theorem cj_X11_219 : Cond.constantLong RX11 219 (255) ∈ lwg := lwg_tb (i := 1225) (by decide +kernel) (by decide +kernel)
theorem cj_X11_227 : Cond.constantLong RX11 227 (7017298113369039732) ∈ lwg := lwg_tb (i := 1226) (by decide +kernel) (by decide +kernel)
theorem cj_X11_229 : Cond.constantLong RX11 229 (6579558) ∈ lwg := lwg_tb (i := 1227) (by decide +kernel) (by decide +kernel)
theorem cj_X11_231 : Cond.constantLong RX11 231 (439854918756) ∈ lwg := lwg_tb (i := 1228) (by decide +kernel) (by decide +kernel)
theorem cj_X11_233 : Cond.constantLong RX11 233 (427071271796) ∈ lwg := lwg_tb (i := 1229) (by decide +kernel) (by decide +kernel)
theorem cj_X11_235 : Cond.constantLong RX11 235 (469785863538) ∈ lwg := lwg_tb (i := 1230) (by decide +kernel) (by decide +kernel)
theorem cj_X11_237 : Cond.constantLong RX11 237 (6386279) ∈ lwg := lwg_tb (i := 1231) (by decide +kernel) (by decide +kernel)
theorem cj_X11_239 : Cond.constantLong RX11 239 (7758188) ∈ lwg := lwg_tb (i := 1232) (by decide +kernel) (by decide +kernel)
theorem cj_X11_241 : Cond.constantLong RX11 241 (482854658917) ∈ lwg := lwg_tb (i := 1233) (by decide +kernel) (by decide +kernel)
theorem ml_X11_216 : Cond.methodLink RX11 216 yX11_isSign ∈ lwg := lwg_tb (i := 1234) (by decide +kernel) (by decide +kernel)
theorem st_yX11_isSign : Cond.static yX11_isSign ∈ lwg := lwg_tb (i := 1235) (by decide +kernel) (by decide +kernel)
theorem cd_yX11_isSign : Cond.code yX11_isSign cX11_isSign 1 (some .boolean) ∈ lwg := lwg_tb (i := 1236) (by decide +kernel) (by decide +kernel)
theorem ml_X11_249 : Cond.methodLink RX11 249 yX11_isGood ∈ lwg := lwg_tb (i := 1237) (by decide +kernel) (by decide +kernel)
theorem im_yX11_isGood : Cond.instanceMethod yX11_isGood ∈ lwg := lwg_tb (i := 1239) (by decide +kernel) (by decide +kernel)
theorem cd_yX11_isGood : Cond.code yX11_isGood cX11_isGood 1 (some .boolean) ∈ lwg := lwg_tb (i := 1240) (by decide +kernel) (by decide +kernel)
theorem ml_X11_259 : Cond.methodLink RX11 259 yX11_stop ∈ lwg := lwg_tb (i := 1241) (by decide +kernel) (by decide +kernel)
theorem im_yX11_stop : Cond.instanceMethod yX11_stop ∈ lwg := lwg_tb (i := 1243) (by decide +kernel) (by decide +kernel)
theorem cd_yX11_stop : Cond.code yX11_stop cX11_stop 1 none ∈ lwg := lwg_tb (i := 1244) (by decide +kernel) (by decide +kernel)
theorem ml_X11_262 : Cond.methodLink RX11 262 yX11_readEnum ∈ lwg := lwg_tb (i := 1245) (by decide +kernel) (by decide +kernel)
theorem im_yX11_readEnum : Cond.instanceMethod yX11_readEnum ∈ lwg := lwg_tb (i := 1247) (by decide +kernel) (by decide +kernel)
theorem cd_yX11_readEnum : Cond.code yX11_readEnum cX11_readEnum 1 none ∈ lwg := lwg_tb (i := 1248) (by decide +kernel) (by decide +kernel)
theorem ml_X11_268 : Cond.methodLink RX11 268 yX11_need ∈ lwg := lwg_tb (i := 1249) (by decide +kernel) (by decide +kernel)
theorem im_yX11_need : Cond.instanceMethod yX11_need ∈ lwg := lwg_tb (i := 1251) (by decide +kernel) (by decide +kernel)
theorem cd_yX11_need : Cond.code yX11_need cX11_need 2 none ∈ lwg := lwg_tb (i := 1252) (by decide +kernel) (by decide +kernel)
theorem ml_X11_253 : Cond.methodLink RX11 253 yX11_isAt ∈ lwg := lwg_tb (i := 1253) (by decide +kernel) (by decide +kernel)
theorem im_yX11_isAt : Cond.instanceMethod yX11_isAt ∈ lwg := lwg_tb (i := 1255) (by decide +kernel) (by decide +kernel)
theorem cd_yX11_isAt : Cond.code yX11_isAt cX11_isAt 2 (some .boolean) ∈ lwg := lwg_tb (i := 1256) (by decide +kernel) (by decide +kernel)
theorem ml_X11_272 : Cond.methodLink RX11 272 yX11_readConst ∈ lwg := lwg_tb (i := 1257) (by decide +kernel) (by decide +kernel)
theorem im_yX11_readConst : Cond.instanceMethod yX11_readConst ∈ lwg := lwg_tb (i := 1259) (by decide +kernel) (by decide +kernel)
theorem cd_yX11_readConst : Cond.code yX11_readConst cX11_readConst 3 none ∈ lwg := lwg_tb (i := 1260) (by decide +kernel) (by decide +kernel)
theorem ml_X11_278 : Cond.methodLink RX11 278 yX11_readExp ∈ lwg := lwg_tb (i := 1261) (by decide +kernel) (by decide +kernel)
theorem im_yX11_readExp : Cond.instanceMethod yX11_readExp ∈ lwg := lwg_tb (i := 1263) (by decide +kernel) (by decide +kernel)
theorem cd_yX11_readExp : Cond.code yX11_readExp cX11_readExp 7 none ∈ lwg := lwg_tb (i := 1264) (by decide +kernel) (by decide +kernel)
theorem ml_X11_284 : Cond.methodLink RX11 284 yX11_readOne ∈ lwg := lwg_tb (i := 1265) (by decide +kernel) (by decide +kernel)
theorem im_yX11_readOne : Cond.instanceMethod yX11_readOne ∈ lwg := lwg_tb (i := 1267) (by decide +kernel) (by decide +kernel)
theorem cd_yX11_readOne : Cond.code yX11_readOne cX11_readOne 2 none ∈ lwg := lwg_tb (i := 1268) (by decide +kernel) (by decide +kernel)
theorem ml_X11_293 : Cond.methodLink RX11 293 yX11_emit ∈ lwg := lwg_tb (i := 1269) (by decide +kernel) (by decide +kernel)
theorem im_yX11_emit : Cond.instanceMethod yX11_emit ∈ lwg := lwg_tb (i := 1271) (by decide +kernel) (by decide +kernel)
theorem cd_yX11_emit : Cond.code yX11_emit cX11_emit 4 none ∈ lwg := lwg_tb (i := 1272) (by decide +kernel) (by decide +kernel)
theorem ml_X11_287 : Cond.methodLink RX11 287 yX11_closeMinus ∈ lwg := lwg_tb (i := 1273) (by decide +kernel) (by decide +kernel)
theorem im_yX11_closeMinus : Cond.instanceMethod yX11_closeMinus ∈ lwg := lwg_tb (i := 1275) (by decide +kernel) (by decide +kernel)
theorem cd_yX11_closeMinus : Cond.code yX11_closeMinus cX11_closeMinus 3 (some .int) ∈ lwg := lwg_tb (i := 1276) (by decide +kernel) (by decide +kernel)
theorem ml_X11_290 : Cond.methodLink RX11 290 yX11_rank ∈ lwg := lwg_tb (i := 1277) (by decide +kernel) (by decide +kernel)
theorem st_yX11_rank : Cond.static yX11_rank ∈ lwg := lwg_tb (i := 1278) (by decide +kernel) (by decide +kernel)
theorem cd_yX11_rank : Cond.code yX11_rank cX11_rank 1 (some .int) ∈ lwg := lwg_tb (i := 1279) (by decide +kernel) (by decide +kernel)
theorem ml_X11_297 : Cond.methodLink RX11 297 yX11_hasOpen ∈ lwg := lwg_tb (i := 1280) (by decide +kernel) (by decide +kernel)
theorem im_yX11_hasOpen : Cond.instanceMethod yX11_hasOpen ∈ lwg := lwg_tb (i := 1282) (by decide +kernel) (by decide +kernel)
theorem cd_yX11_hasOpen : Cond.code yX11_hasOpen cX11_hasOpen 4 (some .boolean) ∈ lwg := lwg_tb (i := 1283) (by decide +kernel) (by decide +kernel)
theorem ml_X11_275 : Cond.methodLink RX11 275 yX11_readMember ∈ lwg := lwg_tb (i := 1284) (by decide +kernel) (by decide +kernel)
theorem im_yX11_readMember : Cond.instanceMethod yX11_readMember ∈ lwg := lwg_tb (i := 1286) (by decide +kernel) (by decide +kernel)
theorem cd_yX11_readMember : Cond.code yX11_readMember cX11_readMember 8 none ∈ lwg := lwg_tb (i := 1287) (by decide +kernel) (by decide +kernel)
theorem ml_X11_340 : Cond.methodLink RX11 340 yX11_lookAtAll ∈ lwg := lwg_tb (i := 1288) (by decide +kernel) (by decide +kernel)
theorem im_yX11_lookAtAll : Cond.instanceMethod yX11_lookAtAll ∈ lwg := lwg_tb (i := 1290) (by decide +kernel) (by decide +kernel)
theorem cd_yX11_lookAtAll : Cond.code yX11_lookAtAll cX11_lookAtAll 3 none ∈ lwg := lwg_tb (i := 1291) (by decide +kernel) (by decide +kernel)
theorem ml_X11_325 : Cond.methodLink RX11 325 yX11_lookAtEnum ∈ lwg := lwg_tb (i := 1292) (by decide +kernel) (by decide +kernel)
theorem im_yX11_lookAtEnum : Cond.instanceMethod yX11_lookAtEnum ∈ lwg := lwg_tb (i := 1294) (by decide +kernel) (by decide +kernel)
theorem cd_yX11_lookAtEnum : Cond.code yX11_lookAtEnum cX11_lookAtEnum 5 none ∈ lwg := lwg_tb (i := 1295) (by decide +kernel) (by decide +kernel)
theorem ml_X11_307 : Cond.methodLink RX11 307 yX11_enumOf ∈ lwg := lwg_tb (i := 1296) (by decide +kernel) (by decide +kernel)
theorem im_yX11_enumOf : Cond.instanceMethod yX11_enumOf ∈ lwg := lwg_tb (i := 1298) (by decide +kernel) (by decide +kernel)
theorem cd_yX11_enumOf : Cond.code yX11_enumOf cX11_enumOf 4 (some .int) ∈ lwg := lwg_tb (i := 1299) (by decide +kernel) (by decide +kernel)
theorem ml_X11_300 : Cond.methodLink RX11 300 yX11_isSame ∈ lwg := lwg_tb (i := 1300) (by decide +kernel) (by decide +kernel)
theorem im_yX11_isSame : Cond.instanceMethod yX11_isSame ∈ lwg := lwg_tb (i := 1302) (by decide +kernel) (by decide +kernel)
theorem cd_yX11_isSame : Cond.code yX11_isSame cX11_isSame 7 (some .boolean) ∈ lwg := lwg_tb (i := 1303) (by decide +kernel) (by decide +kernel)
theorem ml_X11_304 : Cond.methodLink RX11 304 yX11_wrong ∈ lwg := lwg_tb (i := 1304) (by decide +kernel) (by decide +kernel)
theorem im_yX11_wrong : Cond.instanceMethod yX11_wrong ∈ lwg := lwg_tb (i := 1306) (by decide +kernel) (by decide +kernel)
theorem cd_yX11_wrong : Cond.code yX11_wrong cX11_wrong 3 none ∈ lwg := lwg_tb (i := 1307) (by decide +kernel) (by decide +kernel)
theorem ml_X11_311 : Cond.methodLink RX11 311 yX11_first ∈ lwg := lwg_tb (i := 1308) (by decide +kernel) (by decide +kernel)
theorem im_yX11_first : Cond.instanceMethod yX11_first ∈ lwg := lwg_tb (i := 1310) (by decide +kernel) (by decide +kernel)
theorem cd_yX11_first : Cond.code yX11_first cX11_first 7 none ∈ lwg := lwg_tb (i := 1311) (by decide +kernel) (by decide +kernel)
theorem ml_X11_315 : Cond.methodLink RX11 315 yX11_giveBy ∈ lwg := lwg_tb (i := 1312) (by decide +kernel) (by decide +kernel)
theorem im_yX11_giveBy : Cond.instanceMethod yX11_giveBy ∈ lwg := lwg_tb (i := 1314) (by decide +kernel) (by decide +kernel)
theorem cd_yX11_giveBy : Cond.code yX11_giveBy cX11_giveBy 5 (some .int) ∈ lwg := lwg_tb (i := 1315) (by decide +kernel) (by decide +kernel)
theorem ml_X11_328 : Cond.methodLink RX11 328 yX11_memberOf ∈ lwg := lwg_tb (i := 1316) (by decide +kernel) (by decide +kernel)
theorem im_yX11_memberOf : Cond.instanceMethod yX11_memberOf ∈ lwg := lwg_tb (i := 1318) (by decide +kernel) (by decide +kernel)
theorem cd_yX11_memberOf : Cond.code yX11_memberOf cX11_memberOf 5 (some .int) ∈ lwg := lwg_tb (i := 1319) (by decide +kernel) (by decide +kernel)
theorem ml_X11_331 : Cond.methodLink RX11 331 yX11_lookAtAct ∈ lwg := lwg_tb (i := 1320) (by decide +kernel) (by decide +kernel)
theorem im_yX11_lookAtAct : Cond.instanceMethod yX11_lookAtAct ∈ lwg := lwg_tb (i := 1322) (by decide +kernel) (by decide +kernel)
theorem cd_yX11_lookAtAct : Cond.code yX11_lookAtAct cX11_lookAtAct 6 none ∈ lwg := lwg_tb (i := 1323) (by decide +kernel) (by decide +kernel)
theorem ml_X11_319 : Cond.methodLink RX11 319 yX11_fieldOf ∈ lwg := lwg_tb (i := 1324) (by decide +kernel) (by decide +kernel)
theorem im_yX11_fieldOf : Cond.instanceMethod yX11_fieldOf ∈ lwg := lwg_tb (i := 1326) (by decide +kernel) (by decide +kernel)
theorem cd_yX11_fieldOf : Cond.code yX11_fieldOf cX11_fieldOf 5 (some .int) ∈ lwg := lwg_tb (i := 1327) (by decide +kernel) (by decide +kernel)
theorem ml_X11_322 : Cond.methodLink RX11 322 yX11_constOf ∈ lwg := lwg_tb (i := 1328) (by decide +kernel) (by decide +kernel)
theorem im_yX11_constOf : Cond.instanceMethod yX11_constOf ∈ lwg := lwg_tb (i := 1330) (by decide +kernel) (by decide +kernel)
theorem cd_yX11_constOf : Cond.code yX11_constOf cX11_constOf 5 (some .int) ∈ lwg := lwg_tb (i := 1331) (by decide +kernel) (by decide +kernel)
theorem ml_L_31 : Cond.methodLink RL 31 yX11_fault ∈ lwg := lwg_tb (i := 1332) (by decide +kernel) (by decide +kernel)
theorem im_yX11_fault : Cond.instanceMethod yX11_fault ∈ lwg := lwg_tb (i := 1333) (by decide +kernel) (by decide +kernel)
theorem se_yX11_fault : Cond.selects RX11 yX11_fault yX11_fault ∈ lwg := lwg_tb (i := 1334) (by decide +kernel) (by decide +kernel)
theorem cd_yX11_fault : Cond.code yX11_fault cX11_fault 2 (some .int) ∈ lwg := lwg_tb (i := 1335) (by decide +kernel) (by decide +kernel)
theorem ml_L_35 : Cond.methodLink RL 35 yX11_cause ∈ lwg := lwg_tb (i := 1336) (by decide +kernel) (by decide +kernel)
theorem im_yX11_cause : Cond.instanceMethod yX11_cause ∈ lwg := lwg_tb (i := 1337) (by decide +kernel) (by decide +kernel)
theorem se_yX11_cause : Cond.selects RX11 yX11_cause yX11_cause ∈ lwg := lwg_tb (i := 1338) (by decide +kernel) (by decide +kernel)
theorem cd_yX11_cause : Cond.code yX11_cause cX11_cause 1 (some .int) ∈ lwg := lwg_tb (i := 1339) (by decide +kernel) (by decide +kernel)
theorem ml_L_40 : Cond.methodLink RL 40 yX11_told ∈ lwg := lwg_tb (i := 1340) (by decide +kernel) (by decide +kernel)
theorem im_yX11_told : Cond.instanceMethod yX11_told ∈ lwg := lwg_tb (i := 1341) (by decide +kernel) (by decide +kernel)
theorem se_yX11_told : Cond.selects RX11 yX11_told yX11_told ∈ lwg := lwg_tb (i := 1342) (by decide +kernel) (by decide +kernel)
theorem cd_yX11_told : Cond.code yX11_told cX11_told 5 (some .int) ∈ lwg := lwg_tb (i := 1343) (by decide +kernel) (by decide +kernel)
theorem ml_X11_392 : Cond.methodLink RX11 392 yX11_isEnum ∈ lwg := lwg_tb (i := 1344) (by decide +kernel) (by decide +kernel)
theorem im_yX11_isEnum : Cond.instanceMethod yX11_isEnum ∈ lwg := lwg_tb (i := 1346) (by decide +kernel) (by decide +kernel)
theorem cd_yX11_isEnum : Cond.code yX11_isEnum cX11_isEnum 2 (some .boolean) ∈ lwg := lwg_tb (i := 1347) (by decide +kernel) (by decide +kernel)
theorem co_X11_395 : Cond.constant RX11 395 (-1000001) ∈ lwg := lwg_tb (i := 1348) (by decide +kernel) (by decide +kernel)
theorem ml_L_44 : Cond.methodLink RL 44 yX11_hasBody ∈ lwg := lwg_tb (i := 1349) (by decide +kernel) (by decide +kernel)
theorem im_yX11_hasBody : Cond.instanceMethod yX11_hasBody ∈ lwg := lwg_tb (i := 1350) (by decide +kernel) (by decide +kernel)
theorem se_yX11_hasBody : Cond.selects RX11 yX11_hasBody yX11_hasBody ∈ lwg := lwg_tb (i := 1351) (by decide +kernel) (by decide +kernel)
theorem cd_yX11_hasBody : Cond.code yX11_hasBody cX11_hasBody 3 (some .int) ∈ lwg := lwg_tb (i := 1352) (by decide +kernel) (by decide +kernel)
theorem ml_X11_396 : Cond.methodLink RX11 396 yX11_isConst ∈ lwg := lwg_tb (i := 1353) (by decide +kernel) (by decide +kernel)
theorem im_yX11_isConst : Cond.instanceMethod yX11_isConst ∈ lwg := lwg_tb (i := 1355) (by decide +kernel) (by decide +kernel)
theorem cd_yX11_isConst : Cond.code yX11_isConst cX11_isConst 3 (some .boolean) ∈ lwg := lwg_tb (i := 1356) (by decide +kernel) (by decide +kernel)
theorem ml_L_48 : Cond.methodLink RL 48 yX11_value ∈ lwg := lwg_tb (i := 1357) (by decide +kernel) (by decide +kernel)
theorem im_yX11_value : Cond.instanceMethod yX11_value ∈ lwg := lwg_tb (i := 1358) (by decide +kernel) (by decide +kernel)
theorem se_yX11_value : Cond.selects RX11 yX11_value yX11_value ∈ lwg := lwg_tb (i := 1359) (by decide +kernel) (by decide +kernel)
theorem cd_yX11_value : Cond.code yX11_value cX11_value 3 (some .int) ∈ lwg := lwg_tb (i := 1360) (by decide +kernel) (by decide +kernel)
theorem ml_X11_400 : Cond.methodLink RX11 400 yX11_want ∈ lwg := lwg_tb (i := 1361) (by decide +kernel) (by decide +kernel)
theorem im_yX11_want : Cond.instanceMethod yX11_want ∈ lwg := lwg_tb (i := 1363) (by decide +kernel) (by decide +kernel)
theorem cd_yX11_want : Cond.code yX11_want cX11_want 2 (some .boolean) ∈ lwg := lwg_tb (i := 1364) (by decide +kernel) (by decide +kernel)
theorem ml_X11_383 : Cond.methodLink RX11 383 yX11_begin ∈ lwg := lwg_tb (i := 1365) (by decide +kernel) (by decide +kernel)
theorem im_yX11_begin : Cond.instanceMethod yX11_begin ∈ lwg := lwg_tb (i := 1367) (by decide +kernel) (by decide +kernel)
theorem cd_yX11_begin : Cond.code yX11_begin cX11_begin 2 none ∈ lwg := lwg_tb (i := 1368) (by decide +kernel) (by decide +kernel)
theorem ml_X11_355 : Cond.methodLink RX11 355 yX11_note ∈ lwg := lwg_tb (i := 1369) (by decide +kernel) (by decide +kernel)
theorem im_yX11_note : Cond.instanceMethod yX11_note ∈ lwg := lwg_tb (i := 1371) (by decide +kernel) (by decide +kernel)
theorem cd_yX11_note : Cond.code yX11_note cX11_note 3 none ∈ lwg := lwg_tb (i := 1372) (by decide +kernel) (by decide +kernel)
theorem ml_X11_358 : Cond.methodLink RX11 358 yX11_pushFrame ∈ lwg := lwg_tb (i := 1373) (by decide +kernel) (by decide +kernel)
theorem im_yX11_pushFrame : Cond.instanceMethod yX11_pushFrame ∈ lwg := lwg_tb (i := 1375) (by decide +kernel) (by decide +kernel)
theorem cd_yX11_pushFrame : Cond.code yX11_pushFrame cX11_pushFrame 5 none ∈ lwg := lwg_tb (i := 1376) (by decide +kernel) (by decide +kernel)
theorem ml_X11_389 : Cond.methodLink RX11 389 yX11_work ∈ lwg := lwg_tb (i := 1377) (by decide +kernel) (by decide +kernel)
theorem im_yX11_work : Cond.instanceMethod yX11_work ∈ lwg := lwg_tb (i := 1379) (by decide +kernel) (by decide +kernel)
theorem cd_yX11_work : Cond.code yX11_work cX11_work 2 none ∈ lwg := lwg_tb (i := 1380) (by decide +kernel) (by decide +kernel)
theorem ml_X11_371 : Cond.methodLink RX11 371 yX11_goOn ∈ lwg := lwg_tb (i := 1381) (by decide +kernel) (by decide +kernel)
theorem im_yX11_goOn : Cond.instanceMethod yX11_goOn ∈ lwg := lwg_tb (i := 1383) (by decide +kernel) (by decide +kernel)
theorem cd_yX11_goOn : Cond.code yX11_goOn cX11_goOn 5 none ∈ lwg := lwg_tb (i := 1384) (by decide +kernel) (by decide +kernel)
theorem ml_X11_377 : Cond.methodLink RX11 377 yX11_made ∈ lwg := lwg_tb (i := 1385) (by decide +kernel) (by decide +kernel)
theorem im_yX11_made : Cond.instanceMethod yX11_made ∈ lwg := lwg_tb (i := 1387) (by decide +kernel) (by decide +kernel)
theorem cd_yX11_made : Cond.code yX11_made cX11_made 4 none ∈ lwg := lwg_tb (i := 1388) (by decide +kernel) (by decide +kernel)
theorem ml_X11_374 : Cond.methodLink RX11 374 yX11_doAct ∈ lwg := lwg_tb (i := 1389) (by decide +kernel) (by decide +kernel)
theorem im_yX11_doAct : Cond.instanceMethod yX11_doAct ∈ lwg := lwg_tb (i := 1391) (by decide +kernel) (by decide +kernel)
theorem cd_yX11_doAct : Cond.code yX11_doAct cX11_doAct 9 none ∈ lwg := lwg_tb (i := 1392) (by decide +kernel) (by decide +kernel)
theorem ml_X11_380 : Cond.methodLink RX11 380 yX11_push ∈ lwg := lwg_tb (i := 1393) (by decide +kernel) (by decide +kernel)
theorem im_yX11_push : Cond.instanceMethod yX11_push ∈ lwg := lwg_tb (i := 1395) (by decide +kernel) (by decide +kernel)
theorem cd_yX11_push : Cond.code yX11_push cX11_push 2 none ∈ lwg := lwg_tb (i := 1396) (by decide +kernel) (by decide +kernel)
theorem ml_X11_386 : Cond.methodLink RX11 386 yX11_fails ∈ lwg := lwg_tb (i := 1397) (by decide +kernel) (by decide +kernel)
theorem im_yX11_fails : Cond.instanceMethod yX11_fails ∈ lwg := lwg_tb (i := 1399) (by decide +kernel) (by decide +kernel)
theorem cd_yX11_fails : Cond.code yX11_fails cX11_fails 2 none ∈ lwg := lwg_tb (i := 1400) (by decide +kernel) (by decide +kernel)
theorem ml_L_53 : Cond.methodLink RL 53 yX11_call ∈ lwg := lwg_tb (i := 1401) (by decide +kernel) (by decide +kernel)
theorem im_yX11_call : Cond.instanceMethod yX11_call ∈ lwg := lwg_tb (i := 1402) (by decide +kernel) (by decide +kernel)
theorem se_yX11_call : Cond.selects RX11 yX11_call yX11_call ∈ lwg := lwg_tb (i := 1403) (by decide +kernel) (by decide +kernel)
theorem cd_yX11_call : Cond.code yX11_call cX11_call 6 (some .int) ∈ lwg := lwg_tb (i := 1404) (by decide +kernel) (by decide +kernel)
theorem ml_L_57 : Cond.methodLink RL 57 yX11_field ∈ lwg := lwg_tb (i := 1405) (by decide +kernel) (by decide +kernel)
theorem im_yX11_field : Cond.instanceMethod yX11_field ∈ lwg := lwg_tb (i := 1406) (by decide +kernel) (by decide +kernel)
theorem se_yX11_field : Cond.selects RX11 yX11_field yX11_field ∈ lwg := lwg_tb (i := 1407) (by decide +kernel) (by decide +kernel)
theorem cd_yX11_field : Cond.code yX11_field cX11_field 4 (some .int) ∈ lwg := lwg_tb (i := 1408) (by decide +kernel) (by decide +kernel)
theorem ml_L_62 : Cond.methodLink RL 62 yX11_compare ∈ lwg := lwg_tb (i := 1409) (by decide +kernel) (by decide +kernel)
theorem im_yX11_compare : Cond.instanceMethod yX11_compare ∈ lwg := lwg_tb (i := 1410) (by decide +kernel) (by decide +kernel)
theorem se_yX11_compare : Cond.selects RX11 yX11_compare yX11_compare ∈ lwg := lwg_tb (i := 1411) (by decide +kernel) (by decide +kernel)
theorem cd_yX11_compare : Cond.code yX11_compare cX11_compare 5 (some .int) ∈ lwg := lwg_tb (i := 1412) (by decide +kernel) (by decide +kernel)
theorem ml_L_66 : Cond.methodLink RL 66 yX11_values ∈ lwg := lwg_tb (i := 1413) (by decide +kernel) (by decide +kernel)
theorem im_yX11_values : Cond.instanceMethod yX11_values ∈ lwg := lwg_tb (i := 1414) (by decide +kernel) (by decide +kernel)
theorem se_yX11_values : Cond.selects RX11 yX11_values yX11_values ∈ lwg := lwg_tb (i := 1415) (by decide +kernel) (by decide +kernel)
theorem cd_yX11_values : Cond.code yX11_values cX11_values 3 (some .int) ∈ lwg := lwg_tb (i := 1416) (by decide +kernel) (by decide +kernel)
theorem ml_L_70 : Cond.methodLink RL 70 yX11_swap ∈ lwg := lwg_tb (i := 1417) (by decide +kernel) (by decide +kernel)
theorem im_yX11_swap : Cond.instanceMethod yX11_swap ∈ lwg := lwg_tb (i := 1418) (by decide +kernel) (by decide +kernel)
theorem se_yX11_swap : Cond.selects RX11 yX11_swap yX11_swap ∈ lwg := lwg_tb (i := 1419) (by decide +kernel) (by decide +kernel)
theorem cd_yX11_swap : Cond.code yX11_swap cX11_swap 4 (some .int) ∈ lwg := lwg_tb (i := 1420) (by decide +kernel) (by decide +kernel)
theorem ml_L_74 : Cond.methodLink RL 74 yX11_hand ∈ lwg := lwg_tb (i := 1421) (by decide +kernel) (by decide +kernel)
theorem im_yX11_hand : Cond.instanceMethod yX11_hand ∈ lwg := lwg_tb (i := 1422) (by decide +kernel) (by decide +kernel)
theorem se_yX11_hand : Cond.selects RX11 yX11_hand yX11_hand ∈ lwg := lwg_tb (i := 1423) (by decide +kernel) (by decide +kernel)
theorem cd_yX11_hand : Cond.code yX11_hand cX11_hand 2 (some .int) ∈ lwg := lwg_tb (i := 1424) (by decide +kernel) (by decide +kernel)
theorem ml_L_78 : Cond.methodLink RL 78 yX11_named ∈ lwg := lwg_tb (i := 1425) (by decide +kernel) (by decide +kernel)
theorem im_yX11_named : Cond.instanceMethod yX11_named ∈ lwg := lwg_tb (i := 1426) (by decide +kernel) (by decide +kernel)
theorem se_yX11_named : Cond.selects RX11 yX11_named yX11_named ∈ lwg := lwg_tb (i := 1427) (by decide +kernel) (by decide +kernel)
theorem cd_yX11_named : Cond.code yX11_named cX11_named 7 (some .int) ∈ lwg := lwg_tb (i := 1428) (by decide +kernel) (by decide +kernel)
theorem ml_L_82 : Cond.methodLink RL 82 yX11_trace ∈ lwg := lwg_tb (i := 1429) (by decide +kernel) (by decide +kernel)
theorem im_yX11_trace : Cond.instanceMethod yX11_trace ∈ lwg := lwg_tb (i := 1430) (by decide +kernel) (by decide +kernel)
theorem se_yX11_trace : Cond.selects RX11 yX11_trace yX11_trace ∈ lwg := lwg_tb (i := 1431) (by decide +kernel) (by decide +kernel)
theorem cd_yX11_trace : Cond.code yX11_trace cX11_trace 2 (some .int) ∈ lwg := lwg_tb (i := 1432) (by decide +kernel) (by decide +kernel)
theorem ml_L_86 : Cond.methodLink RL 86 yX11_count ∈ lwg := lwg_tb (i := 1433) (by decide +kernel) (by decide +kernel)
theorem im_yX11_count : Cond.instanceMethod yX11_count ∈ lwg := lwg_tb (i := 1434) (by decide +kernel) (by decide +kernel)
theorem se_yX11_count : Cond.selects RX11 yX11_count yX11_count ∈ lwg := lwg_tb (i := 1435) (by decide +kernel) (by decide +kernel)
theorem cd_yX11_count : Cond.code yX11_count cX11_count 2 (some .int) ∈ lwg := lwg_tb (i := 1436) (by decide +kernel) (by decide +kernel)
theorem ml_L_90 : Cond.methodLink RL 90 yX11_clear ∈ lwg := lwg_tb (i := 1437) (by decide +kernel) (by decide +kernel)
theorem im_yX11_clear : Cond.instanceMethod yX11_clear ∈ lwg := lwg_tb (i := 1438) (by decide +kernel) (by decide +kernel)
theorem se_yX11_clear : Cond.selects RX11 yX11_clear yX11_clear ∈ lwg := lwg_tb (i := 1439) (by decide +kernel) (by decide +kernel)
theorem cd_yX11_clear : Cond.code yX11_clear cX11_clear 2 (some .int) ∈ lwg := lwg_tb (i := 1440) (by decide +kernel) (by decide +kernel)
theorem se_yX9_addAt : Cond.selects RX9 yX9_addAt yX9_addAt ∈ lwg := lwg_pr (i := 0) (by decide +kernel) (by decide +kernel)
theorem se_yX9_wordOrName : Cond.selects RX9 yX9_wordOrName yX9_wordOrName ∈ lwg := lwg_pr (i := 1) (by decide +kernel) (by decide +kernel)
theorem se_yX9_add : Cond.selects RX9 yX9_add yX9_add ∈ lwg := lwg_pr (i := 2) (by decide +kernel) (by decide +kernel)
theorem se_yX5_openEnum : Cond.selects RX5 yX5_openEnum yX5_openEnum ∈ lwg := lwg_pr (i := 3) (by decide +kernel) (by decide +kernel)
theorem se_yX5_readConstants : Cond.selects RX5 yX5_readConstants yX5_readConstants ∈ lwg := lwg_pr (i := 4) (by decide +kernel) (by decide +kernel)
theorem se_yX1_addName : Cond.selects RX1 yX1_addName yX1_addName ∈ lwg := lwg_pr (i := 5) (by decide +kernel) (by decide +kernel)
theorem se_yX5_readArg : Cond.selects RX5 yX5_readArg yX5_readArg ∈ lwg := lwg_pr (i := 6) (by decide +kernel) (by decide +kernel)
theorem se_yX5_readBody : Cond.selects RX5 yX5_readBody yX5_readBody ∈ lwg := lwg_pr (i := 7) (by decide +kernel) (by decide +kernel)
theorem se_yX2_readNesting : Cond.selects RX2 yX2_readNesting yX2_readNesting ∈ lwg := lwg_pr (i := 8) (by decide +kernel) (by decide +kernel)
theorem se_yX2_pushWaiting : Cond.selects RX2 yX2_pushWaiting yX2_pushWaiting ∈ lwg := lwg_pr (i := 9) (by decide +kernel) (by decide +kernel)
theorem se_yX2_readOne : Cond.selects RX2 yX2_readOne yX2_readOne ∈ lwg := lwg_pr (i := 10) (by decide +kernel) (by decide +kernel)
theorem se_yX2_readName : Cond.selects RX2 yX2_readName yX2_readName ∈ lwg := lwg_pr (i := 11) (by decide +kernel) (by decide +kernel)
theorem se_yX2_readWord : Cond.selects RX2 yX2_readWord yX2_readWord ∈ lwg := lwg_pr (i := 12) (by decide +kernel) (by decide +kernel)
theorem se_yX2_readClosing : Cond.selects RX2 yX2_readClosing yX2_readClosing ∈ lwg := lwg_pr (i := 13) (by decide +kernel) (by decide +kernel)
theorem se_yX2_putWaiting : Cond.selects RX2 yX2_putWaiting yX2_putWaiting ∈ lwg := lwg_pr (i := 14) (by decide +kernel) (by decide +kernel)
theorem se_yX2_strengthOf : Cond.selects RX2 yX2_strengthOf yX2_strengthOf ∈ lwg := lwg_pr (i := 15) (by decide +kernel) (by decide +kernel)
theorem se_yX2_joiningOp : Cond.selects RX2 yX2_joiningOp yX2_joiningOp ∈ lwg := lwg_pr (i := 16) (by decide +kernel) (by decide +kernel)
theorem se_yX2_finishExp : Cond.selects RX2 yX2_finishExp yX2_finishExp ∈ lwg := lwg_pr (i := 17) (by decide +kernel) (by decide +kernel)
theorem se_yX2_readSign : Cond.selects RX2 yX2_readSign yX2_readSign ∈ lwg := lwg_pr (i := 18) (by decide +kernel) (by decide +kernel)
theorem se_yX5_readMembers : Cond.selects RX5 yX5_readMembers yX5_readMembers ∈ lwg := lwg_pr (i := 19) (by decide +kernel) (by decide +kernel)
theorem se_yX5_readAbstract : Cond.selects RX5 yX5_readAbstract yX5_readAbstract ∈ lwg := lwg_pr (i := 20) (by decide +kernel) (by decide +kernel)
theorem se_yX5_readDef : Cond.selects RX5 yX5_readDef yX5_readDef ∈ lwg := lwg_pr (i := 21) (by decide +kernel) (by decide +kernel)
theorem se_yX5_readField : Cond.selects RX5 yX5_readField yX5_readField ∈ lwg := lwg_pr (i := 22) (by decide +kernel) (by decide +kernel)
theorem se_yX5_readConst : Cond.selects RX5 yX5_readConst yX5_readConst ∈ lwg := lwg_pr (i := 23) (by decide +kernel) (by decide +kernel)
theorem se_yX5_readMaker : Cond.selects RX5 yX5_readMaker yX5_readMaker ∈ lwg := lwg_pr (i := 24) (by decide +kernel) (by decide +kernel)
theorem se_yX0_bindOp : Cond.selects RX0 yX0_bindOp yX0_bindOp ∈ lwg := lwg_pr (i := 25) (by decide +kernel) (by decide +kernel)
theorem se_yX0_bindGive : Cond.selects RX0 yX0_bindGive yX0_bindGive ∈ lwg := lwg_pr (i := 26) (by decide +kernel) (by decide +kernel)
theorem se_yX0_bindField : Cond.selects RX0 yX0_bindField yX0_bindField ∈ lwg := lwg_pr (i := 27) (by decide +kernel) (by decide +kernel)
theorem se_yX0_bindConstant : Cond.selects RX0 yX0_bindConstant yX0_bindConstant ∈ lwg := lwg_pr (i := 28) (by decide +kernel) (by decide +kernel)
theorem se_yX0_noteTwice : Cond.selects RX0 yX0_noteTwice yX0_noteTwice ∈ lwg := lwg_pr (i := 29) (by decide +kernel) (by decide +kernel)
theorem se_yX0_noteNotGiven : Cond.selects RX0 yX0_noteNotGiven yX0_noteNotGiven ∈ lwg := lwg_pr (i := 30) (by decide +kernel) (by decide +kernel)
theorem se_yX0_isGiven : Cond.selects RX0 yX0_isGiven yX0_isGiven ∈ lwg := lwg_pr (i := 31) (by decide +kernel) (by decide +kernel)
theorem se_yX10_takeSpare : Cond.selects RX10 yX10_takeSpare yX10_takeSpare ∈ lwg := lwg_pr (i := 32) (by decide +kernel) (by decide +kernel)
theorem se_yX7_start : Cond.selects RX7 yX7_start yX7_start ∈ lwg := lwg_pr (i := 33) (by decide +kernel) (by decide +kernel)
theorem se_yX7_addTrace : Cond.selects RX7 yX7_addTrace yX7_addTrace ∈ lwg := lwg_pr (i := 34) (by decide +kernel) (by decide +kernel)
theorem se_yX7_make : Cond.selects RX7 yX7_make yX7_make ∈ lwg := lwg_pr (i := 35) (by decide +kernel) (by decide +kernel)
theorem se_yX7_step : Cond.selects RX7 yX7_step yX7_step ∈ lwg := lwg_pr (i := 36) (by decide +kernel) (by decide +kernel)
theorem se_yX7_push : Cond.selects RX7 yX7_push yX7_push ∈ lwg := lwg_pr (i := 37) (by decide +kernel) (by decide +kernel)
theorem se_yX7_valOf : Cond.selects RX7 yX7_valOf yX7_valOf ∈ lwg := lwg_pr (i := 38) (by decide +kernel) (by decide +kernel)
theorem se_yX7_pop : Cond.selects RX7 yX7_pop yX7_pop ∈ lwg := lwg_pr (i := 39) (by decide +kernel) (by decide +kernel)
theorem se_yX7_join : Cond.selects RX7 yX7_join yX7_join ∈ lwg := lwg_pr (i := 40) (by decide +kernel) (by decide +kernel)
theorem se_yX7_divide : Cond.selects RX7 yX7_divide yX7_divide ∈ lwg := lwg_pr (i := 41) (by decide +kernel) (by decide +kernel)
theorem se_yX7_set : Cond.selects RX7 yX7_set yX7_set ∈ lwg := lwg_pr (i := 42) (by decide +kernel) (by decide +kernel)
theorem se_yX10_finish : Cond.selects RX10 yX10_finish yX10_finish ∈ lwg := lwg_pr (i := 43) (by decide +kernel) (by decide +kernel)
theorem se_yX10_takeInHand : Cond.selects RX10 yX10_takeInHand yX10_takeInHand ∈ lwg := lwg_pr (i := 44) (by decide +kernel) (by decide +kernel)
theorem se_yX10_isInHand : Cond.selects RX10 yX10_isInHand yX10_isInHand ∈ lwg := lwg_pr (i := 45) (by decide +kernel) (by decide +kernel)
theorem se_yX10_lookFor : Cond.selects RX10 yX10_lookFor yX10_lookFor ∈ lwg := lwg_pr (i := 46) (by decide +kernel) (by decide +kernel)
theorem se_yX11_readText : Cond.selects RX11 yX11_readText yX11_readText ∈ lwg := lwg_pr (i := 47) (by decide +kernel) (by decide +kernel)
theorem se_yX11_next : Cond.selects RX11 yX11_next yX11_next ∈ lwg := lwg_pr (i := 48) (by decide +kernel) (by decide +kernel)
theorem se_yX11_byteAt : Cond.selects RX11 yX11_byteAt yX11_byteAt ∈ lwg := lwg_pr (i := 49) (by decide +kernel) (by decide +kernel)
theorem se_yX11_wordAt : Cond.selects RX11 yX11_wordAt yX11_wordAt ∈ lwg := lwg_pr (i := 50) (by decide +kernel) (by decide +kernel)
theorem se_yX11_spells : Cond.selects RX11 yX11_spells yX11_spells ∈ lwg := lwg_pr (i := 51) (by decide +kernel) (by decide +kernel)
theorem se_yX11_isGood : Cond.selects RX11 yX11_isGood yX11_isGood ∈ lwg := lwg_pr (i := 52) (by decide +kernel) (by decide +kernel)
theorem se_yX11_stop : Cond.selects RX11 yX11_stop yX11_stop ∈ lwg := lwg_pr (i := 53) (by decide +kernel) (by decide +kernel)
theorem se_yX11_readEnum : Cond.selects RX11 yX11_readEnum yX11_readEnum ∈ lwg := lwg_pr (i := 54) (by decide +kernel) (by decide +kernel)
theorem se_yX11_need : Cond.selects RX11 yX11_need yX11_need ∈ lwg := lwg_pr (i := 55) (by decide +kernel) (by decide +kernel)
theorem se_yX11_isAt : Cond.selects RX11 yX11_isAt yX11_isAt ∈ lwg := lwg_pr (i := 56) (by decide +kernel) (by decide +kernel)
theorem se_yX11_readConst : Cond.selects RX11 yX11_readConst yX11_readConst ∈ lwg := lwg_pr (i := 57) (by decide +kernel) (by decide +kernel)
theorem se_yX11_readExp : Cond.selects RX11 yX11_readExp yX11_readExp ∈ lwg := lwg_pr (i := 58) (by decide +kernel) (by decide +kernel)
theorem se_yX11_readOne : Cond.selects RX11 yX11_readOne yX11_readOne ∈ lwg := lwg_pr (i := 59) (by decide +kernel) (by decide +kernel)
theorem se_yX11_emit : Cond.selects RX11 yX11_emit yX11_emit ∈ lwg := lwg_pr (i := 60) (by decide +kernel) (by decide +kernel)
theorem se_yX11_closeMinus : Cond.selects RX11 yX11_closeMinus yX11_closeMinus ∈ lwg := lwg_pr (i := 61) (by decide +kernel) (by decide +kernel)
theorem se_yX11_hasOpen : Cond.selects RX11 yX11_hasOpen yX11_hasOpen ∈ lwg := lwg_pr (i := 62) (by decide +kernel) (by decide +kernel)
theorem se_yX11_readMember : Cond.selects RX11 yX11_readMember yX11_readMember ∈ lwg := lwg_pr (i := 63) (by decide +kernel) (by decide +kernel)
theorem se_yX11_lookAtAll : Cond.selects RX11 yX11_lookAtAll yX11_lookAtAll ∈ lwg := lwg_pr (i := 64) (by decide +kernel) (by decide +kernel)
theorem se_yX11_lookAtEnum : Cond.selects RX11 yX11_lookAtEnum yX11_lookAtEnum ∈ lwg := lwg_pr (i := 65) (by decide +kernel) (by decide +kernel)
theorem se_yX11_enumOf : Cond.selects RX11 yX11_enumOf yX11_enumOf ∈ lwg := lwg_pr (i := 66) (by decide +kernel) (by decide +kernel)
theorem se_yX11_isSame : Cond.selects RX11 yX11_isSame yX11_isSame ∈ lwg := lwg_pr (i := 67) (by decide +kernel) (by decide +kernel)
theorem se_yX11_wrong : Cond.selects RX11 yX11_wrong yX11_wrong ∈ lwg := lwg_pr (i := 68) (by decide +kernel) (by decide +kernel)
theorem se_yX11_first : Cond.selects RX11 yX11_first yX11_first ∈ lwg := lwg_pr (i := 69) (by decide +kernel) (by decide +kernel)
theorem se_yX11_giveBy : Cond.selects RX11 yX11_giveBy yX11_giveBy ∈ lwg := lwg_pr (i := 70) (by decide +kernel) (by decide +kernel)
theorem se_yX11_memberOf : Cond.selects RX11 yX11_memberOf yX11_memberOf ∈ lwg := lwg_pr (i := 71) (by decide +kernel) (by decide +kernel)
theorem se_yX11_lookAtAct : Cond.selects RX11 yX11_lookAtAct yX11_lookAtAct ∈ lwg := lwg_pr (i := 72) (by decide +kernel) (by decide +kernel)
theorem se_yX11_fieldOf : Cond.selects RX11 yX11_fieldOf yX11_fieldOf ∈ lwg := lwg_pr (i := 73) (by decide +kernel) (by decide +kernel)
theorem se_yX11_constOf : Cond.selects RX11 yX11_constOf yX11_constOf ∈ lwg := lwg_pr (i := 74) (by decide +kernel) (by decide +kernel)
theorem se_yX11_isEnum : Cond.selects RX11 yX11_isEnum yX11_isEnum ∈ lwg := lwg_pr (i := 75) (by decide +kernel) (by decide +kernel)
theorem se_yX11_isConst : Cond.selects RX11 yX11_isConst yX11_isConst ∈ lwg := lwg_pr (i := 76) (by decide +kernel) (by decide +kernel)
theorem se_yX11_want : Cond.selects RX11 yX11_want yX11_want ∈ lwg := lwg_pr (i := 77) (by decide +kernel) (by decide +kernel)
theorem se_yX11_begin : Cond.selects RX11 yX11_begin yX11_begin ∈ lwg := lwg_pr (i := 78) (by decide +kernel) (by decide +kernel)
theorem se_yX11_note : Cond.selects RX11 yX11_note yX11_note ∈ lwg := lwg_pr (i := 79) (by decide +kernel) (by decide +kernel)
theorem se_yX11_pushFrame : Cond.selects RX11 yX11_pushFrame yX11_pushFrame ∈ lwg := lwg_pr (i := 80) (by decide +kernel) (by decide +kernel)
theorem se_yX11_work : Cond.selects RX11 yX11_work yX11_work ∈ lwg := lwg_pr (i := 81) (by decide +kernel) (by decide +kernel)
theorem se_yX11_goOn : Cond.selects RX11 yX11_goOn yX11_goOn ∈ lwg := lwg_pr (i := 82) (by decide +kernel) (by decide +kernel)
theorem se_yX11_made : Cond.selects RX11 yX11_made yX11_made ∈ lwg := lwg_pr (i := 83) (by decide +kernel) (by decide +kernel)
theorem se_yX11_doAct : Cond.selects RX11 yX11_doAct yX11_doAct ∈ lwg := lwg_pr (i := 84) (by decide +kernel) (by decide +kernel)
theorem se_yX11_push : Cond.selects RX11 yX11_push yX11_push ∈ lwg := lwg_pr (i := 85) (by decide +kernel) (by decide +kernel)
theorem se_yX11_fails : Cond.selects RX11 yX11_fails yX11_fails ∈ lwg := lwg_pr (i := 86) (by decide +kernel) (by decide +kernel)
theorem ly_X0_0 : u_lay RX0 TX0 0 ∈ lwg := lwg_tb (i := 291) (by decide +kernel) (by decide +kernel)
theorem ly_X0_1 : u_lay RX0 TX0 1 ∈ lwg := lwg_tb (i := 293) (by decide +kernel) (by decide +kernel)
theorem ly_X0_2 : u_lay RX0 TX0 2 ∈ lwg := lwg_tb (i := 295) (by decide +kernel) (by decide +kernel)
theorem ly_X0_3 : u_lay RX0 TX0 3 ∈ lwg := lwg_tb (i := 297) (by decide +kernel) (by decide +kernel)
theorem ly_X0_4 : u_lay RX0 TX0 4 ∈ lwg := lwg_tb (i := 299) (by decide +kernel) (by decide +kernel)
theorem iw_X0 : ∀ w ∈ wsX00, w ∈ lwg := by
  intro w hw
  obtain ⟨k, hk, rfl⟩ := List.mem_map.mp hw
  have hk := List.mem_range.mp hk
  match k, hk with
  | 0, _ => exact ly_X0_0
  | 1, _ => exact ly_X0_1
  | 2, _ => exact ly_X0_2
  | 3, _ => exact ly_X0_3
  | 4, _ => exact ly_X0_4
  | k + 5, hk => exact absurd hk (by omega)
theorem ly_X1_0 : u_lay RX1 TX1 0 ∈ lwg := lwg_tb (i := 91) (by decide +kernel) (by decide +kernel)
theorem ly_X1_1 : u_lay RX1 TX1 1 ∈ lwg := lwg_tb (i := 93) (by decide +kernel) (by decide +kernel)
theorem ly_X1_2 : u_lay RX1 TX1 2 ∈ lwg := lwg_tb (i := 95) (by decide +kernel) (by decide +kernel)
theorem ly_X1_3 : u_lay RX1 TX1 3 ∈ lwg := lwg_tb (i := 97) (by decide +kernel) (by decide +kernel)
theorem ly_X1_4 : u_lay RX1 TX1 4 ∈ lwg := lwg_tb (i := 99) (by decide +kernel) (by decide +kernel)
theorem ly_X1_5 : u_lay RX1 TX1 5 ∈ lwg := lwg_tb (i := 101) (by decide +kernel) (by decide +kernel)
theorem ly_X1_6 : u_lay RX1 TX1 6 ∈ lwg := lwg_tb (i := 103) (by decide +kernel) (by decide +kernel)
theorem ly_X1_7 : u_lay RX1 TX1 7 ∈ lwg := lwg_tb (i := 105) (by decide +kernel) (by decide +kernel)
theorem ly_X1_8 : u_lay RX1 TX1 8 ∈ lwg := lwg_tb (i := 107) (by decide +kernel) (by decide +kernel)
theorem ly_X1_9 : u_lay RX1 TX1 9 ∈ lwg := lwg_tb (i := 109) (by decide +kernel) (by decide +kernel)
theorem ly_X1_10 : u_lay RX1 TX1 10 ∈ lwg := lwg_tb (i := 111) (by decide +kernel) (by decide +kernel)
theorem ly_X1_11 : u_lay RX1 TX1 11 ∈ lwg := lwg_tb (i := 113) (by decide +kernel) (by decide +kernel)
theorem ly_X1_12 : u_lay RX1 TX1 12 ∈ lwg := lwg_tb (i := 115) (by decide +kernel) (by decide +kernel)
theorem ly_X1_13 : u_lay RX1 TX1 13 ∈ lwg := lwg_tb (i := 117) (by decide +kernel) (by decide +kernel)
theorem ly_X1_14 : u_lay RX1 TX1 14 ∈ lwg := lwg_tb (i := 119) (by decide +kernel) (by decide +kernel)
theorem ly_X1_15 : u_lay RX1 TX1 15 ∈ lwg := lwg_tb (i := 121) (by decide +kernel) (by decide +kernel)
theorem ly_X1_16 : u_lay RX1 TX1 16 ∈ lwg := lwg_tb (i := 123) (by decide +kernel) (by decide +kernel)
theorem ly_X1_17 : u_lay RX1 TX1 17 ∈ lwg := lwg_tb (i := 125) (by decide +kernel) (by decide +kernel)
theorem ly_X1_18 : u_lay RX1 TX1 18 ∈ lwg := lwg_tb (i := 127) (by decide +kernel) (by decide +kernel)
theorem iw_X1 : ∀ w ∈ wsX10, w ∈ lwg := by
  intro w hw
  obtain ⟨k, hk, rfl⟩ := List.mem_map.mp hw
  have hk := List.mem_range.mp hk
  match k, hk with
  | 0, _ => exact ly_X1_0
  | 1, _ => exact ly_X1_1
  | 2, _ => exact ly_X1_2
  | 3, _ => exact ly_X1_3
  | 4, _ => exact ly_X1_4
  | 5, _ => exact ly_X1_5
  | 6, _ => exact ly_X1_6
  | 7, _ => exact ly_X1_7
  | 8, _ => exact ly_X1_8
  | 9, _ => exact ly_X1_9
  | 10, _ => exact ly_X1_10
  | 11, _ => exact ly_X1_11
  | 12, _ => exact ly_X1_12
  | 13, _ => exact ly_X1_13
  | 14, _ => exact ly_X1_14
  | 15, _ => exact ly_X1_15
  | 16, _ => exact ly_X1_16
  | 17, _ => exact ly_X1_17
  | 18, _ => exact ly_X1_18
  | k + 19, hk => exact absurd hk (by omega)
theorem ly_X2_0 : u_lay RX2 TX2 0 ∈ lwg := lwg_tb (i := 245) (by decide +kernel) (by decide +kernel)
theorem ly_X2_1 : u_lay RX2 TX2 1 ∈ lwg := lwg_tb (i := 247) (by decide +kernel) (by decide +kernel)
theorem ly_X2_2 : u_lay RX2 TX2 2 ∈ lwg := lwg_tb (i := 249) (by decide +kernel) (by decide +kernel)
theorem ly_X2_3 : u_lay RX2 TX2 3 ∈ lwg := lwg_tb (i := 251) (by decide +kernel) (by decide +kernel)
theorem ly_X2_4 : u_lay RX2 TX2 4 ∈ lwg := lwg_tb (i := 253) (by decide +kernel) (by decide +kernel)
theorem ly_X2_5 : u_lay RX2 TX2 5 ∈ lwg := lwg_tb (i := 255) (by decide +kernel) (by decide +kernel)
theorem ly_X2_6 : u_lay RX2 TX2 6 ∈ lwg := lwg_tb (i := 257) (by decide +kernel) (by decide +kernel)
theorem ly_X2_7 : u_lay RX2 TX2 7 ∈ lwg := lwg_tb (i := 259) (by decide +kernel) (by decide +kernel)
theorem ly_X2_8 : u_lay RX2 TX2 8 ∈ lwg := lwg_tb (i := 261) (by decide +kernel) (by decide +kernel)
theorem iw_X2 : ∀ w ∈ wsX20, w ∈ lwg := by
  intro w hw
  obtain ⟨k, hk, rfl⟩ := List.mem_map.mp hw
  have hk := List.mem_range.mp hk
  match k, hk with
  | 0, _ => exact ly_X2_0
  | 1, _ => exact ly_X2_1
  | 2, _ => exact ly_X2_2
  | 3, _ => exact ly_X2_3
  | 4, _ => exact ly_X2_4
  | 5, _ => exact ly_X2_5
  | 6, _ => exact ly_X2_6
  | 7, _ => exact ly_X2_7
  | 8, _ => exact ly_X2_8
  | k + 9, hk => exact absurd hk (by omega)
theorem ly_X3_0 : u_lay RX3 TX3 0 ∈ lwg := lwg_tb (i := 188) (by decide +kernel) (by decide +kernel)
theorem ly_X3_1 : u_lay RX3 TX3 1 ∈ lwg := lwg_tb (i := 190) (by decide +kernel) (by decide +kernel)
theorem iw_X3 : ∀ w ∈ wsX30, w ∈ lwg := by
  intro w hw
  obtain ⟨k, hk, rfl⟩ := List.mem_map.mp hw
  have hk := List.mem_range.mp hk
  match k, hk with
  | 0, _ => exact ly_X3_0
  | 1, _ => exact ly_X3_1
  | k + 2, hk => exact absurd hk (by omega)
theorem ly_X5_0 : u_lay RX5 TX5 0 ∈ lwg := lwg_tb (i := 269) (by decide +kernel) (by decide +kernel)
theorem ly_X5_1 : u_lay RX5 TX5 1 ∈ lwg := lwg_tb (i := 271) (by decide +kernel) (by decide +kernel)
theorem ly_X5_2 : u_lay RX5 TX5 2 ∈ lwg := lwg_tb (i := 273) (by decide +kernel) (by decide +kernel)
theorem ly_X5_3 : u_lay RX5 TX5 3 ∈ lwg := lwg_tb (i := 275) (by decide +kernel) (by decide +kernel)
theorem ly_X5_4 : u_lay RX5 TX5 4 ∈ lwg := lwg_tb (i := 277) (by decide +kernel) (by decide +kernel)
theorem iw_X5 : ∀ w ∈ wsX50, w ∈ lwg := by
  intro w hw
  obtain ⟨k, hk, rfl⟩ := List.mem_map.mp hw
  have hk := List.mem_range.mp hk
  match k, hk with
  | 0, _ => exact ly_X5_0
  | 1, _ => exact ly_X5_1
  | 2, _ => exact ly_X5_2
  | 3, _ => exact ly_X5_3
  | 4, _ => exact ly_X5_4
  | k + 5, hk => exact absurd hk (by omega)
theorem ly_X6_0 : u_lay RX6 TX6 0 ∈ lwg := lwg_tb (i := 149) (by decide +kernel) (by decide +kernel)
theorem ly_X6_1 : u_lay RX6 TX6 1 ∈ lwg := lwg_tb (i := 151) (by decide +kernel) (by decide +kernel)
theorem ly_X6_2 : u_lay RX6 TX6 2 ∈ lwg := lwg_tb (i := 153) (by decide +kernel) (by decide +kernel)
theorem ly_X6_3 : u_lay RX6 TX6 3 ∈ lwg := lwg_tb (i := 155) (by decide +kernel) (by decide +kernel)
theorem ly_X6_4 : u_lay RX6 TX6 4 ∈ lwg := lwg_tb (i := 157) (by decide +kernel) (by decide +kernel)
theorem ly_X6_5 : u_lay RX6 TX6 5 ∈ lwg := lwg_tb (i := 159) (by decide +kernel) (by decide +kernel)
theorem iw_X6 : ∀ w ∈ wsX60, w ∈ lwg := by
  intro w hw
  obtain ⟨k, hk, rfl⟩ := List.mem_map.mp hw
  have hk := List.mem_range.mp hk
  match k, hk with
  | 0, _ => exact ly_X6_0
  | 1, _ => exact ly_X6_1
  | 2, _ => exact ly_X6_2
  | 3, _ => exact ly_X6_3
  | 4, _ => exact ly_X6_4
  | 5, _ => exact ly_X6_5
  | k + 6, hk => exact absurd hk (by omega)
theorem ly_X7_0 : u_lay RX7 TX7 0 ∈ lwg := lwg_tb (i := 317) (by decide +kernel) (by decide +kernel)
theorem ly_X7_1 : u_lay RX7 TX7 1 ∈ lwg := lwg_tb (i := 319) (by decide +kernel) (by decide +kernel)
theorem ly_X7_2 : u_lay RX7 TX7 2 ∈ lwg := lwg_tb (i := 321) (by decide +kernel) (by decide +kernel)
theorem ly_X7_3 : u_lay RX7 TX7 3 ∈ lwg := lwg_tb (i := 323) (by decide +kernel) (by decide +kernel)
theorem ly_X7_4 : u_lay RX7 TX7 4 ∈ lwg := lwg_tb (i := 325) (by decide +kernel) (by decide +kernel)
theorem ly_X7_5 : u_lay RX7 TX7 5 ∈ lwg := lwg_tb (i := 327) (by decide +kernel) (by decide +kernel)
theorem iw_X7 : ∀ w ∈ wsX70, w ∈ lwg := by
  intro w hw
  obtain ⟨k, hk, rfl⟩ := List.mem_map.mp hw
  have hk := List.mem_range.mp hk
  match k, hk with
  | 0, _ => exact ly_X7_0
  | 1, _ => exact ly_X7_1
  | 2, _ => exact ly_X7_2
  | 3, _ => exact ly_X7_3
  | 4, _ => exact ly_X7_4
  | 5, _ => exact ly_X7_5
  | k + 6, hk => exact absurd hk (by omega)
theorem ly_X8_0 : u_lay RX8 TX8 0 ∈ lwg := lwg_tb (i := 172) (by decide +kernel) (by decide +kernel)
theorem ly_X8_1 : u_lay RX8 TX8 1 ∈ lwg := lwg_tb (i := 174) (by decide +kernel) (by decide +kernel)
theorem iw_X8 : ∀ w ∈ wsX80, w ∈ lwg := by
  intro w hw
  obtain ⟨k, hk, rfl⟩ := List.mem_map.mp hw
  have hk := List.mem_range.mp hk
  match k, hk with
  | 0, _ => exact ly_X8_0
  | 1, _ => exact ly_X8_1
  | k + 2, hk => exact absurd hk (by omega)
theorem ly_X9_0 : u_lay RX9 TX9 0 ∈ lwg := lwg_tb (i := 217) (by decide +kernel) (by decide +kernel)
theorem ly_X9_1 : u_lay RX9 TX9 1 ∈ lwg := lwg_tb (i := 219) (by decide +kernel) (by decide +kernel)
theorem ly_X9_2 : u_lay RX9 TX9 2 ∈ lwg := lwg_tb (i := 221) (by decide +kernel) (by decide +kernel)
theorem ly_X9_3 : u_lay RX9 TX9 3 ∈ lwg := lwg_tb (i := 223) (by decide +kernel) (by decide +kernel)
theorem ly_X9_4 : u_lay RX9 TX9 4 ∈ lwg := lwg_tb (i := 225) (by decide +kernel) (by decide +kernel)
theorem ly_X9_5 : u_lay RX9 TX9 5 ∈ lwg := lwg_tb (i := 227) (by decide +kernel) (by decide +kernel)
theorem iw_X9 : ∀ w ∈ wsX90, w ∈ lwg := by
  intro w hw
  obtain ⟨k, hk, rfl⟩ := List.mem_map.mp hw
  have hk := List.mem_range.mp hk
  match k, hk with
  | 0, _ => exact ly_X9_0
  | 1, _ => exact ly_X9_1
  | 2, _ => exact ly_X9_2
  | 3, _ => exact ly_X9_3
  | 4, _ => exact ly_X9_4
  | 5, _ => exact ly_X9_5
  | k + 6, hk => exact absurd hk (by omega)
theorem ly_X10_0 : u_lay RX10 TX10 0 ∈ lwg := lwg_tb (i := 346) (by decide +kernel) (by decide +kernel)
theorem ly_X10_1 : u_lay RX10 TX10 1 ∈ lwg := lwg_tb (i := 348) (by decide +kernel) (by decide +kernel)
theorem ly_X10_2 : u_lay RX10 TX10 2 ∈ lwg := lwg_tb (i := 350) (by decide +kernel) (by decide +kernel)
theorem ly_X10_3 : u_lay RX10 TX10 3 ∈ lwg := lwg_tb (i := 352) (by decide +kernel) (by decide +kernel)
theorem ly_X10_4 : u_lay RX10 TX10 4 ∈ lwg := lwg_tb (i := 354) (by decide +kernel) (by decide +kernel)
theorem ly_X10_5 : u_lay RX10 TX10 5 ∈ lwg := lwg_tb (i := 356) (by decide +kernel) (by decide +kernel)
theorem ly_X10_6 : u_lay RX10 TX10 6 ∈ lwg := lwg_tb (i := 358) (by decide +kernel) (by decide +kernel)
theorem ly_X10_7 : u_lay RX10 TX10 7 ∈ lwg := lwg_tb (i := 360) (by decide +kernel) (by decide +kernel)
theorem ly_X10_8 : u_lay RX10 TX10 8 ∈ lwg := lwg_tb (i := 362) (by decide +kernel) (by decide +kernel)
theorem ly_X10_9 : u_lay RX10 TX10 9 ∈ lwg := lwg_tb (i := 364) (by decide +kernel) (by decide +kernel)
theorem ly_X10_10 : u_lay RX10 TX10 10 ∈ lwg := lwg_tb (i := 366) (by decide +kernel) (by decide +kernel)
theorem ly_X10_11 : u_lay RX10 TX10 11 ∈ lwg := lwg_tb (i := 368) (by decide +kernel) (by decide +kernel)
theorem iw_X10 : ∀ w ∈ wsX100, w ∈ lwg := by
  intro w hw
  obtain ⟨k, hk, rfl⟩ := List.mem_map.mp hw
  have hk := List.mem_range.mp hk
  match k, hk with
  | 0, _ => exact ly_X10_0
  | 1, _ => exact ly_X10_1
  | 2, _ => exact ly_X10_2
  | 3, _ => exact ly_X10_3
  | 4, _ => exact ly_X10_4
  | 5, _ => exact ly_X10_5
  | 6, _ => exact ly_X10_6
  | 7, _ => exact ly_X10_7
  | 8, _ => exact ly_X10_8
  | 9, _ => exact ly_X10_9
  | 10, _ => exact ly_X10_10
  | 11, _ => exact ly_X10_11
  | k + 12, hk => exact absurd hk (by omega)
theorem ly_X11_0 : u_lay RX11 TX11 0 ∈ lwg := lwg_tb (i := 1032) (by decide +kernel) (by decide +kernel)
theorem ly_X11_1 : u_lay RX11 TX11 1 ∈ lwg := lwg_tb (i := 1034) (by decide +kernel) (by decide +kernel)
theorem ly_X11_2 : u_lay RX11 TX11 2 ∈ lwg := lwg_tb (i := 1036) (by decide +kernel) (by decide +kernel)
theorem ly_X11_3 : u_lay RX11 TX11 3 ∈ lwg := lwg_tb (i := 1038) (by decide +kernel) (by decide +kernel)
theorem ly_X11_4 : u_lay RX11 TX11 4 ∈ lwg := lwg_tb (i := 1040) (by decide +kernel) (by decide +kernel)
theorem ly_X11_5 : u_lay RX11 TX11 5 ∈ lwg := lwg_tb (i := 1042) (by decide +kernel) (by decide +kernel)
theorem ly_X11_6 : u_lay RX11 TX11 6 ∈ lwg := lwg_tb (i := 1044) (by decide +kernel) (by decide +kernel)
theorem ly_X11_7 : u_lay RX11 TX11 7 ∈ lwg := lwg_tb (i := 1046) (by decide +kernel) (by decide +kernel)
theorem ly_X11_8 : u_lay RX11 TX11 8 ∈ lwg := lwg_tb (i := 1048) (by decide +kernel) (by decide +kernel)
theorem ly_X11_9 : u_lay RX11 TX11 9 ∈ lwg := lwg_tb (i := 1050) (by decide +kernel) (by decide +kernel)
theorem ly_X11_10 : u_lay RX11 TX11 10 ∈ lwg := lwg_tb (i := 1052) (by decide +kernel) (by decide +kernel)
theorem ly_X11_11 : u_lay RX11 TX11 11 ∈ lwg := lwg_tb (i := 1054) (by decide +kernel) (by decide +kernel)
theorem ly_X11_12 : u_lay RX11 TX11 12 ∈ lwg := lwg_tb (i := 1056) (by decide +kernel) (by decide +kernel)
theorem ly_X11_13 : u_lay RX11 TX11 13 ∈ lwg := lwg_tb (i := 1058) (by decide +kernel) (by decide +kernel)
theorem ly_X11_14 : u_lay RX11 TX11 14 ∈ lwg := lwg_tb (i := 1060) (by decide +kernel) (by decide +kernel)
theorem ly_X11_15 : u_lay RX11 TX11 15 ∈ lwg := lwg_tb (i := 1062) (by decide +kernel) (by decide +kernel)
theorem ly_X11_16 : u_lay RX11 TX11 16 ∈ lwg := lwg_tb (i := 1064) (by decide +kernel) (by decide +kernel)
theorem ly_X11_17 : u_lay RX11 TX11 17 ∈ lwg := lwg_tb (i := 1066) (by decide +kernel) (by decide +kernel)
theorem ly_X11_18 : u_lay RX11 TX11 18 ∈ lwg := lwg_tb (i := 1068) (by decide +kernel) (by decide +kernel)
theorem ly_X11_19 : u_lay RX11 TX11 19 ∈ lwg := lwg_tb (i := 1070) (by decide +kernel) (by decide +kernel)
theorem ly_X11_20 : u_lay RX11 TX11 20 ∈ lwg := lwg_tb (i := 1072) (by decide +kernel) (by decide +kernel)
theorem ly_X11_21 : u_lay RX11 TX11 21 ∈ lwg := lwg_tb (i := 1074) (by decide +kernel) (by decide +kernel)
theorem ly_X11_22 : u_lay RX11 TX11 22 ∈ lwg := lwg_tb (i := 1076) (by decide +kernel) (by decide +kernel)
theorem ly_X11_23 : u_lay RX11 TX11 23 ∈ lwg := lwg_tb (i := 1078) (by decide +kernel) (by decide +kernel)
theorem ly_X11_24 : u_lay RX11 TX11 24 ∈ lwg := lwg_tb (i := 1080) (by decide +kernel) (by decide +kernel)
theorem ly_X11_25 : u_lay RX11 TX11 25 ∈ lwg := lwg_tb (i := 1082) (by decide +kernel) (by decide +kernel)
theorem ly_X11_26 : u_lay RX11 TX11 26 ∈ lwg := lwg_tb (i := 1084) (by decide +kernel) (by decide +kernel)
theorem ly_X11_27 : u_lay RX11 TX11 27 ∈ lwg := lwg_tb (i := 1086) (by decide +kernel) (by decide +kernel)
theorem ly_X11_28 : u_lay RX11 TX11 28 ∈ lwg := lwg_tb (i := 1088) (by decide +kernel) (by decide +kernel)
theorem ly_X11_29 : u_lay RX11 TX11 29 ∈ lwg := lwg_tb (i := 1090) (by decide +kernel) (by decide +kernel)
theorem ly_X11_30 : u_lay RX11 TX11 30 ∈ lwg := lwg_tb (i := 1092) (by decide +kernel) (by decide +kernel)
theorem ly_X11_31 : u_lay RX11 TX11 31 ∈ lwg := lwg_tb (i := 1094) (by decide +kernel) (by decide +kernel)
theorem ly_X11_32 : u_lay RX11 TX11 32 ∈ lwg := lwg_tb (i := 1096) (by decide +kernel) (by decide +kernel)
theorem ly_X11_33 : u_lay RX11 TX11 33 ∈ lwg := lwg_tb (i := 1098) (by decide +kernel) (by decide +kernel)
theorem ly_X11_34 : u_lay RX11 TX11 34 ∈ lwg := lwg_tb (i := 1100) (by decide +kernel) (by decide +kernel)
theorem ly_X11_35 : u_lay RX11 TX11 35 ∈ lwg := lwg_tb (i := 1102) (by decide +kernel) (by decide +kernel)
theorem ly_X11_36 : u_lay RX11 TX11 36 ∈ lwg := lwg_tb (i := 1104) (by decide +kernel) (by decide +kernel)
theorem ly_X11_37 : u_lay RX11 TX11 37 ∈ lwg := lwg_tb (i := 1106) (by decide +kernel) (by decide +kernel)
theorem ly_X11_38 : u_lay RX11 TX11 38 ∈ lwg := lwg_tb (i := 1108) (by decide +kernel) (by decide +kernel)
theorem ly_X11_39 : u_lay RX11 TX11 39 ∈ lwg := lwg_tb (i := 1110) (by decide +kernel) (by decide +kernel)
theorem ly_X11_40 : u_lay RX11 TX11 40 ∈ lwg := lwg_tb (i := 1112) (by decide +kernel) (by decide +kernel)
theorem ly_X11_41 : u_lay RX11 TX11 41 ∈ lwg := lwg_tb (i := 1114) (by decide +kernel) (by decide +kernel)
theorem ly_X11_42 : u_lay RX11 TX11 42 ∈ lwg := lwg_tb (i := 1116) (by decide +kernel) (by decide +kernel)
theorem ly_X11_43 : u_lay RX11 TX11 43 ∈ lwg := lwg_tb (i := 1118) (by decide +kernel) (by decide +kernel)
theorem ly_X11_44 : u_lay RX11 TX11 44 ∈ lwg := lwg_tb (i := 1120) (by decide +kernel) (by decide +kernel)
theorem ly_X11_45 : u_lay RX11 TX11 45 ∈ lwg := lwg_tb (i := 1122) (by decide +kernel) (by decide +kernel)
theorem ly_X11_46 : u_lay RX11 TX11 46 ∈ lwg := lwg_tb (i := 1124) (by decide +kernel) (by decide +kernel)
theorem ly_X11_47 : u_lay RX11 TX11 47 ∈ lwg := lwg_tb (i := 1126) (by decide +kernel) (by decide +kernel)
theorem ly_X11_48 : u_lay RX11 TX11 48 ∈ lwg := lwg_tb (i := 1128) (by decide +kernel) (by decide +kernel)
theorem ly_X11_49 : u_lay RX11 TX11 49 ∈ lwg := lwg_tb (i := 1130) (by decide +kernel) (by decide +kernel)
theorem ly_X11_50 : u_lay RX11 TX11 50 ∈ lwg := lwg_tb (i := 1132) (by decide +kernel) (by decide +kernel)
theorem ly_X11_51 : u_lay RX11 TX11 51 ∈ lwg := lwg_tb (i := 1134) (by decide +kernel) (by decide +kernel)
theorem ly_X11_52 : u_lay RX11 TX11 52 ∈ lwg := lwg_tb (i := 1136) (by decide +kernel) (by decide +kernel)
theorem ly_X11_53 : u_lay RX11 TX11 53 ∈ lwg := lwg_tb (i := 1138) (by decide +kernel) (by decide +kernel)
theorem ly_X11_54 : u_lay RX11 TX11 54 ∈ lwg := lwg_tb (i := 1140) (by decide +kernel) (by decide +kernel)
theorem ly_X11_55 : u_lay RX11 TX11 55 ∈ lwg := lwg_tb (i := 1142) (by decide +kernel) (by decide +kernel)
theorem ly_X11_56 : u_lay RX11 TX11 56 ∈ lwg := lwg_tb (i := 1144) (by decide +kernel) (by decide +kernel)
theorem ly_X11_57 : u_lay RX11 TX11 57 ∈ lwg := lwg_tb (i := 1146) (by decide +kernel) (by decide +kernel)
theorem ly_X11_58 : u_lay RX11 TX11 58 ∈ lwg := lwg_tb (i := 1148) (by decide +kernel) (by decide +kernel)
theorem ly_X11_59 : u_lay RX11 TX11 59 ∈ lwg := lwg_tb (i := 1150) (by decide +kernel) (by decide +kernel)
theorem ly_X11_60 : u_lay RX11 TX11 60 ∈ lwg := lwg_tb (i := 1152) (by decide +kernel) (by decide +kernel)
theorem ly_X11_61 : u_lay RX11 TX11 61 ∈ lwg := lwg_tb (i := 1154) (by decide +kernel) (by decide +kernel)
theorem ly_X11_62 : u_lay RX11 TX11 62 ∈ lwg := lwg_tb (i := 1156) (by decide +kernel) (by decide +kernel)
theorem ly_X11_63 : u_lay RX11 TX11 63 ∈ lwg := lwg_tb (i := 1158) (by decide +kernel) (by decide +kernel)
theorem ly_X11_64 : u_lay RX11 TX11 64 ∈ lwg := lwg_tb (i := 1160) (by decide +kernel) (by decide +kernel)
theorem ly_X11_65 : u_lay RX11 TX11 65 ∈ lwg := lwg_tb (i := 1162) (by decide +kernel) (by decide +kernel)
theorem ly_X11_66 : u_lay RX11 TX11 66 ∈ lwg := lwg_tb (i := 1164) (by decide +kernel) (by decide +kernel)
theorem ly_X11_67 : u_lay RX11 TX11 67 ∈ lwg := lwg_tb (i := 1166) (by decide +kernel) (by decide +kernel)
theorem ly_X11_68 : u_lay RX11 TX11 68 ∈ lwg := lwg_tb (i := 1168) (by decide +kernel) (by decide +kernel)
theorem ly_X11_69 : u_lay RX11 TX11 69 ∈ lwg := lwg_tb (i := 1170) (by decide +kernel) (by decide +kernel)
theorem ly_X11_70 : u_lay RX11 TX11 70 ∈ lwg := lwg_tb (i := 1172) (by decide +kernel) (by decide +kernel)
theorem ly_X11_71 : u_lay RX11 TX11 71 ∈ lwg := lwg_tb (i := 1174) (by decide +kernel) (by decide +kernel)
theorem ly_X11_72 : u_lay RX11 TX11 72 ∈ lwg := lwg_tb (i := 1176) (by decide +kernel) (by decide +kernel)
theorem ly_X11_73 : u_lay RX11 TX11 73 ∈ lwg := lwg_tb (i := 1178) (by decide +kernel) (by decide +kernel)
theorem iw_X11 : ∀ w ∈ wsX110, w ∈ lwg := by
  intro w hw
  obtain ⟨k, hk, rfl⟩ := List.mem_map.mp hw
  have hk := List.mem_range.mp hk
  match k, hk with
  | 0, _ => exact ly_X11_0
  | 1, _ => exact ly_X11_1
  | 2, _ => exact ly_X11_2
  | 3, _ => exact ly_X11_3
  | 4, _ => exact ly_X11_4
  | 5, _ => exact ly_X11_5
  | 6, _ => exact ly_X11_6
  | 7, _ => exact ly_X11_7
  | 8, _ => exact ly_X11_8
  | 9, _ => exact ly_X11_9
  | 10, _ => exact ly_X11_10
  | 11, _ => exact ly_X11_11
  | 12, _ => exact ly_X11_12
  | 13, _ => exact ly_X11_13
  | 14, _ => exact ly_X11_14
  | 15, _ => exact ly_X11_15
  | 16, _ => exact ly_X11_16
  | 17, _ => exact ly_X11_17
  | 18, _ => exact ly_X11_18
  | 19, _ => exact ly_X11_19
  | 20, _ => exact ly_X11_20
  | 21, _ => exact ly_X11_21
  | 22, _ => exact ly_X11_22
  | 23, _ => exact ly_X11_23
  | 24, _ => exact ly_X11_24
  | 25, _ => exact ly_X11_25
  | 26, _ => exact ly_X11_26
  | 27, _ => exact ly_X11_27
  | 28, _ => exact ly_X11_28
  | 29, _ => exact ly_X11_29
  | 30, _ => exact ly_X11_30
  | 31, _ => exact ly_X11_31
  | 32, _ => exact ly_X11_32
  | 33, _ => exact ly_X11_33
  | 34, _ => exact ly_X11_34
  | 35, _ => exact ly_X11_35
  | 36, _ => exact ly_X11_36
  | 37, _ => exact ly_X11_37
  | 38, _ => exact ly_X11_38
  | 39, _ => exact ly_X11_39
  | 40, _ => exact ly_X11_40
  | 41, _ => exact ly_X11_41
  | 42, _ => exact ly_X11_42
  | 43, _ => exact ly_X11_43
  | 44, _ => exact ly_X11_44
  | 45, _ => exact ly_X11_45
  | 46, _ => exact ly_X11_46
  | 47, _ => exact ly_X11_47
  | 48, _ => exact ly_X11_48
  | 49, _ => exact ly_X11_49
  | 50, _ => exact ly_X11_50
  | 51, _ => exact ly_X11_51
  | 52, _ => exact ly_X11_52
  | 53, _ => exact ly_X11_53
  | 54, _ => exact ly_X11_54
  | 55, _ => exact ly_X11_55
  | 56, _ => exact ly_X11_56
  | 57, _ => exact ly_X11_57
  | 58, _ => exact ly_X11_58
  | 59, _ => exact ly_X11_59
  | 60, _ => exact ly_X11_60
  | 61, _ => exact ly_X11_61
  | 62, _ => exact ly_X11_62
  | 63, _ => exact ly_X11_63
  | 64, _ => exact ly_X11_64
  | 65, _ => exact ly_X11_65
  | 66, _ => exact ly_X11_66
  | 67, _ => exact ly_X11_67
  | 68, _ => exact ly_X11_68
  | 69, _ => exact ly_X11_69
  | 70, _ => exact ly_X11_70
  | 71, _ => exact ly_X11_71
  | 72, _ => exact ly_X11_72
  | 73, _ => exact ly_X11_73
  | k + 74, hk => exact absurd hk (by omega)
