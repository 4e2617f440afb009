theorem dX9_add_0 : decode cX9_add 0 = .ok (.aload_n 0, 1) := by decide +kernel
theorem dX9_add_1 : decode cX9_add 1 = .ok (.getfield 15, 3) := by decide +kernel
theorem dX9_add_4 : decode cX9_add 4 = .ok (.aload_n 0, 1) := by decide +kernel
theorem dX9_add_5 : decode cX9_add 5 = .ok (.getfield 9, 3) := by decide +kernel
theorem dX9_add_8 : decode cX9_add 8 = .ok (.arraylength, 1) := by decide +kernel
theorem dX9_add_9 : decode cX9_add 9 = .ok (.if_icmp .ge 38, 3) := by decide +kernel
theorem dX9_add_12 : decode cX9_add 12 = .ok (.aload_n 0, 1) := by decide +kernel
theorem dX9_add_13 : decode cX9_add 13 = .ok (.getfield 9, 3) := by decide +kernel
theorem dX9_add_16 : decode cX9_add 16 = .ok (.aload_n 0, 1) := by decide +kernel
theorem dX9_add_17 : decode cX9_add 17 = .ok (.getfield 15, 3) := by decide +kernel
theorem dX9_add_20 : decode cX9_add 20 = .ok (.iload_n 3, 1) := by decide +kernel
theorem dX9_add_21 : decode cX9_add 21 = .ok (.i2l, 1) := by decide +kernel
theorem dX9_add_22 : decode cX9_add 22 = .ok (.ldc2_w 92, 3) := by decide +kernel
theorem dX9_add_25 : decode cX9_add 25 = .ok (.lmul, 1) := by decide +kernel
theorem dX9_add_26 : decode cX9_add 26 = .ok (.iload_n 2, 1) := by decide +kernel
theorem dX9_add_27 : decode cX9_add 27 = .ok (.i2l, 1) := by decide +kernel
theorem dX9_add_28 : decode cX9_add 28 = .ok (.ladd, 1) := by decide +kernel
theorem dX9_add_29 : decode cX9_add 29 = .ok (.ldc2_w 94, 3) := by decide +kernel
theorem dX9_add_32 : decode cX9_add 32 = .ok (.lmul, 1) := by decide +kernel
theorem dX9_add_33 : decode cX9_add 33 = .ok (.iload_n 1, 1) := by decide +kernel
theorem dX9_add_34 : decode cX9_add 34 = .ok (.i2l, 1) := by decide +kernel
theorem dX9_add_35 : decode cX9_add 35 = .ok (.ladd, 1) := by decide +kernel
theorem dX9_add_36 : decode cX9_add 36 = .ok (.lastore, 1) := by decide +kernel
theorem dX9_add_37 : decode cX9_add 37 = .ok (.aload_n 0, 1) := by decide +kernel
theorem dX9_add_38 : decode cX9_add 38 = .ok (.dup, 1) := by decide +kernel
theorem dX9_add_39 : decode cX9_add 39 = .ok (.getfield 15, 3) := by decide +kernel
theorem dX9_add_42 : decode cX9_add 42 = .ok (.iconst 1, 1) := by decide +kernel
theorem dX9_add_43 : decode cX9_add 43 = .ok (.iadd, 1) := by decide +kernel
theorem dX9_add_44 : decode cX9_add 44 = .ok (.putfield 15, 3) := by decide +kernel
theorem dX9_add_47 : decode cX9_add 47 = .ok (.return_, 1) := by decide +kernel
theorem dX9_advance_0 : decode cX9_advance 0 = .ok (.aload_n 0, 1) := by decide +kernel
theorem dX9_advance_1 : decode cX9_advance 1 = .ok (.dup, 1) := by decide +kernel
theorem dX9_advance_2 : decode cX9_advance 2 = .ok (.getfield 32, 3) := by decide +kernel
theorem dX9_advance_5 : decode cX9_advance 5 = .ok (.iconst 1, 1) := by decide +kernel
theorem dX9_advance_6 : decode cX9_advance 6 = .ok (.iadd, 1) := by decide +kernel
theorem dX9_advance_7 : decode cX9_advance 7 = .ok (.putfield 32, 3) := by decide +kernel
theorem dX9_advance_10 : decode cX9_advance 10 = .ok (.aload_n 0, 1) := by decide +kernel
theorem dX9_advance_11 : decode cX9_advance 11 = .ok (.getfield 32, 3) := by decide +kernel
theorem dX9_advance_14 : decode cX9_advance 14 = .ok (.ifCond .lt 74, 3) := by decide +kernel
theorem dX9_advance_17 : decode cX9_advance 17 = .ok (.aload_n 0, 1) := by decide +kernel
theorem dX9_advance_18 : decode cX9_advance 18 = .ok (.getfield 32, 3) := by decide +kernel
theorem dX9_advance_21 : decode cX9_advance 21 = .ok (.aload_n 0, 1) := by decide +kernel
theorem dX9_advance_22 : decode cX9_advance 22 = .ok (.getfield 15, 3) := by decide +kernel
theorem dX9_advance_25 : decode cX9_advance 25 = .ok (.if_icmp .ge 63, 3) := by decide +kernel
theorem dX9_advance_28 : decode cX9_advance 28 = .ok (.aload_n 0, 1) := by decide +kernel
theorem dX9_advance_29 : decode cX9_advance 29 = .ok (.getfield 32, 3) := by decide +kernel
theorem dX9_advance_32 : decode cX9_advance 32 = .ok (.aload_n 0, 1) := by decide +kernel
theorem dX9_advance_33 : decode cX9_advance 33 = .ok (.getfield 9, 3) := by decide +kernel
theorem dX9_advance_36 : decode cX9_advance 36 = .ok (.arraylength, 1) := by decide +kernel
theorem dX9_advance_37 : decode cX9_advance 37 = .ok (.if_icmp .ge 51, 3) := by decide +kernel
theorem dX9_advance_40 : decode cX9_advance 40 = .ok (.aload_n 0, 1) := by decide +kernel
theorem dX9_advance_41 : decode cX9_advance 41 = .ok (.getfield 9, 3) := by decide +kernel
theorem dX9_advance_44 : decode cX9_advance 44 = .ok (.aload_n 0, 1) := by decide +kernel
theorem dX9_advance_45 : decode cX9_advance 45 = .ok (.getfield 32, 3) := by decide +kernel
theorem dX9_advance_48 : decode cX9_advance 48 = .ok (.laload, 1) := by decide +kernel
theorem dX9_advance_49 : decode cX9_advance 49 = .ok (.lstore_n 1, 1) := by decide +kernel
theorem dX9_advance_50 : decode cX9_advance 50 = .ok (.aload_n 0, 1) := by decide +kernel
theorem dX9_advance_51 : decode cX9_advance 51 = .ok (.lload_n 1, 1) := by decide +kernel
theorem dX9_advance_52 : decode cX9_advance 52 = .ok (.ldc2_w 94, 3) := by decide +kernel
theorem dX9_advance_55 : decode cX9_advance 55 = .ok (.lrem, 1) := by decide +kernel
theorem dX9_advance_56 : decode cX9_advance 56 = .ok (.l2i, 1) := by decide +kernel
theorem dX9_advance_57 : decode cX9_advance 57 = .ok (.putfield 96, 3) := by decide +kernel
theorem dX9_advance_60 : decode cX9_advance 60 = .ok (.aload_n 0, 1) := by decide +kernel
theorem dX9_advance_61 : decode cX9_advance 61 = .ok (.lload_n 1, 1) := by decide +kernel
theorem dX9_advance_62 : decode cX9_advance 62 = .ok (.ldc2_w 94, 3) := by decide +kernel
theorem dX9_advance_65 : decode cX9_advance 65 = .ok (.ldiv, 1) := by decide +kernel
theorem dX9_advance_66 : decode cX9_advance 66 = .ok (.ldc2_w 92, 3) := by decide +kernel
theorem dX9_advance_69 : decode cX9_advance 69 = .ok (.lrem, 1) := by decide +kernel
theorem dX9_advance_70 : decode cX9_advance 70 = .ok (.l2i, 1) := by decide +kernel
theorem dX9_advance_71 : decode cX9_advance 71 = .ok (.putfield 99, 3) := by decide +kernel
theorem dX9_advance_74 : decode cX9_advance 74 = .ok (.aload_n 0, 1) := by decide +kernel
theorem dX9_advance_75 : decode cX9_advance 75 = .ok (.lload_n 1, 1) := by decide +kernel
theorem dX9_advance_76 : decode cX9_advance 76 = .ok (.ldc2_w 94, 3) := by decide +kernel
theorem dX9_advance_79 : decode cX9_advance 79 = .ok (.ldiv, 1) := by decide +kernel
theorem dX9_advance_80 : decode cX9_advance 80 = .ok (.ldc2_w 92, 3) := by decide +kernel
theorem dX9_advance_83 : decode cX9_advance 83 = .ok (.ldiv, 1) := by decide +kernel
theorem dX9_advance_84 : decode cX9_advance 84 = .ok (.l2i, 1) := by decide +kernel
theorem dX9_advance_85 : decode cX9_advance 85 = .ok (.putfield 101, 3) := by decide +kernel
theorem dX9_advance_88 : decode cX9_advance 88 = .ok (.iconst 1, 1) := by decide +kernel
theorem dX9_advance_89 : decode cX9_advance 89 = .ok (.ireturn, 1) := by decide +kernel
theorem dX9_take_0 : decode cX9_take 0 = .ok (.aload_n 0, 1) := by decide +kernel
theorem dX9_take_1 : decode cX9_take 1 = .ok (.getfield 96, 3) := by decide +kernel
theorem dX9_take_4 : decode cX9_take 4 = .ok (.iload_n 1, 1) := by decide +kernel
theorem dX9_take_5 : decode cX9_take 5 = .ok (.if_icmp .ne 14, 3) := by decide +kernel
theorem dX9_take_8 : decode cX9_take 8 = .ok (.aload_n 0, 1) := by decide +kernel
theorem dX9_take_9 : decode cX9_take 9 = .ok (.invokevirtual 35, 3) := by decide +kernel
theorem dX9_take_12 : decode cX9_take 12 = .ok (.ifCond .eq 7, 3) := by decide +kernel
theorem dX9_take_15 : decode cX9_take 15 = .ok (.iconst 1, 1) := by decide +kernel
theorem dX9_take_16 : decode cX9_take 16 = .ok (.goto 4, 3) := by decide +kernel
theorem dX9_take_19 : decode cX9_take 19 = .ok (.iconst 0, 1) := by decide +kernel
theorem dX9_take_20 : decode cX9_take 20 = .ok (.ireturn, 1) := by decide +kernel
