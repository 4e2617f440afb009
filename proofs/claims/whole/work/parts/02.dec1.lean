theorem dX0_init_0 : decode cX0_init 0 = .ok (.aload_n 0, 1) := by decide +kernel
theorem dX0_init_1 : decode cX0_init 1 = .ok (.invokespecial 3, 3) := by decide +kernel
theorem dX0_init_4 : decode cX0_init 4 = .ok (.return_, 1) := by decide +kernel
theorem dX0_bind_0 : decode cX0_bind 0 = .ok (.aload_n 0, 1) := by decide +kernel
theorem dX0_bind_1 : decode cX0_bind 1 = .ok (.aload_n 1, 1) := by decide +kernel
theorem dX0_bind_2 : decode cX0_bind 2 = .ok (.putfield 9, 3) := by decide +kernel
theorem dX0_bind_5 : decode cX0_bind 5 = .ok (.aload_n 0, 1) := by decide +kernel
theorem dX0_bind_6 : decode cX0_bind 6 = .ok (.aload_n 2, 1) := by decide +kernel
theorem dX0_bind_7 : decode cX0_bind 7 = .ok (.putfield 15, 3) := by decide +kernel
theorem dX0_bind_10 : decode cX0_bind 10 = .ok (.aload_n 0, 1) := by decide +kernel
theorem dX0_bind_11 : decode cX0_bind 11 = .ok (.aconst_null, 1) := by decide +kernel
theorem dX0_bind_12 : decode cX0_bind 12 = .ok (.putfield 19, 3) := by decide +kernel
theorem dX0_bind_15 : decode cX0_bind 15 = .ok (.aload_n 0, 1) := by decide +kernel
theorem dX0_bind_16 : decode cX0_bind 16 = .ok (.iconst 0, 1) := by decide +kernel
theorem dX0_bind_17 : decode cX0_bind 17 = .ok (.putfield 23, 3) := by decide +kernel
theorem dX0_bind_20 : decode cX0_bind 20 = .ok (.aload_n 0, 1) := by decide +kernel
theorem dX0_bind_21 : decode cX0_bind 21 = .ok (.iconst 0, 1) := by decide +kernel
theorem dX0_bind_22 : decode cX0_bind 22 = .ok (.putfield 27, 3) := by decide +kernel
theorem dX0_bind_25 : decode cX0_bind 25 = .ok (.iconst 0, 1) := by decide +kernel
theorem dX0_bind_26 : decode cX0_bind 26 = .ok (.istore_n 3, 1) := by decide +kernel
theorem dX0_bind_27 : decode cX0_bind 27 = .ok (.iload_n 3, 1) := by decide +kernel
theorem dX0_bind_28 : decode cX0_bind 28 = .ok (.aload_n 0, 1) := by decide +kernel
theorem dX0_bind_29 : decode cX0_bind 29 = .ok (.getfield 9, 3) := by decide +kernel
theorem dX0_bind_32 : decode cX0_bind 32 = .ok (.getfield 31, 3) := by decide +kernel
theorem dX0_bind_35 : decode cX0_bind 35 = .ok (.if_icmp .ge 14, 3) := by decide +kernel
theorem dX0_bind_38 : decode cX0_bind 38 = .ok (.aload_n 0, 1) := by decide +kernel
theorem dX0_bind_39 : decode cX0_bind 39 = .ok (.iload_n 3, 1) := by decide +kernel
theorem dX0_bind_40 : decode cX0_bind 40 = .ok (.invokevirtual 36, 3) := by decide +kernel
theorem dX0_bind_43 : decode cX0_bind 43 = .ok (.iinc 3 1, 3) := by decide +kernel
theorem dX0_bind_46 : decode cX0_bind 46 = .ok (.goto (-19), 3) := by decide +kernel
theorem dX0_bind_49 : decode cX0_bind 49 = .ok (.aload_n 0, 1) := by decide +kernel
theorem dX0_bind_50 : decode cX0_bind 50 = .ok (.aload_n 0, 1) := by decide +kernel
theorem dX0_bind_51 : decode cX0_bind 51 = .ok (.getfield 9, 3) := by decide +kernel
theorem dX0_bind_54 : decode cX0_bind 54 = .ok (.getfield 40, 3) := by decide +kernel
theorem dX0_bind_57 : decode cX0_bind 57 = .ok (.aload_n 0, 1) := by decide +kernel
theorem dX0_bind_58 : decode cX0_bind 58 = .ok (.getfield 9, 3) := by decide +kernel
theorem dX0_bind_61 : decode cX0_bind 61 = .ok (.getfield 44, 3) := by decide +kernel
theorem dX0_bind_64 : decode cX0_bind 64 = .ok (.invokevirtual 47, 3) := by decide +kernel
theorem dX0_bind_67 : decode cX0_bind 67 = .ok (.iconst 0, 1) := by decide +kernel
theorem dX0_bind_68 : decode cX0_bind 68 = .ok (.istore_n 3, 1) := by decide +kernel
theorem dX0_bind_69 : decode cX0_bind 69 = .ok (.iload_n 3, 1) := by decide +kernel
theorem dX0_bind_70 : decode cX0_bind 70 = .ok (.aload_n 0, 1) := by decide +kernel
theorem dX0_bind_71 : decode cX0_bind 71 = .ok (.getfield 9, 3) := by decide +kernel
theorem dX0_bind_74 : decode cX0_bind 74 = .ok (.getfield 44, 3) := by decide +kernel
theorem dX0_bind_77 : decode cX0_bind 77 = .ok (.if_icmp .ge 44, 3) := by decide +kernel
theorem dX0_bind_80 : decode cX0_bind 80 = .ok (.aload_n 0, 1) := by decide +kernel
theorem dX0_bind_81 : decode cX0_bind 81 = .ok (.getfield 9, 3) := by decide +kernel
theorem dX0_bind_84 : decode cX0_bind 84 = .ok (.iload_n 3, 1) := by decide +kernel
theorem dX0_bind_85 : decode cX0_bind 85 = .ok (.invokevirtual 51, 3) := by decide +kernel
theorem dX0_bind_88 : decode cX0_bind 88 = .ok (.astore 4, 2) := by decide +kernel
theorem dX0_bind_90 : decode cX0_bind 90 = .ok (.aload 4, 2) := by decide +kernel
theorem dX0_bind_92 : decode cX0_bind 92 = .ok (.ifnull 23, 3) := by decide +kernel
theorem dX0_bind_95 : decode cX0_bind 95 = .ok (.aload_n 0, 1) := by decide +kernel
theorem dX0_bind_96 : decode cX0_bind 96 = .ok (.aload 4, 2) := by decide +kernel
theorem dX0_bind_98 : decode cX0_bind 98 = .ok (.getfield 55, 3) := by decide +kernel
theorem dX0_bind_101 : decode cX0_bind 101 = .ok (.aload 4, 2) := by decide +kernel
theorem dX0_bind_103 : decode cX0_bind 103 = .ok (.getfield 60, 3) := by decide +kernel
theorem dX0_bind_106 : decode cX0_bind 106 = .ok (.invokevirtual 47, 3) := by decide +kernel
theorem dX0_bind_109 : decode cX0_bind 109 = .ok (.aload_n 0, 1) := by decide +kernel
theorem dX0_bind_110 : decode cX0_bind 110 = .ok (.aload 4, 2) := by decide +kernel
theorem dX0_bind_112 : decode cX0_bind 112 = .ok (.invokevirtual 63, 3) := by decide +kernel
theorem dX0_bind_115 : decode cX0_bind 115 = .ok (.iinc 3 1, 3) := by decide +kernel
theorem dX0_bind_118 : decode cX0_bind 118 = .ok (.goto (-49), 3) := by decide +kernel
theorem dX0_bind_121 : decode cX0_bind 121 = .ok (.return_, 1) := by decide +kernel
theorem dX0_noteTwice_0 : decode cX0_noteTwice 0 = .ok (.iconst 0, 1) := by decide +kernel
theorem dX0_noteTwice_1 : decode cX0_noteTwice 1 = .ok (.istore_n 3, 1) := by decide +kernel
theorem dX0_noteTwice_2 : decode cX0_noteTwice 2 = .ok (.iload_n 3, 1) := by decide +kernel
theorem dX0_noteTwice_3 : decode cX0_noteTwice 3 = .ok (.iload_n 2, 1) := by decide +kernel
theorem dX0_noteTwice_4 : decode cX0_noteTwice 4 = .ok (.if_icmp .ge 45, 3) := by decide +kernel
theorem dX0_noteTwice_7 : decode cX0_noteTwice 7 = .ok (.iload_n 3, 1) := by decide +kernel
theorem dX0_noteTwice_8 : decode cX0_noteTwice 8 = .ok (.aload_n 1, 1) := by decide +kernel
theorem dX0_noteTwice_9 : decode cX0_noteTwice 9 = .ok (.arraylength, 1) := by decide +kernel
theorem dX0_noteTwice_10 : decode cX0_noteTwice 10 = .ok (.if_icmp .ge 39, 3) := by decide +kernel
theorem dX0_noteTwice_13 : decode cX0_noteTwice 13 = .ok (.aload_n 0, 1) := by decide +kernel
theorem dX0_noteTwice_14 : decode cX0_noteTwice 14 = .ok (.getfield 9, 3) := by decide +kernel
theorem dX0_noteTwice_17 : decode cX0_noteTwice 17 = .ok (.getfield 67, 3) := by decide +kernel
theorem dX0_noteTwice_20 : decode cX0_noteTwice 20 = .ok (.aload_n 1, 1) := by decide +kernel
theorem dX0_noteTwice_21 : decode cX0_noteTwice 21 = .ok (.iload_n 3, 1) := by decide +kernel
theorem dX0_noteTwice_22 : decode cX0_noteTwice 22 = .ok (.iaload, 1) := by decide +kernel
theorem dX0_noteTwice_23 : decode cX0_noteTwice 23 = .ok (.aload_n 1, 1) := by decide +kernel
theorem dX0_noteTwice_24 : decode cX0_noteTwice 24 = .ok (.iload_n 3, 1) := by decide +kernel
theorem dX0_noteTwice_25 : decode cX0_noteTwice 25 = .ok (.invokevirtual 71, 3) := by decide +kernel
theorem dX0_noteTwice_28 : decode cX0_noteTwice 28 = .ok (.iconst (-1), 1) := by decide +kernel
theorem dX0_noteTwice_29 : decode cX0_noteTwice 29 = .ok (.if_icmp .eq 14, 3) := by decide +kernel
theorem dX0_noteTwice_32 : decode cX0_noteTwice 32 = .ok (.aload_n 0, 1) := by decide +kernel
theorem dX0_noteTwice_33 : decode cX0_noteTwice 33 = .ok (.getfield 15, 3) := by decide +kernel
theorem dX0_noteTwice_36 : decode cX0_noteTwice 36 = .ok (.iconst 2, 1) := by decide +kernel
theorem dX0_noteTwice_37 : decode cX0_noteTwice 37 = .ok (.aload_n 1, 1) := by decide +kernel
theorem dX0_noteTwice_38 : decode cX0_noteTwice 38 = .ok (.iload_n 3, 1) := by decide +kernel
theorem dX0_noteTwice_39 : decode cX0_noteTwice 39 = .ok (.iaload, 1) := by decide +kernel
theorem dX0_noteTwice_40 : decode cX0_noteTwice 40 = .ok (.invokevirtual 77, 3) := by decide +kernel
theorem dX0_noteTwice_43 : decode cX0_noteTwice 43 = .ok (.iinc 3 1, 3) := by decide +kernel
theorem dX0_noteTwice_46 : decode cX0_noteTwice 46 = .ok (.goto (-44), 3) := by decide +kernel
theorem dX0_noteTwice_49 : decode cX0_noteTwice 49 = .ok (.return_, 1) := by decide +kernel
theorem dX0_bindOp_0 : decode cX0_bindOp 0 = .ok (.aload_n 0, 1) := by decide +kernel
theorem dX0_bindOp_1 : decode cX0_bindOp 1 = .ok (.getfield 9, 3) := by decide +kernel
theorem dX0_bindOp_4 : decode cX0_bindOp 4 = .ok (.iload_n 1, 1) := by decide +kernel
theorem dX0_bindOp_5 : decode cX0_bindOp 5 = .ok (.invokevirtual 83, 3) := by decide +kernel
theorem dX0_bindOp_8 : decode cX0_bindOp 8 = .ok (.istore_n 2, 1) := by decide +kernel
theorem dX0_bindOp_9 : decode cX0_bindOp 9 = .ok (.aload_n 0, 1) := by decide +kernel
theorem dX0_bindOp_10 : decode cX0_bindOp 10 = .ok (.getfield 9, 3) := by decide +kernel
theorem dX0_bindOp_13 : decode cX0_bindOp 13 = .ok (.iload_n 1, 1) := by decide +kernel
theorem dX0_bindOp_14 : decode cX0_bindOp 14 = .ok (.invokevirtual 87, 3) := by decide +kernel
theorem dX0_bindOp_17 : decode cX0_bindOp 17 = .ok (.tableswitch 154 0 15 #[119, 154, 127, 136, 154, 154, 154, 154, 154, 154, 154, 154, 79, 94, 102, 111], 79) := by decide +kernel
theorem dX0_bindOp_96 : decode cX0_bindOp 96 = .ok (.aload_n 0, 1) := by decide +kernel
theorem dX0_bindOp_97 : decode cX0_bindOp 97 = .ok (.aload_n 0, 1) := by decide +kernel
theorem dX0_bindOp_98 : decode cX0_bindOp 98 = .ok (.getfield 9, 3) := by decide +kernel
theorem dX0_bindOp_101 : decode cX0_bindOp 101 = .ok (.iload_n 2, 1) := by decide +kernel
theorem dX0_bindOp_102 : decode cX0_bindOp 102 = .ok (.invokevirtual 51, 3) := by decide +kernel
theorem dX0_bindOp_105 : decode cX0_bindOp 105 = .ok (.putfield 19, 3) := by decide +kernel
theorem dX0_bindOp_108 : decode cX0_bindOp 108 = .ok (.goto 63, 3) := by decide +kernel
theorem dX0_bindOp_111 : decode cX0_bindOp 111 = .ok (.aload_n 0, 1) := by decide +kernel
theorem dX0_bindOp_112 : decode cX0_bindOp 112 = .ok (.iload_n 2, 1) := by decide +kernel
theorem dX0_bindOp_113 : decode cX0_bindOp 113 = .ok (.putfield 23, 3) := by decide +kernel
theorem dX0_bindOp_116 : decode cX0_bindOp 116 = .ok (.goto 55, 3) := by decide +kernel
theorem dX0_bindOp_119 : decode cX0_bindOp 119 = .ok (.aload_n 0, 1) := by decide +kernel
theorem dX0_bindOp_120 : decode cX0_bindOp 120 = .ok (.iload_n 1, 1) := by decide +kernel
theorem dX0_bindOp_121 : decode cX0_bindOp 121 = .ok (.iload_n 2, 1) := by decide +kernel
theorem dX0_bindOp_122 : decode cX0_bindOp 122 = .ok (.invokevirtual 90, 3) := by decide +kernel
theorem dX0_bindOp_125 : decode cX0_bindOp 125 = .ok (.goto 46, 3) := by decide +kernel
theorem dX0_bindOp_128 : decode cX0_bindOp 128 = .ok (.aload_n 0, 1) := by decide +kernel
theorem dX0_bindOp_129 : decode cX0_bindOp 129 = .ok (.iconst 1, 1) := by decide +kernel
theorem dX0_bindOp_130 : decode cX0_bindOp 130 = .ok (.putfield 27, 3) := by decide +kernel
theorem dX0_bindOp_133 : decode cX0_bindOp 133 = .ok (.goto 38, 3) := by decide +kernel
theorem dX0_bindOp_136 : decode cX0_bindOp 136 = .ok (.aload_n 0, 1) := by decide +kernel
theorem dX0_bindOp_137 : decode cX0_bindOp 137 = .ok (.iconst 0, 1) := by decide +kernel
theorem dX0_bindOp_138 : decode cX0_bindOp 138 = .ok (.putfield 27, 3) := by decide +kernel
theorem dX0_bindOp_141 : decode cX0_bindOp 141 = .ok (.goto 30, 3) := by decide +kernel
theorem dX0_bindOp_144 : decode cX0_bindOp 144 = .ok (.aload_n 0, 1) := by decide +kernel
theorem dX0_bindOp_145 : decode cX0_bindOp 145 = .ok (.iload_n 1, 1) := by decide +kernel
theorem dX0_bindOp_146 : decode cX0_bindOp 146 = .ok (.iload_n 2, 1) := by decide +kernel
theorem dX0_bindOp_147 : decode cX0_bindOp 147 = .ok (.invokevirtual 93, 3) := by decide +kernel
theorem dX0_bindOp_150 : decode cX0_bindOp 150 = .ok (.goto 21, 3) := by decide +kernel
theorem dX0_bindOp_153 : decode cX0_bindOp 153 = .ok (.aload_n 0, 1) := by decide +kernel
theorem dX0_bindOp_154 : decode cX0_bindOp 154 = .ok (.iload_n 1, 1) := by decide +kernel
theorem dX0_bindOp_155 : decode cX0_bindOp 155 = .ok (.iload_n 2, 1) := by decide +kernel
theorem dX0_bindOp_156 : decode cX0_bindOp 156 = .ok (.sipush 4096, 3) := by decide +kernel
theorem dX0_bindOp_159 : decode cX0_bindOp 159 = .ok (.idiv, 1) := by decide +kernel
theorem dX0_bindOp_160 : decode cX0_bindOp 160 = .ok (.iload_n 2, 1) := by decide +kernel
theorem dX0_bindOp_161 : decode cX0_bindOp 161 = .ok (.sipush 4096, 3) := by decide +kernel
theorem dX0_bindOp_164 : decode cX0_bindOp 164 = .ok (.irem, 1) := by decide +kernel
theorem dX0_bindOp_165 : decode cX0_bindOp 165 = .ok (.invokevirtual 98, 3) := by decide +kernel
theorem dX0_bindOp_168 : decode cX0_bindOp 168 = .ok (.goto 3, 3) := by decide +kernel
theorem dX0_bindOp_171 : decode cX0_bindOp 171 = .ok (.return_, 1) := by decide +kernel
theorem dX0_bindGive_0 : decode cX0_bindGive 0 = .ok (.aload_n 0, 1) := by decide +kernel
theorem dX0_bindGive_1 : decode cX0_bindGive 1 = .ok (.getfield 19, 3) := by decide +kernel
theorem dX0_bindGive_4 : decode cX0_bindGive 4 = .ok (.ifnonnull 4, 3) := by decide +kernel
theorem dX0_bindGive_7 : decode cX0_bindGive 7 = .ok (.return_, 1) := by decide +kernel
theorem dX0_bindGive_8 : decode cX0_bindGive 8 = .ok (.aload_n 0, 1) := by decide +kernel
theorem dX0_bindGive_9 : decode cX0_bindGive 9 = .ok (.getfield 9, 3) := by decide +kernel
theorem dX0_bindGive_12 : decode cX0_bindGive 12 = .ok (.getfield 67, 3) := by decide +kernel
theorem dX0_bindGive_15 : decode cX0_bindGive 15 = .ok (.iload_n 2, 1) := by decide +kernel
theorem dX0_bindGive_16 : decode cX0_bindGive 16 = .ok (.aload_n 0, 1) := by decide +kernel
theorem dX0_bindGive_17 : decode cX0_bindGive 17 = .ok (.getfield 19, 3) := by decide +kernel
theorem dX0_bindGive_20 : decode cX0_bindGive 20 = .ok (.getfield 102, 3) := by decide +kernel
theorem dX0_bindGive_23 : decode cX0_bindGive 23 = .ok (.aload_n 0, 1) := by decide +kernel
theorem dX0_bindGive_24 : decode cX0_bindGive 24 = .ok (.getfield 19, 3) := by decide +kernel
theorem dX0_bindGive_27 : decode cX0_bindGive 27 = .ok (.getfield 105, 3) := by decide +kernel
theorem dX0_bindGive_30 : decode cX0_bindGive 30 = .ok (.invokevirtual 71, 3) := by decide +kernel
theorem dX0_bindGive_33 : decode cX0_bindGive 33 = .ok (.istore_n 3, 1) := by decide +kernel
theorem dX0_bindGive_34 : decode cX0_bindGive 34 = .ok (.iload_n 3, 1) := by decide +kernel
theorem dX0_bindGive_35 : decode cX0_bindGive 35 = .ok (.iconst (-1), 1) := by decide +kernel
theorem dX0_bindGive_36 : decode cX0_bindGive 36 = .ok (.if_icmp .ne 15, 3) := by decide +kernel
theorem dX0_bindGive_39 : decode cX0_bindGive 39 = .ok (.aload_n 0, 1) := by decide +kernel
theorem dX0_bindGive_40 : decode cX0_bindGive 40 = .ok (.getfield 15, 3) := by decide +kernel
theorem dX0_bindGive_43 : decode cX0_bindGive 43 = .ok (.iconst 3, 1) := by decide +kernel
theorem dX0_bindGive_44 : decode cX0_bindGive 44 = .ok (.iload_n 2, 1) := by decide +kernel
theorem dX0_bindGive_45 : decode cX0_bindGive 45 = .ok (.invokevirtual 77, 3) := by decide +kernel
theorem dX0_bindGive_48 : decode cX0_bindGive 48 = .ok (.goto 65, 3) := by decide +kernel
theorem dX0_bindGive_51 : decode cX0_bindGive 51 = .ok (.aload_n 0, 1) := by decide +kernel
theorem dX0_bindGive_52 : decode cX0_bindGive 52 = .ok (.getfield 19, 3) := by decide +kernel
theorem dX0_bindGive_55 : decode cX0_bindGive 55 = .ok (.aload_n 0, 1) := by decide +kernel
theorem dX0_bindGive_56 : decode cX0_bindGive 56 = .ok (.getfield 23, 3) := by decide +kernel
theorem dX0_bindGive_59 : decode cX0_bindGive 59 = .ok (.iload_n 3, 1) := by decide +kernel
theorem dX0_bindGive_60 : decode cX0_bindGive 60 = .ok (.invokevirtual 108, 3) := by decide +kernel
theorem dX0_bindGive_63 : decode cX0_bindGive 63 = .ok (.iconst (-1), 1) := by decide +kernel
theorem dX0_bindGive_64 : decode cX0_bindGive 64 = .ok (.if_icmp .eq 15, 3) := by decide +kernel
theorem dX0_bindGive_67 : decode cX0_bindGive 67 = .ok (.aload_n 0, 1) := by decide +kernel
theorem dX0_bindGive_68 : decode cX0_bindGive 68 = .ok (.getfield 15, 3) := by decide +kernel
theorem dX0_bindGive_71 : decode cX0_bindGive 71 = .ok (.iconst 2, 1) := by decide +kernel
theorem dX0_bindGive_72 : decode cX0_bindGive 72 = .ok (.iload_n 2, 1) := by decide +kernel
theorem dX0_bindGive_73 : decode cX0_bindGive 73 = .ok (.invokevirtual 77, 3) := by decide +kernel
theorem dX0_bindGive_76 : decode cX0_bindGive 76 = .ok (.goto 37, 3) := by decide +kernel
theorem dX0_bindGive_79 : decode cX0_bindGive 79 = .ok (.aload_n 0, 1) := by decide +kernel
theorem dX0_bindGive_80 : decode cX0_bindGive 80 = .ok (.getfield 19, 3) := by decide +kernel
theorem dX0_bindGive_83 : decode cX0_bindGive 83 = .ok (.aload_n 0, 1) := by decide +kernel
theorem dX0_bindGive_84 : decode cX0_bindGive 84 = .ok (.getfield 23, 3) := by decide +kernel
theorem dX0_bindGive_87 : decode cX0_bindGive 87 = .ok (.invokevirtual 112, 3) := by decide +kernel
theorem dX0_bindGive_90 : decode cX0_bindGive 90 = .ok (.ifCond .eq 23, 3) := by decide +kernel
theorem dX0_bindGive_93 : decode cX0_bindGive 93 = .ok (.aload_n 0, 1) := by decide +kernel
theorem dX0_bindGive_94 : decode cX0_bindGive 94 = .ok (.getfield 19, 3) := by decide +kernel
theorem dX0_bindGive_97 : decode cX0_bindGive 97 = .ok (.getfield 116, 3) := by decide +kernel
theorem dX0_bindGive_100 : decode cX0_bindGive 100 = .ok (.aload_n 0, 1) := by decide +kernel
theorem dX0_bindGive_101 : decode cX0_bindGive 101 = .ok (.getfield 23, 3) := by decide +kernel
theorem dX0_bindGive_104 : decode cX0_bindGive 104 = .ok (.bipush 8, 2) := by decide +kernel
theorem dX0_bindGive_106 : decode cX0_bindGive 106 = .ok (.imul, 1) := by decide +kernel
theorem dX0_bindGive_107 : decode cX0_bindGive 107 = .ok (.iload_n 3, 1) := by decide +kernel
theorem dX0_bindGive_108 : decode cX0_bindGive 108 = .ok (.iadd, 1) := by decide +kernel
theorem dX0_bindGive_109 : decode cX0_bindGive 109 = .ok (.iload_n 1, 1) := by decide +kernel
theorem dX0_bindGive_110 : decode cX0_bindGive 110 = .ok (.iconst 1, 1) := by decide +kernel
theorem dX0_bindGive_111 : decode cX0_bindGive 111 = .ok (.iadd, 1) := by decide +kernel
theorem dX0_bindGive_112 : decode cX0_bindGive 112 = .ok (.iastore, 1) := by decide +kernel
theorem dX0_bindGive_113 : decode cX0_bindGive 113 = .ok (.return_, 1) := by decide +kernel
theorem dX0_bindField_0 : decode cX0_bindField 0 = .ok (.aload_n 0, 1) := by decide +kernel
theorem dX0_bindField_1 : decode cX0_bindField 1 = .ok (.getfield 19, 3) := by decide +kernel
theorem dX0_bindField_4 : decode cX0_bindField 4 = .ok (.ifnonnull 4, 3) := by decide +kernel
theorem dX0_bindField_7 : decode cX0_bindField 7 = .ok (.return_, 1) := by decide +kernel
theorem dX0_bindField_8 : decode cX0_bindField 8 = .ok (.aload_n 0, 1) := by decide +kernel
theorem dX0_bindField_9 : decode cX0_bindField 9 = .ok (.getfield 9, 3) := by decide +kernel
theorem dX0_bindField_12 : decode cX0_bindField 12 = .ok (.getfield 67, 3) := by decide +kernel
theorem dX0_bindField_15 : decode cX0_bindField 15 = .ok (.iload_n 2, 1) := by decide +kernel
theorem dX0_bindField_16 : decode cX0_bindField 16 = .ok (.aload_n 0, 1) := by decide +kernel
theorem dX0_bindField_17 : decode cX0_bindField 17 = .ok (.getfield 19, 3) := by decide +kernel
theorem dX0_bindField_20 : decode cX0_bindField 20 = .ok (.getfield 119, 3) := by decide +kernel
theorem dX0_bindField_23 : decode cX0_bindField 23 = .ok (.aload_n 0, 1) := by decide +kernel
theorem dX0_bindField_24 : decode cX0_bindField 24 = .ok (.getfield 19, 3) := by decide +kernel
theorem dX0_bindField_27 : decode cX0_bindField 27 = .ok (.getfield 122, 3) := by decide +kernel
theorem dX0_bindField_30 : decode cX0_bindField 30 = .ok (.invokevirtual 71, 3) := by decide +kernel
theorem dX0_bindField_33 : decode cX0_bindField 33 = .ok (.istore_n 3, 1) := by decide +kernel
theorem dX0_bindField_34 : decode cX0_bindField 34 = .ok (.iload_n 3, 1) := by decide +kernel
theorem dX0_bindField_35 : decode cX0_bindField 35 = .ok (.iconst (-1), 1) := by decide +kernel
theorem dX0_bindField_36 : decode cX0_bindField 36 = .ok (.if_icmp .ne 16, 3) := by decide +kernel
theorem dX0_bindField_39 : decode cX0_bindField 39 = .ok (.aload_n 0, 1) := by decide +kernel
theorem dX0_bindField_40 : decode cX0_bindField 40 = .ok (.getfield 15, 3) := by decide +kernel
theorem dX0_bindField_43 : decode cX0_bindField 43 = .ok (.bipush 6, 2) := by decide +kernel
theorem dX0_bindField_45 : decode cX0_bindField 45 = .ok (.iload_n 2, 1) := by decide +kernel
theorem dX0_bindField_46 : decode cX0_bindField 46 = .ok (.invokevirtual 77, 3) := by decide +kernel
theorem dX0_bindField_49 : decode cX0_bindField 49 = .ok (.goto 42, 3) := by decide +kernel
theorem dX0_bindField_52 : decode cX0_bindField 52 = .ok (.aload_n 0, 1) := by decide +kernel
theorem dX0_bindField_53 : decode cX0_bindField 53 = .ok (.getfield 27, 3) := by decide +kernel
theorem dX0_bindField_56 : decode cX0_bindField 56 = .ok (.ifCond .eq 26, 3) := by decide +kernel
theorem dX0_bindField_59 : decode cX0_bindField 59 = .ok (.aload_n 0, 1) := by decide +kernel
theorem dX0_bindField_60 : decode cX0_bindField 60 = .ok (.getfield 19, 3) := by decide +kernel
theorem dX0_bindField_63 : decode cX0_bindField 63 = .ok (.iload_n 3, 1) := by decide +kernel
theorem dX0_bindField_64 : decode cX0_bindField 64 = .ok (.invokevirtual 125, 3) := by decide +kernel
theorem dX0_bindField_67 : decode cX0_bindField 67 = .ok (.ifCond .eq 15, 3) := by decide +kernel
theorem dX0_bindField_70 : decode cX0_bindField 70 = .ok (.aload_n 0, 1) := by decide +kernel
theorem dX0_bindField_71 : decode cX0_bindField 71 = .ok (.getfield 15, 3) := by decide +kernel
theorem dX0_bindField_74 : decode cX0_bindField 74 = .ok (.iconst 5, 1) := by decide +kernel
theorem dX0_bindField_75 : decode cX0_bindField 75 = .ok (.iload_n 2, 1) := by decide +kernel
theorem dX0_bindField_76 : decode cX0_bindField 76 = .ok (.invokevirtual 77, 3) := by decide +kernel
theorem dX0_bindField_79 : decode cX0_bindField 79 = .ok (.goto 12, 3) := by decide +kernel
theorem dX0_bindField_82 : decode cX0_bindField 82 = .ok (.aload_n 0, 1) := by decide +kernel
theorem dX0_bindField_83 : decode cX0_bindField 83 = .ok (.getfield 9, 3) := by decide +kernel
theorem dX0_bindField_86 : decode cX0_bindField 86 = .ok (.iload_n 1, 1) := by decide +kernel
theorem dX0_bindField_87 : decode cX0_bindField 87 = .ok (.iload_n 3, 1) := by decide +kernel
theorem dX0_bindField_88 : decode cX0_bindField 88 = .ok (.invokevirtual 128, 3) := by decide +kernel
theorem dX0_bindField_91 : decode cX0_bindField 91 = .ok (.return_, 1) := by decide +kernel
theorem dX0_bindConstant_0 : decode cX0_bindConstant 0 = .ok (.aload_n 0, 1) := by decide +kernel
theorem dX0_bindConstant_1 : decode cX0_bindConstant 1 = .ok (.getfield 9, 3) := by decide +kernel
theorem dX0_bindConstant_4 : decode cX0_bindConstant 4 = .ok (.getfield 67, 3) := by decide +kernel
theorem dX0_bindConstant_7 : decode cX0_bindConstant 7 = .ok (.iload_n 2, 1) := by decide +kernel
theorem dX0_bindConstant_8 : decode cX0_bindConstant 8 = .ok (.aload_n 0, 1) := by decide +kernel
theorem dX0_bindConstant_9 : decode cX0_bindConstant 9 = .ok (.getfield 9, 3) := by decide +kernel
theorem dX0_bindConstant_12 : decode cX0_bindConstant 12 = .ok (.getfield 40, 3) := by decide +kernel
theorem dX0_bindConstant_15 : decode cX0_bindConstant 15 = .ok (.aload_n 0, 1) := by decide +kernel
theorem dX0_bindConstant_16 : decode cX0_bindConstant 16 = .ok (.getfield 9, 3) := by decide +kernel
theorem dX0_bindConstant_19 : decode cX0_bindConstant 19 = .ok (.getfield 44, 3) := by decide +kernel
theorem dX0_bindConstant_22 : decode cX0_bindConstant 22 = .ok (.invokevirtual 71, 3) := by decide +kernel
theorem dX0_bindConstant_25 : decode cX0_bindConstant 25 = .ok (.istore 4, 2) := by decide +kernel
theorem dX0_bindConstant_27 : decode cX0_bindConstant 27 = .ok (.aload_n 0, 1) := by decide +kernel
theorem dX0_bindConstant_28 : decode cX0_bindConstant 28 = .ok (.getfield 9, 3) := by decide +kernel
theorem dX0_bindConstant_31 : decode cX0_bindConstant 31 = .ok (.iload 4, 2) := by decide +kernel
theorem dX0_bindConstant_33 : decode cX0_bindConstant 33 = .ok (.invokevirtual 51, 3) := by decide +kernel
theorem dX0_bindConstant_36 : decode cX0_bindConstant 36 = .ok (.astore 5, 2) := by decide +kernel
theorem dX0_bindConstant_38 : decode cX0_bindConstant 38 = .ok (.aload 5, 2) := by decide +kernel
theorem dX0_bindConstant_40 : decode cX0_bindConstant 40 = .ok (.ifnonnull 7, 3) := by decide +kernel
theorem dX0_bindConstant_43 : decode cX0_bindConstant 43 = .ok (.iconst (-1), 1) := by decide +kernel
theorem dX0_bindConstant_44 : decode cX0_bindConstant 44 = .ok (.goto 24, 3) := by decide +kernel
theorem dX0_bindConstant_47 : decode cX0_bindConstant 47 = .ok (.aload_n 0, 1) := by decide +kernel
theorem dX0_bindConstant_48 : decode cX0_bindConstant 48 = .ok (.getfield 9, 3) := by decide +kernel
theorem dX0_bindConstant_51 : decode cX0_bindConstant 51 = .ok (.getfield 67, 3) := by decide +kernel
theorem dX0_bindConstant_54 : decode cX0_bindConstant 54 = .ok (.iload_n 3, 1) := by decide +kernel
theorem dX0_bindConstant_55 : decode cX0_bindConstant 55 = .ok (.aload 5, 2) := by decide +kernel
theorem dX0_bindConstant_57 : decode cX0_bindConstant 57 = .ok (.getfield 131, 3) := by decide +kernel
theorem dX0_bindConstant_60 : decode cX0_bindConstant 60 = .ok (.aload 5, 2) := by decide +kernel
theorem dX0_bindConstant_62 : decode cX0_bindConstant 62 = .ok (.getfield 134, 3) := by decide +kernel
theorem dX0_bindConstant_65 : decode cX0_bindConstant 65 = .ok (.invokevirtual 71, 3) := by decide +kernel
theorem dX0_bindConstant_68 : decode cX0_bindConstant 68 = .ok (.istore 6, 2) := by decide +kernel
theorem dX0_bindConstant_70 : decode cX0_bindConstant 70 = .ok (.iload 6, 2) := by decide +kernel
theorem dX0_bindConstant_72 : decode cX0_bindConstant 72 = .ok (.iconst (-1), 1) := by decide +kernel
theorem dX0_bindConstant_73 : decode cX0_bindConstant 73 = .ok (.if_icmp .ne 16, 3) := by decide +kernel
theorem dX0_bindConstant_76 : decode cX0_bindConstant 76 = .ok (.aload_n 0, 1) := by decide +kernel
theorem dX0_bindConstant_77 : decode cX0_bindConstant 77 = .ok (.getfield 15, 3) := by decide +kernel
theorem dX0_bindConstant_80 : decode cX0_bindConstant 80 = .ok (.bipush 6, 2) := by decide +kernel
theorem dX0_bindConstant_82 : decode cX0_bindConstant 82 = .ok (.iload_n 2, 1) := by decide +kernel
theorem dX0_bindConstant_83 : decode cX0_bindConstant 83 = .ok (.invokevirtual 77, 3) := by decide +kernel
theorem dX0_bindConstant_86 : decode cX0_bindConstant 86 = .ok (.goto 19, 3) := by decide +kernel
theorem dX0_bindConstant_89 : decode cX0_bindConstant 89 = .ok (.aload_n 0, 1) := by decide +kernel
theorem dX0_bindConstant_90 : decode cX0_bindConstant 90 = .ok (.getfield 9, 3) := by decide +kernel
theorem dX0_bindConstant_93 : decode cX0_bindConstant 93 = .ok (.iload_n 1, 1) := by decide +kernel
theorem dX0_bindConstant_94 : decode cX0_bindConstant 94 = .ok (.iload 4, 2) := by decide +kernel
theorem dX0_bindConstant_96 : decode cX0_bindConstant 96 = .ok (.bipush 12, 2) := by decide +kernel
theorem dX0_bindConstant_98 : decode cX0_bindConstant 98 = .ok (.imul, 1) := by decide +kernel
theorem dX0_bindConstant_99 : decode cX0_bindConstant 99 = .ok (.iload 6, 2) := by decide +kernel
theorem dX0_bindConstant_101 : decode cX0_bindConstant 101 = .ok (.iadd, 1) := by decide +kernel
theorem dX0_bindConstant_102 : decode cX0_bindConstant 102 = .ok (.invokevirtual 128, 3) := by decide +kernel
theorem dX0_bindConstant_105 : decode cX0_bindConstant 105 = .ok (.return_, 1) := by decide +kernel
theorem dX0_noteNotGiven_0 : decode cX0_noteNotGiven 0 = .ok (.iconst 0, 1) := by decide +kernel
theorem dX0_noteNotGiven_1 : decode cX0_noteNotGiven 1 = .ok (.istore_n 2, 1) := by decide +kernel
theorem dX0_noteNotGiven_2 : decode cX0_noteNotGiven 2 = .ok (.iload_n 2, 1) := by decide +kernel
theorem dX0_noteNotGiven_3 : decode cX0_noteNotGiven 3 = .ok (.aload_n 1, 1) := by decide +kernel
theorem dX0_noteNotGiven_4 : decode cX0_noteNotGiven 4 = .ok (.getfield 105, 3) := by decide +kernel
theorem dX0_noteNotGiven_7 : decode cX0_noteNotGiven 7 = .ok (.if_icmp .ge 57, 3) := by decide +kernel
theorem dX0_noteNotGiven_10 : decode cX0_noteNotGiven 10 = .ok (.iconst 0, 1) := by decide +kernel
theorem dX0_noteNotGiven_11 : decode cX0_noteNotGiven 11 = .ok (.istore_n 3, 1) := by decide +kernel
theorem dX0_noteNotGiven_12 : decode cX0_noteNotGiven 12 = .ok (.iload_n 3, 1) := by decide +kernel
theorem dX0_noteNotGiven_13 : decode cX0_noteNotGiven 13 = .ok (.aload_n 1, 1) := by decide +kernel
theorem dX0_noteNotGiven_14 : decode cX0_noteNotGiven 14 = .ok (.getfield 134, 3) := by decide +kernel
theorem dX0_noteNotGiven_17 : decode cX0_noteNotGiven 17 = .ok (.if_icmp .ge 41, 3) := by decide +kernel
theorem dX0_noteNotGiven_20 : decode cX0_noteNotGiven 20 = .ok (.aload_n 1, 1) := by decide +kernel
theorem dX0_noteNotGiven_21 : decode cX0_noteNotGiven 21 = .ok (.iload_n 2, 1) := by decide +kernel
theorem dX0_noteNotGiven_22 : decode cX0_noteNotGiven 22 = .ok (.invokevirtual 137, 3) := by decide +kernel
theorem dX0_noteNotGiven_25 : decode cX0_noteNotGiven 25 = .ok (.ifCond .eq 27, 3) := by decide +kernel
theorem dX0_noteNotGiven_28 : decode cX0_noteNotGiven 28 = .ok (.aload_n 0, 1) := by decide +kernel
theorem dX0_noteNotGiven_29 : decode cX0_noteNotGiven 29 = .ok (.aload_n 1, 1) := by decide +kernel
theorem dX0_noteNotGiven_30 : decode cX0_noteNotGiven 30 = .ok (.iload_n 3, 1) := by decide +kernel
theorem dX0_noteNotGiven_31 : decode cX0_noteNotGiven 31 = .ok (.iload_n 2, 1) := by decide +kernel
theorem dX0_noteNotGiven_32 : decode cX0_noteNotGiven 32 = .ok (.invokevirtual 140, 3) := by decide +kernel
theorem dX0_noteNotGiven_35 : decode cX0_noteNotGiven 35 = .ok (.ifCond .ne 17, 3) := by decide +kernel
theorem dX0_noteNotGiven_38 : decode cX0_noteNotGiven 38 = .ok (.aload_n 0, 1) := by decide +kernel
theorem dX0_noteNotGiven_39 : decode cX0_noteNotGiven 39 = .ok (.getfield 15, 3) := by decide +kernel
theorem dX0_noteNotGiven_42 : decode cX0_noteNotGiven 42 = .ok (.iconst 4, 1) := by decide +kernel
theorem dX0_noteNotGiven_43 : decode cX0_noteNotGiven 43 = .ok (.aload_n 1, 1) := by decide +kernel
theorem dX0_noteNotGiven_44 : decode cX0_noteNotGiven 44 = .ok (.getfield 131, 3) := by decide +kernel
theorem dX0_noteNotGiven_47 : decode cX0_noteNotGiven 47 = .ok (.iload_n 3, 1) := by decide +kernel
theorem dX0_noteNotGiven_48 : decode cX0_noteNotGiven 48 = .ok (.iaload, 1) := by decide +kernel
theorem dX0_noteNotGiven_49 : decode cX0_noteNotGiven 49 = .ok (.invokevirtual 77, 3) := by decide +kernel
theorem dX0_noteNotGiven_52 : decode cX0_noteNotGiven 52 = .ok (.iinc 3 1, 3) := by decide +kernel
theorem dX0_noteNotGiven_55 : decode cX0_noteNotGiven 55 = .ok (.goto (-43), 3) := by decide +kernel
theorem dX0_noteNotGiven_58 : decode cX0_noteNotGiven 58 = .ok (.iinc 2 1, 3) := by decide +kernel
theorem dX0_noteNotGiven_61 : decode cX0_noteNotGiven 61 = .ok (.goto (-59), 3) := by decide +kernel
theorem dX0_noteNotGiven_64 : decode cX0_noteNotGiven 64 = .ok (.return_, 1) := by decide +kernel
theorem dX0_isGiven_0 : decode cX0_isGiven 0 = .ok (.aload_n 0, 1) := by decide +kernel
theorem dX0_isGiven_1 : decode cX0_isGiven 1 = .ok (.getfield 9, 3) := by decide +kernel
theorem dX0_isGiven_4 : decode cX0_isGiven 4 = .ok (.getfield 67, 3) := by decide +kernel
theorem dX0_isGiven_7 : decode cX0_isGiven 7 = .ok (.aload_n 1, 1) := by decide +kernel
theorem dX0_isGiven_8 : decode cX0_isGiven 8 = .ok (.getfield 102, 3) := by decide +kernel
theorem dX0_isGiven_11 : decode cX0_isGiven 11 = .ok (.iload_n 3, 1) := by decide +kernel
theorem dX0_isGiven_12 : decode cX0_isGiven 12 = .ok (.iaload, 1) := by decide +kernel
theorem dX0_isGiven_13 : decode cX0_isGiven 13 = .ok (.aload_n 1, 1) := by decide +kernel
theorem dX0_isGiven_14 : decode cX0_isGiven 14 = .ok (.getfield 102, 3) := by decide +kernel
theorem dX0_isGiven_17 : decode cX0_isGiven 17 = .ok (.aload_n 1, 1) := by decide +kernel
theorem dX0_isGiven_18 : decode cX0_isGiven 18 = .ok (.getfield 105, 3) := by decide +kernel
theorem dX0_isGiven_21 : decode cX0_isGiven 21 = .ok (.invokevirtual 71, 3) := by decide +kernel
theorem dX0_isGiven_24 : decode cX0_isGiven 24 = .ok (.istore 4, 2) := by decide +kernel
theorem dX0_isGiven_26 : decode cX0_isGiven 26 = .ok (.aload_n 1, 1) := by decide +kernel
theorem dX0_isGiven_27 : decode cX0_isGiven 27 = .ok (.iload_n 2, 1) := by decide +kernel
theorem dX0_isGiven_28 : decode cX0_isGiven 28 = .ok (.iload 4, 2) := by decide +kernel
theorem dX0_isGiven_30 : decode cX0_isGiven 30 = .ok (.invokevirtual 108, 3) := by decide +kernel
theorem dX0_isGiven_33 : decode cX0_isGiven 33 = .ok (.iconst (-1), 1) := by decide +kernel
theorem dX0_isGiven_34 : decode cX0_isGiven 34 = .ok (.if_icmp .eq 7, 3) := by decide +kernel
theorem dX0_isGiven_37 : decode cX0_isGiven 37 = .ok (.iconst 1, 1) := by decide +kernel
theorem dX0_isGiven_38 : decode cX0_isGiven 38 = .ok (.goto 4, 3) := by decide +kernel
theorem dX0_isGiven_41 : decode cX0_isGiven 41 = .ok (.iconst 0, 1) := by decide +kernel
theorem dX0_isGiven_42 : decode cX0_isGiven 42 = .ok (.ireturn, 1) := by decide +kernel
theorem dX1_init_0 : decode cX1_init 0 = .ok (.aload_n 0, 1) := by decide +kernel
theorem dX1_init_1 : decode cX1_init 1 = .ok (.invokespecial 3, 3) := by decide +kernel
theorem dX1_init_4 : decode cX1_init 4 = .ok (.aload_n 0, 1) := by decide +kernel
theorem dX1_init_5 : decode cX1_init 5 = .ok (.bipush 12, 2) := by decide +kernel
theorem dX1_init_7 : decode cX1_init 7 = .ok (.newarray .int, 2) := by decide +kernel
theorem dX1_init_9 : decode cX1_init 9 = .ok (.putfield 9, 3) := by decide +kernel
theorem dX1_init_12 : decode cX1_init 12 = .ok (.aload_n 0, 1) := by decide +kernel
theorem dX1_init_13 : decode cX1_init 13 = .ok (.bipush 12, 2) := by decide +kernel
theorem dX1_init_15 : decode cX1_init 15 = .ok (.newarray .int, 2) := by decide +kernel
theorem dX1_init_17 : decode cX1_init 17 = .ok (.putfield 15, 3) := by decide +kernel
theorem dX1_init_20 : decode cX1_init 20 = .ok (.aload_n 0, 1) := by decide +kernel
theorem dX1_init_21 : decode cX1_init 21 = .ok (.bipush 12, 2) := by decide +kernel
theorem dX1_init_23 : decode cX1_init 23 = .ok (.newarray .boolean, 2) := by decide +kernel
theorem dX1_init_25 : decode cX1_init 25 = .ok (.putfield 18, 3) := by decide +kernel
theorem dX1_init_28 : decode cX1_init 28 = .ok (.aload_n 0, 1) := by decide +kernel
theorem dX1_init_29 : decode cX1_init 29 = .ok (.bipush 96, 2) := by decide +kernel
theorem dX1_init_31 : decode cX1_init 31 = .ok (.newarray .int, 2) := by decide +kernel
theorem dX1_init_33 : decode cX1_init 33 = .ok (.putfield 22, 3) := by decide +kernel
theorem dX1_init_36 : decode cX1_init 36 = .ok (.aload_n 0, 1) := by decide +kernel
theorem dX1_init_37 : decode cX1_init 37 = .ok (.bipush 8, 2) := by decide +kernel
theorem dX1_init_39 : decode cX1_init 39 = .ok (.newarray .int, 2) := by decide +kernel
theorem dX1_init_41 : decode cX1_init 41 = .ok (.putfield 25, 3) := by decide +kernel
theorem dX1_init_44 : decode cX1_init 44 = .ok (.aload_n 0, 1) := by decide +kernel
theorem dX1_init_45 : decode cX1_init 45 = .ok (.bipush 8, 2) := by decide +kernel
theorem dX1_init_47 : decode cX1_init 47 = .ok (.newarray .int, 2) := by decide +kernel
theorem dX1_init_49 : decode cX1_init 49 = .ok (.putfield 28, 3) := by decide +kernel
theorem dX1_init_52 : decode cX1_init 52 = .ok (.aload_n 0, 1) := by decide +kernel
theorem dX1_init_53 : decode cX1_init 53 = .ok (.bipush 6, 2) := by decide +kernel
theorem dX1_init_55 : decode cX1_init 55 = .ok (.newarray .int, 2) := by decide +kernel
theorem dX1_init_57 : decode cX1_init 57 = .ok (.putfield 31, 3) := by decide +kernel
theorem dX1_init_60 : decode cX1_init 60 = .ok (.aload_n 0, 1) := by decide +kernel
theorem dX1_init_61 : decode cX1_init 61 = .ok (.bipush 6, 2) := by decide +kernel
theorem dX1_init_63 : decode cX1_init 63 = .ok (.newarray .int, 2) := by decide +kernel
theorem dX1_init_65 : decode cX1_init 65 = .ok (.putfield 34, 3) := by decide +kernel
theorem dX1_init_68 : decode cX1_init 68 = .ok (.aload_n 0, 1) := by decide +kernel
theorem dX1_init_69 : decode cX1_init 69 = .ok (.bipush 6, 2) := by decide +kernel
theorem dX1_init_71 : decode cX1_init 71 = .ok (.newarray .int, 2) := by decide +kernel
theorem dX1_init_73 : decode cX1_init 73 = .ok (.putfield 37, 3) := by decide +kernel
theorem dX1_init_76 : decode cX1_init 76 = .ok (.aload_n 0, 1) := by decide +kernel
theorem dX1_init_77 : decode cX1_init 77 = .ok (.bipush 12, 2) := by decide +kernel
theorem dX1_init_79 : decode cX1_init 79 = .ok (.newarray .int, 2) := by decide +kernel
theorem dX1_init_81 : decode cX1_init 81 = .ok (.putfield 40, 3) := by decide +kernel
theorem dX1_init_84 : decode cX1_init 84 = .ok (.aload_n 0, 1) := by decide +kernel
theorem dX1_init_85 : decode cX1_init 85 = .ok (.bipush 26, 2) := by decide +kernel
theorem dX1_init_87 : decode cX1_init 87 = .ok (.newarray .int, 2) := by decide +kernel
theorem dX1_init_89 : decode cX1_init 89 = .ok (.putfield 43, 3) := by decide +kernel
theorem dX1_init_92 : decode cX1_init 92 = .ok (.return_, 1) := by decide +kernel
theorem dX1_begin_0 : decode cX1_begin 0 = .ok (.aload_n 0, 1) := by decide +kernel
theorem dX1_begin_1 : decode cX1_begin 1 = .ok (.iconst 0, 1) := by decide +kernel
theorem dX1_begin_2 : decode cX1_begin 2 = .ok (.putfield 46, 3) := by decide +kernel
theorem dX1_begin_5 : decode cX1_begin 5 = .ok (.aload_n 0, 1) := by decide +kernel
theorem dX1_begin_6 : decode cX1_begin 6 = .ok (.iconst 0, 1) := by decide +kernel
theorem dX1_begin_7 : decode cX1_begin 7 = .ok (.putfield 50, 3) := by decide +kernel
theorem dX1_begin_10 : decode cX1_begin 10 = .ok (.aload_n 0, 1) := by decide +kernel
theorem dX1_begin_11 : decode cX1_begin 11 = .ok (.iconst 0, 1) := by decide +kernel
theorem dX1_begin_12 : decode cX1_begin 12 = .ok (.putfield 53, 3) := by decide +kernel
theorem dX1_begin_15 : decode cX1_begin 15 = .ok (.aload_n 0, 1) := by decide +kernel
theorem dX1_begin_16 : decode cX1_begin 16 = .ok (.iconst 0, 1) := by decide +kernel
theorem dX1_begin_17 : decode cX1_begin 17 = .ok (.putfield 56, 3) := by decide +kernel
theorem dX1_begin_20 : decode cX1_begin 20 = .ok (.aload_n 0, 1) := by decide +kernel
theorem dX1_begin_21 : decode cX1_begin 21 = .ok (.iconst 0, 1) := by decide +kernel
theorem dX1_begin_22 : decode cX1_begin 22 = .ok (.putfield 59, 3) := by decide +kernel
theorem dX1_begin_25 : decode cX1_begin 25 = .ok (.aload_n 0, 1) := by decide +kernel
theorem dX1_begin_26 : decode cX1_begin 26 = .ok (.iconst (-1), 1) := by decide +kernel
theorem dX1_begin_27 : decode cX1_begin 27 = .ok (.putfield 62, 3) := by decide +kernel
theorem dX1_begin_30 : decode cX1_begin 30 = .ok (.aload_n 0, 1) := by decide +kernel
theorem dX1_begin_31 : decode cX1_begin 31 = .ok (.iconst 0, 1) := by decide +kernel
theorem dX1_begin_32 : decode cX1_begin 32 = .ok (.putfield 65, 3) := by decide +kernel
theorem dX1_begin_35 : decode cX1_begin 35 = .ok (.aload_n 0, 1) := by decide +kernel
theorem dX1_begin_36 : decode cX1_begin 36 = .ok (.iconst 0, 1) := by decide +kernel
theorem dX1_begin_37 : decode cX1_begin 37 = .ok (.putfield 68, 3) := by decide +kernel
theorem dX1_begin_40 : decode cX1_begin 40 = .ok (.return_, 1) := by decide +kernel
theorem dX1_addName_0 : decode cX1_addName 0 = .ok (.aload_n 0, 1) := by decide +kernel
theorem dX1_addName_1 : decode cX1_addName 1 = .ok (.getfield 46, 3) := by decide +kernel
theorem dX1_addName_4 : decode cX1_addName 4 = .ok (.aload_n 0, 1) := by decide +kernel
theorem dX1_addName_5 : decode cX1_addName 5 = .ok (.getfield 43, 3) := by decide +kernel
theorem dX1_addName_8 : decode cX1_addName 8 = .ok (.arraylength, 1) := by decide +kernel
theorem dX1_addName_9 : decode cX1_addName 9 = .ok (.if_icmp .ge 23, 3) := by decide +kernel
theorem dX1_addName_12 : decode cX1_addName 12 = .ok (.aload_n 0, 1) := by decide +kernel
theorem dX1_addName_13 : decode cX1_addName 13 = .ok (.getfield 43, 3) := by decide +kernel
theorem dX1_addName_16 : decode cX1_addName 16 = .ok (.aload_n 0, 1) := by decide +kernel
theorem dX1_addName_17 : decode cX1_addName 17 = .ok (.getfield 46, 3) := by decide +kernel
theorem dX1_addName_20 : decode cX1_addName 20 = .ok (.iload_n 1, 1) := by decide +kernel
theorem dX1_addName_21 : decode cX1_addName 21 = .ok (.iastore, 1) := by decide +kernel
theorem dX1_addName_22 : decode cX1_addName 22 = .ok (.aload_n 0, 1) := by decide +kernel
theorem dX1_addName_23 : decode cX1_addName 23 = .ok (.dup, 1) := by decide +kernel
theorem dX1_addName_24 : decode cX1_addName 24 = .ok (.getfield 46, 3) := by decide +kernel
theorem dX1_addName_27 : decode cX1_addName 27 = .ok (.iconst 1, 1) := by decide +kernel
theorem dX1_addName_28 : decode cX1_addName 28 = .ok (.iadd, 1) := by decide +kernel
theorem dX1_addName_29 : decode cX1_addName 29 = .ok (.putfield 46, 3) := by decide +kernel
theorem dX1_addName_32 : decode cX1_addName 32 = .ok (.return_, 1) := by decide +kernel
theorem dX1_addConstant_0 : decode cX1_addConstant 0 = .ok (.aload_n 0, 1) := by decide +kernel
theorem dX1_addConstant_1 : decode cX1_addConstant 1 = .ok (.getfield 50, 3) := by decide +kernel
theorem dX1_addConstant_4 : decode cX1_addConstant 4 = .ok (.bipush 12, 2) := by decide +kernel
theorem dX1_addConstant_6 : decode cX1_addConstant 6 = .ok (.if_icmp .lt 5, 3) := by decide +kernel
theorem dX1_addConstant_9 : decode cX1_addConstant 9 = .ok (.iconst 0, 1) := by decide +kernel
theorem dX1_addConstant_10 : decode cX1_addConstant 10 = .ok (.ireturn, 1) := by decide +kernel
theorem dX1_addConstant_11 : decode cX1_addConstant 11 = .ok (.aload_n 0, 1) := by decide +kernel
theorem dX1_addConstant_12 : decode cX1_addConstant 12 = .ok (.iload_n 1, 1) := by decide +kernel
theorem dX1_addConstant_13 : decode cX1_addConstant 13 = .ok (.invokevirtual 71, 3) := by decide +kernel
theorem dX1_addConstant_16 : decode cX1_addConstant 16 = .ok (.aload_n 0, 1) := by decide +kernel
theorem dX1_addConstant_17 : decode cX1_addConstant 17 = .ok (.getfield 9, 3) := by decide +kernel
theorem dX1_addConstant_20 : decode cX1_addConstant 20 = .ok (.aload_n 0, 1) := by decide +kernel
theorem dX1_addConstant_21 : decode cX1_addConstant 21 = .ok (.getfield 50, 3) := by decide +kernel
theorem dX1_addConstant_24 : decode cX1_addConstant 24 = .ok (.iload_n 1, 1) := by decide +kernel
theorem dX1_addConstant_25 : decode cX1_addConstant 25 = .ok (.iastore, 1) := by decide +kernel
theorem dX1_addConstant_26 : decode cX1_addConstant 26 = .ok (.aload_n 0, 1) := by decide +kernel
theorem dX1_addConstant_27 : decode cX1_addConstant 27 = .ok (.getfield 15, 3) := by decide +kernel
theorem dX1_addConstant_30 : decode cX1_addConstant 30 = .ok (.aload_n 0, 1) := by decide +kernel
theorem dX1_addConstant_31 : decode cX1_addConstant 31 = .ok (.getfield 50, 3) := by decide +kernel
theorem dX1_addConstant_34 : decode cX1_addConstant 34 = .ok (.iconst 0, 1) := by decide +kernel
theorem dX1_addConstant_35 : decode cX1_addConstant 35 = .ok (.iastore, 1) := by decide +kernel
theorem dX1_addConstant_36 : decode cX1_addConstant 36 = .ok (.aload_n 0, 1) := by decide +kernel
theorem dX1_addConstant_37 : decode cX1_addConstant 37 = .ok (.getfield 18, 3) := by decide +kernel
theorem dX1_addConstant_40 : decode cX1_addConstant 40 = .ok (.aload_n 0, 1) := by decide +kernel
theorem dX1_addConstant_41 : decode cX1_addConstant 41 = .ok (.getfield 50, 3) := by decide +kernel
theorem dX1_addConstant_44 : decode cX1_addConstant 44 = .ok (.iconst 0, 1) := by decide +kernel
theorem dX1_addConstant_45 : decode cX1_addConstant 45 = .ok (.bastore, 1) := by decide +kernel
theorem dX1_addConstant_46 : decode cX1_addConstant 46 = .ok (.aload_n 0, 1) := by decide +kernel
theorem dX1_addConstant_47 : decode cX1_addConstant 47 = .ok (.getfield 40, 3) := by decide +kernel
theorem dX1_addConstant_50 : decode cX1_addConstant 50 = .ok (.aload_n 0, 1) := by decide +kernel
theorem dX1_addConstant_51 : decode cX1_addConstant 51 = .ok (.getfield 50, 3) := by decide +kernel
theorem dX1_addConstant_54 : decode cX1_addConstant 54 = .ok (.iconst 0, 1) := by decide +kernel
theorem dX1_addConstant_55 : decode cX1_addConstant 55 = .ok (.iastore, 1) := by decide +kernel
theorem dX1_addConstant_56 : decode cX1_addConstant 56 = .ok (.iconst 0, 1) := by decide +kernel
theorem dX1_addConstant_57 : decode cX1_addConstant 57 = .ok (.istore_n 2, 1) := by decide +kernel
theorem dX1_addConstant_58 : decode cX1_addConstant 58 = .ok (.iload_n 2, 1) := by decide +kernel
theorem dX1_addConstant_59 : decode cX1_addConstant 59 = .ok (.bipush 8, 2) := by decide +kernel
theorem dX1_addConstant_61 : decode cX1_addConstant 61 = .ok (.if_icmp .ge 24, 3) := by decide +kernel
theorem dX1_addConstant_64 : decode cX1_addConstant 64 = .ok (.aload_n 0, 1) := by decide +kernel
theorem dX1_addConstant_65 : decode cX1_addConstant 65 = .ok (.getfield 22, 3) := by decide +kernel
theorem dX1_addConstant_68 : decode cX1_addConstant 68 = .ok (.aload_n 0, 1) := by decide +kernel
theorem dX1_addConstant_69 : decode cX1_addConstant 69 = .ok (.getfield 50, 3) := by decide +kernel
theorem dX1_addConstant_72 : decode cX1_addConstant 72 = .ok (.bipush 8, 2) := by decide +kernel
theorem dX1_addConstant_74 : decode cX1_addConstant 74 = .ok (.imul, 1) := by decide +kernel
theorem dX1_addConstant_75 : decode cX1_addConstant 75 = .ok (.iload_n 2, 1) := by decide +kernel
theorem dX1_addConstant_76 : decode cX1_addConstant 76 = .ok (.iadd, 1) := by decide +kernel
theorem dX1_addConstant_77 : decode cX1_addConstant 77 = .ok (.iconst (-1), 1) := by decide +kernel
theorem dX1_addConstant_78 : decode cX1_addConstant 78 = .ok (.iastore, 1) := by decide +kernel
theorem dX1_addConstant_79 : decode cX1_addConstant 79 = .ok (.iinc 2 1, 3) := by decide +kernel
theorem dX1_addConstant_82 : decode cX1_addConstant 82 = .ok (.goto (-24), 3) := by decide +kernel
theorem dX1_addConstant_85 : decode cX1_addConstant 85 = .ok (.aload_n 0, 1) := by decide +kernel
theorem dX1_addConstant_86 : decode cX1_addConstant 86 = .ok (.dup, 1) := by decide +kernel
theorem dX1_addConstant_87 : decode cX1_addConstant 87 = .ok (.getfield 50, 3) := by decide +kernel
theorem dX1_addConstant_90 : decode cX1_addConstant 90 = .ok (.iconst 1, 1) := by decide +kernel
theorem dX1_addConstant_91 : decode cX1_addConstant 91 = .ok (.iadd, 1) := by decide +kernel
theorem dX1_addConstant_92 : decode cX1_addConstant 92 = .ok (.putfield 50, 3) := by decide +kernel
theorem dX1_addConstant_95 : decode cX1_addConstant 95 = .ok (.iconst 1, 1) := by decide +kernel
theorem dX1_addConstant_96 : decode cX1_addConstant 96 = .ok (.ireturn, 1) := by decide +kernel
theorem dX1_addMember_0 : decode cX1_addMember 0 = .ok (.aload_n 0, 1) := by decide +kernel
theorem dX1_addMember_1 : decode cX1_addMember 1 = .ok (.getfield 53, 3) := by decide +kernel
theorem dX1_addMember_4 : decode cX1_addMember 4 = .ok (.bipush 8, 2) := by decide +kernel
theorem dX1_addMember_6 : decode cX1_addMember 6 = .ok (.if_icmp .lt 5, 3) := by decide +kernel
theorem dX1_addMember_9 : decode cX1_addMember 9 = .ok (.iconst 0, 1) := by decide +kernel
theorem dX1_addMember_10 : decode cX1_addMember 10 = .ok (.ireturn, 1) := by decide +kernel
theorem dX1_addMember_11 : decode cX1_addMember 11 = .ok (.aload_n 0, 1) := by decide +kernel
theorem dX1_addMember_12 : decode cX1_addMember 12 = .ok (.iload_n 1, 1) := by decide +kernel
theorem dX1_addMember_13 : decode cX1_addMember 13 = .ok (.invokevirtual 71, 3) := by decide +kernel
theorem dX1_addMember_16 : decode cX1_addMember 16 = .ok (.aload_n 0, 1) := by decide +kernel
theorem dX1_addMember_17 : decode cX1_addMember 17 = .ok (.getfield 25, 3) := by decide +kernel
theorem dX1_addMember_20 : decode cX1_addMember 20 = .ok (.aload_n 0, 1) := by decide +kernel
theorem dX1_addMember_21 : decode cX1_addMember 21 = .ok (.getfield 53, 3) := by decide +kernel
theorem dX1_addMember_24 : decode cX1_addMember 24 = .ok (.iload_n 1, 1) := by decide +kernel
theorem dX1_addMember_25 : decode cX1_addMember 25 = .ok (.iastore, 1) := by decide +kernel
theorem dX1_addMember_26 : decode cX1_addMember 26 = .ok (.aload_n 0, 1) := by decide +kernel
theorem dX1_addMember_27 : decode cX1_addMember 27 = .ok (.getfield 28, 3) := by decide +kernel
theorem dX1_addMember_30 : decode cX1_addMember 30 = .ok (.aload_n 0, 1) := by decide +kernel
theorem dX1_addMember_31 : decode cX1_addMember 31 = .ok (.getfield 53, 3) := by decide +kernel
theorem dX1_addMember_34 : decode cX1_addMember 34 = .ok (.iload_n 2, 1) := by decide +kernel
theorem dX1_addMember_35 : decode cX1_addMember 35 = .ok (.iastore, 1) := by decide +kernel
theorem dX1_addMember_36 : decode cX1_addMember 36 = .ok (.aload_n 0, 1) := by decide +kernel
theorem dX1_addMember_37 : decode cX1_addMember 37 = .ok (.dup, 1) := by decide +kernel
theorem dX1_addMember_38 : decode cX1_addMember 38 = .ok (.getfield 53, 3) := by decide +kernel
theorem dX1_addMember_41 : decode cX1_addMember 41 = .ok (.iconst 1, 1) := by decide +kernel
theorem dX1_addMember_42 : decode cX1_addMember 42 = .ok (.iadd, 1) := by decide +kernel
theorem dX1_addMember_43 : decode cX1_addMember 43 = .ok (.putfield 53, 3) := by decide +kernel
theorem dX1_addMember_46 : decode cX1_addMember 46 = .ok (.iconst 1, 1) := by decide +kernel
theorem dX1_addMember_47 : decode cX1_addMember 47 = .ok (.ireturn, 1) := by decide +kernel
theorem dX1_addField_0 : decode cX1_addField 0 = .ok (.aload_n 0, 1) := by decide +kernel
theorem dX1_addField_1 : decode cX1_addField 1 = .ok (.getfield 56, 3) := by decide +kernel
theorem dX1_addField_4 : decode cX1_addField 4 = .ok (.bipush 6, 2) := by decide +kernel
theorem dX1_addField_6 : decode cX1_addField 6 = .ok (.if_icmp .lt 5, 3) := by decide +kernel
theorem dX1_addField_9 : decode cX1_addField 9 = .ok (.iconst 0, 1) := by decide +kernel
theorem dX1_addField_10 : decode cX1_addField 10 = .ok (.ireturn, 1) := by decide +kernel
theorem dX1_addField_11 : decode cX1_addField 11 = .ok (.aload_n 0, 1) := by decide +kernel
theorem dX1_addField_12 : decode cX1_addField 12 = .ok (.iload_n 1, 1) := by decide +kernel
theorem dX1_addField_13 : decode cX1_addField 13 = .ok (.invokevirtual 71, 3) := by decide +kernel
theorem dX1_addField_16 : decode cX1_addField 16 = .ok (.aload_n 0, 1) := by decide +kernel
theorem dX1_addField_17 : decode cX1_addField 17 = .ok (.getfield 31, 3) := by decide +kernel
theorem dX1_addField_20 : decode cX1_addField 20 = .ok (.aload_n 0, 1) := by decide +kernel
theorem dX1_addField_21 : decode cX1_addField 21 = .ok (.getfield 56, 3) := by decide +kernel
theorem dX1_addField_24 : decode cX1_addField 24 = .ok (.iload_n 1, 1) := by decide +kernel
theorem dX1_addField_25 : decode cX1_addField 25 = .ok (.iastore, 1) := by decide +kernel
theorem dX1_addField_26 : decode cX1_addField 26 = .ok (.aload_n 0, 1) := by decide +kernel
theorem dX1_addField_27 : decode cX1_addField 27 = .ok (.getfield 34, 3) := by decide +kernel
theorem dX1_addField_30 : decode cX1_addField 30 = .ok (.aload_n 0, 1) := by decide +kernel
theorem dX1_addField_31 : decode cX1_addField 31 = .ok (.getfield 56, 3) := by decide +kernel
theorem dX1_addField_34 : decode cX1_addField 34 = .ok (.iload_n 2, 1) := by decide +kernel
theorem dX1_addField_35 : decode cX1_addField 35 = .ok (.iastore, 1) := by decide +kernel
theorem dX1_addField_36 : decode cX1_addField 36 = .ok (.aload_n 0, 1) := by decide +kernel
theorem dX1_addField_37 : decode cX1_addField 37 = .ok (.getfield 37, 3) := by decide +kernel
theorem dX1_addField_40 : decode cX1_addField 40 = .ok (.aload_n 0, 1) := by decide +kernel
theorem dX1_addField_41 : decode cX1_addField 41 = .ok (.getfield 56, 3) := by decide +kernel
theorem dX1_addField_44 : decode cX1_addField 44 = .ok (.iconst 0, 1) := by decide +kernel
theorem dX1_addField_45 : decode cX1_addField 45 = .ok (.iastore, 1) := by decide +kernel
theorem dX1_addField_46 : decode cX1_addField 46 = .ok (.aload_n 0, 1) := by decide +kernel
theorem dX1_addField_47 : decode cX1_addField 47 = .ok (.dup, 1) := by decide +kernel
theorem dX1_addField_48 : decode cX1_addField 48 = .ok (.getfield 56, 3) := by decide +kernel
theorem dX1_addField_51 : decode cX1_addField 51 = .ok (.iconst 1, 1) := by decide +kernel
theorem dX1_addField_52 : decode cX1_addField 52 = .ok (.iadd, 1) := by decide +kernel
theorem dX1_addField_53 : decode cX1_addField 53 = .ok (.putfield 56, 3) := by decide +kernel
theorem dX1_addField_56 : decode cX1_addField 56 = .ok (.iload_n 2, 1) := by decide +kernel
theorem dX1_addField_57 : decode cX1_addField 57 = .ok (.iconst (-1), 1) := by decide +kernel
theorem dX1_addField_58 : decode cX1_addField 58 = .ok (.if_icmp .eq 13, 3) := by decide +kernel
theorem dX1_addField_61 : decode cX1_addField 61 = .ok (.aload_n 0, 1) := by decide +kernel
theorem dX1_addField_62 : decode cX1_addField 62 = .ok (.dup, 1) := by decide +kernel
theorem dX1_addField_63 : decode cX1_addField 63 = .ok (.getfield 59, 3) := by decide +kernel
theorem dX1_addField_66 : decode cX1_addField 66 = .ok (.iconst 1, 1) := by decide +kernel
theorem dX1_addField_67 : decode cX1_addField 67 = .ok (.iadd, 1) := by decide +kernel
theorem dX1_addField_68 : decode cX1_addField 68 = .ok (.putfield 59, 3) := by decide +kernel
theorem dX1_addField_71 : decode cX1_addField 71 = .ok (.iconst 1, 1) := by decide +kernel
theorem dX1_addField_72 : decode cX1_addField 72 = .ok (.ireturn, 1) := by decide +kernel
theorem dX1_hasConstant_0 : decode cX1_hasConstant 0 = .ok (.iload_n 1, 1) := by decide +kernel
theorem dX1_hasConstant_1 : decode cX1_hasConstant 1 = .ok (.ifCond .lt 21, 3) := by decide +kernel
theorem dX1_hasConstant_4 : decode cX1_hasConstant 4 = .ok (.iload_n 1, 1) := by decide +kernel
theorem dX1_hasConstant_5 : decode cX1_hasConstant 5 = .ok (.aload_n 0, 1) := by decide +kernel
theorem dX1_hasConstant_6 : decode cX1_hasConstant 6 = .ok (.getfield 50, 3) := by decide +kernel
theorem dX1_hasConstant_9 : decode cX1_hasConstant 9 = .ok (.if_icmp .ge 13, 3) := by decide +kernel
theorem dX1_hasConstant_12 : decode cX1_hasConstant 12 = .ok (.iload_n 1, 1) := by decide +kernel
theorem dX1_hasConstant_13 : decode cX1_hasConstant 13 = .ok (.bipush 12, 2) := by decide +kernel
theorem dX1_hasConstant_15 : decode cX1_hasConstant 15 = .ok (.if_icmp .ge 7, 3) := by decide +kernel
theorem dX1_hasConstant_18 : decode cX1_hasConstant 18 = .ok (.iconst 1, 1) := by decide +kernel
theorem dX1_hasConstant_19 : decode cX1_hasConstant 19 = .ok (.goto 4, 3) := by decide +kernel
theorem dX1_hasConstant_22 : decode cX1_hasConstant 22 = .ok (.iconst 0, 1) := by decide +kernel
theorem dX1_hasConstant_23 : decode cX1_hasConstant 23 = .ok (.ireturn, 1) := by decide +kernel
theorem dX1_hasMember_0 : decode cX1_hasMember 0 = .ok (.iload_n 1, 1) := by decide +kernel
theorem dX1_hasMember_1 : decode cX1_hasMember 1 = .ok (.ifCond .lt 21, 3) := by decide +kernel
theorem dX1_hasMember_4 : decode cX1_hasMember 4 = .ok (.iload_n 1, 1) := by decide +kernel
theorem dX1_hasMember_5 : decode cX1_hasMember 5 = .ok (.aload_n 0, 1) := by decide +kernel
theorem dX1_hasMember_6 : decode cX1_hasMember 6 = .ok (.getfield 53, 3) := by decide +kernel
theorem dX1_hasMember_9 : decode cX1_hasMember 9 = .ok (.if_icmp .ge 13, 3) := by decide +kernel
theorem dX1_hasMember_12 : decode cX1_hasMember 12 = .ok (.iload_n 1, 1) := by decide +kernel
theorem dX1_hasMember_13 : decode cX1_hasMember 13 = .ok (.bipush 8, 2) := by decide +kernel
theorem dX1_hasMember_15 : decode cX1_hasMember 15 = .ok (.if_icmp .ge 7, 3) := by decide +kernel
theorem dX1_hasMember_18 : decode cX1_hasMember 18 = .ok (.iconst 1, 1) := by decide +kernel
theorem dX1_hasMember_19 : decode cX1_hasMember 19 = .ok (.goto 4, 3) := by decide +kernel
theorem dX1_hasMember_22 : decode cX1_hasMember 22 = .ok (.iconst 0, 1) := by decide +kernel
theorem dX1_hasMember_23 : decode cX1_hasMember 23 = .ok (.ireturn, 1) := by decide +kernel
theorem dX1_hasField_0 : decode cX1_hasField 0 = .ok (.iload_n 1, 1) := by decide +kernel
theorem dX1_hasField_1 : decode cX1_hasField 1 = .ok (.ifCond .lt 21, 3) := by decide +kernel
theorem dX1_hasField_4 : decode cX1_hasField 4 = .ok (.iload_n 1, 1) := by decide +kernel
theorem dX1_hasField_5 : decode cX1_hasField 5 = .ok (.aload_n 0, 1) := by decide +kernel
theorem dX1_hasField_6 : decode cX1_hasField 6 = .ok (.getfield 56, 3) := by decide +kernel
theorem dX1_hasField_9 : decode cX1_hasField 9 = .ok (.if_icmp .ge 13, 3) := by decide +kernel
theorem dX1_hasField_12 : decode cX1_hasField 12 = .ok (.iload_n 1, 1) := by decide +kernel
theorem dX1_hasField_13 : decode cX1_hasField 13 = .ok (.bipush 6, 2) := by decide +kernel
theorem dX1_hasField_15 : decode cX1_hasField 15 = .ok (.if_icmp .ge 7, 3) := by decide +kernel
theorem dX1_hasField_18 : decode cX1_hasField 18 = .ok (.iconst 1, 1) := by decide +kernel
theorem dX1_hasField_19 : decode cX1_hasField 19 = .ok (.goto 4, 3) := by decide +kernel
theorem dX1_hasField_22 : decode cX1_hasField 22 = .ok (.iconst 0, 1) := by decide +kernel
theorem dX1_hasField_23 : decode cX1_hasField 23 = .ok (.ireturn, 1) := by decide +kernel
theorem dX1_isWorked_0 : decode cX1_isWorked 0 = .ok (.aload_n 0, 1) := by decide +kernel
theorem dX1_isWorked_1 : decode cX1_isWorked 1 = .ok (.iload_n 1, 1) := by decide +kernel
theorem dX1_isWorked_2 : decode cX1_isWorked 2 = .ok (.invokevirtual 75, 3) := by decide +kernel
theorem dX1_isWorked_5 : decode cX1_isWorked 5 = .ok (.ifCond .eq 17, 3) := by decide +kernel
theorem dX1_isWorked_8 : decode cX1_isWorked 8 = .ok (.aload_n 0, 1) := by decide +kernel
theorem dX1_isWorked_9 : decode cX1_isWorked 9 = .ok (.getfield 34, 3) := by decide +kernel
theorem dX1_isWorked_12 : decode cX1_isWorked 12 = .ok (.iload_n 1, 1) := by decide +kernel
theorem dX1_isWorked_13 : decode cX1_isWorked 13 = .ok (.iaload, 1) := by decide +kernel
theorem dX1_isWorked_14 : decode cX1_isWorked 14 = .ok (.iconst (-1), 1) := by decide +kernel
theorem dX1_isWorked_15 : decode cX1_isWorked 15 = .ok (.if_icmp .eq 7, 3) := by decide +kernel
theorem dX1_isWorked_18 : decode cX1_isWorked 18 = .ok (.iconst 1, 1) := by decide +kernel
theorem dX1_isWorked_19 : decode cX1_isWorked 19 = .ok (.goto 4, 3) := by decide +kernel
theorem dX1_isWorked_22 : decode cX1_isWorked 22 = .ok (.iconst 0, 1) := by decide +kernel
theorem dX1_isWorked_23 : decode cX1_isWorked 23 = .ok (.ireturn, 1) := by decide +kernel
theorem dX1_isAbstract_0 : decode cX1_isAbstract 0 = .ok (.aload_n 0, 1) := by decide +kernel
theorem dX1_isAbstract_1 : decode cX1_isAbstract 1 = .ok (.iload_n 1, 1) := by decide +kernel
theorem dX1_isAbstract_2 : decode cX1_isAbstract 2 = .ok (.invokevirtual 79, 3) := by decide +kernel
theorem dX1_isAbstract_5 : decode cX1_isAbstract 5 = .ok (.ifCond .eq 17, 3) := by decide +kernel
theorem dX1_isAbstract_8 : decode cX1_isAbstract 8 = .ok (.aload_n 0, 1) := by decide +kernel
theorem dX1_isAbstract_9 : decode cX1_isAbstract 9 = .ok (.getfield 28, 3) := by decide +kernel
theorem dX1_isAbstract_12 : decode cX1_isAbstract 12 = .ok (.iload_n 1, 1) := by decide +kernel
theorem dX1_isAbstract_13 : decode cX1_isAbstract 13 = .ok (.iaload, 1) := by decide +kernel
theorem dX1_isAbstract_14 : decode cX1_isAbstract 14 = .ok (.iconst (-1), 1) := by decide +kernel
theorem dX1_isAbstract_15 : decode cX1_isAbstract 15 = .ok (.if_icmp .ne 7, 3) := by decide +kernel
theorem dX1_isAbstract_18 : decode cX1_isAbstract 18 = .ok (.iconst 1, 1) := by decide +kernel
theorem dX1_isAbstract_19 : decode cX1_isAbstract 19 = .ok (.goto 4, 3) := by decide +kernel
theorem dX1_isAbstract_22 : decode cX1_isAbstract 22 = .ok (.iconst 0, 1) := by decide +kernel
theorem dX1_isAbstract_23 : decode cX1_isAbstract 23 = .ok (.ireturn, 1) := by decide +kernel
theorem dX1_giveCode_0 : decode cX1_giveCode 0 = .ok (.aload_n 0, 1) := by decide +kernel
theorem dX1_giveCode_1 : decode cX1_giveCode 1 = .ok (.iload_n 1, 1) := by decide +kernel
theorem dX1_giveCode_2 : decode cX1_giveCode 2 = .ok (.invokevirtual 82, 3) := by decide +kernel
theorem dX1_giveCode_5 : decode cX1_giveCode 5 = .ok (.ifCond .eq 25, 3) := by decide +kernel
theorem dX1_giveCode_8 : decode cX1_giveCode 8 = .ok (.aload_n 0, 1) := by decide +kernel
theorem dX1_giveCode_9 : decode cX1_giveCode 9 = .ok (.iload_n 2, 1) := by decide +kernel
theorem dX1_giveCode_10 : decode cX1_giveCode 10 = .ok (.invokevirtual 79, 3) := by decide +kernel
theorem dX1_giveCode_13 : decode cX1_giveCode 13 = .ok (.ifCond .eq 17, 3) := by decide +kernel
theorem dX1_giveCode_16 : decode cX1_giveCode 16 = .ok (.aload_n 0, 1) := by decide +kernel
theorem dX1_giveCode_17 : decode cX1_giveCode 17 = .ok (.getfield 22, 3) := by decide +kernel
theorem dX1_giveCode_20 : decode cX1_giveCode 20 = .ok (.iload_n 1, 1) := by decide +kernel
theorem dX1_giveCode_21 : decode cX1_giveCode 21 = .ok (.bipush 8, 2) := by decide +kernel
theorem dX1_giveCode_23 : decode cX1_giveCode 23 = .ok (.imul, 1) := by decide +kernel
theorem dX1_giveCode_24 : decode cX1_giveCode 24 = .ok (.iload_n 2, 1) := by decide +kernel
theorem dX1_giveCode_25 : decode cX1_giveCode 25 = .ok (.iadd, 1) := by decide +kernel
theorem dX1_giveCode_26 : decode cX1_giveCode 26 = .ok (.iaload, 1) := by decide +kernel
theorem dX1_giveCode_27 : decode cX1_giveCode 27 = .ok (.goto 4, 3) := by decide +kernel
theorem dX1_giveCode_30 : decode cX1_giveCode 30 = .ok (.iconst (-1), 1) := by decide +kernel
theorem dX1_giveCode_31 : decode cX1_giveCode 31 = .ok (.ireturn, 1) := by decide +kernel
theorem dX1_codeOf_0 : decode cX1_codeOf 0 = .ok (.aload_n 0, 1) := by decide +kernel
theorem dX1_codeOf_1 : decode cX1_codeOf 1 = .ok (.iload_n 1, 1) := by decide +kernel
theorem dX1_codeOf_2 : decode cX1_codeOf 2 = .ok (.iload_n 2, 1) := by decide +kernel
theorem dX1_codeOf_3 : decode cX1_codeOf 3 = .ok (.invokevirtual 85, 3) := by decide +kernel
theorem dX1_codeOf_6 : decode cX1_codeOf 6 = .ok (.istore_n 3, 1) := by decide +kernel
theorem dX1_codeOf_7 : decode cX1_codeOf 7 = .ok (.iload_n 3, 1) := by decide +kernel
theorem dX1_codeOf_8 : decode cX1_codeOf 8 = .ok (.iconst (-1), 1) := by decide +kernel
theorem dX1_codeOf_9 : decode cX1_codeOf 9 = .ok (.if_icmp .ne 20, 3) := by decide +kernel
theorem dX1_codeOf_12 : decode cX1_codeOf 12 = .ok (.aload_n 0, 1) := by decide +kernel
theorem dX1_codeOf_13 : decode cX1_codeOf 13 = .ok (.iload_n 2, 1) := by decide +kernel
theorem dX1_codeOf_14 : decode cX1_codeOf 14 = .ok (.invokevirtual 79, 3) := by decide +kernel
theorem dX1_codeOf_17 : decode cX1_codeOf 17 = .ok (.ifCond .eq 12, 3) := by decide +kernel
theorem dX1_codeOf_20 : decode cX1_codeOf 20 = .ok (.aload_n 0, 1) := by decide +kernel
theorem dX1_codeOf_21 : decode cX1_codeOf 21 = .ok (.getfield 28, 3) := by decide +kernel
theorem dX1_codeOf_24 : decode cX1_codeOf 24 = .ok (.iload_n 2, 1) := by decide +kernel
theorem dX1_codeOf_25 : decode cX1_codeOf 25 = .ok (.iaload, 1) := by decide +kernel
theorem dX1_codeOf_26 : decode cX1_codeOf 26 = .ok (.goto 4, 3) := by decide +kernel
theorem dX1_codeOf_29 : decode cX1_codeOf 29 = .ok (.iload_n 3, 1) := by decide +kernel
theorem dX1_codeOf_30 : decode cX1_codeOf 30 = .ok (.ireturn, 1) := by decide +kernel
theorem dX2_init_0 : decode cX2_init 0 = .ok (.aload_n 0, 1) := by decide +kernel
theorem dX2_init_1 : decode cX2_init 1 = .ok (.invokespecial 3, 3) := by decide +kernel
theorem dX2_init_4 : decode cX2_init 4 = .ok (.aload_n 0, 1) := by decide +kernel
theorem dX2_init_5 : decode cX2_init 5 = .ok (.bipush 26, 2) := by decide +kernel
theorem dX2_init_7 : decode cX2_init 7 = .ok (.newarray .int, 2) := by decide +kernel
theorem dX2_init_9 : decode cX2_init 9 = .ok (.putfield 9, 3) := by decide +kernel
theorem dX2_init_12 : decode cX2_init 12 = .ok (.return_, 1) := by decide +kernel
theorem dX2_begin_0 : decode cX2_begin 0 = .ok (.aload_n 0, 1) := by decide +kernel
theorem dX2_begin_1 : decode cX2_begin 1 = .ok (.aload_n 1, 1) := by decide +kernel
theorem dX2_begin_2 : decode cX2_begin 2 = .ok (.putfield 15, 3) := by decide +kernel
theorem dX2_begin_5 : decode cX2_begin 5 = .ok (.aload_n 0, 1) := by decide +kernel
theorem dX2_begin_6 : decode cX2_begin 6 = .ok (.aload_n 2, 1) := by decide +kernel
theorem dX2_begin_7 : decode cX2_begin 7 = .ok (.putfield 19, 3) := by decide +kernel
theorem dX2_begin_10 : decode cX2_begin 10 = .ok (.aload_n 0, 1) := by decide +kernel
theorem dX2_begin_11 : decode cX2_begin 11 = .ok (.aload_n 3, 1) := by decide +kernel
theorem dX2_begin_12 : decode cX2_begin 12 = .ok (.putfield 23, 3) := by decide +kernel
theorem dX2_begin_15 : decode cX2_begin 15 = .ok (.return_, 1) := by decide +kernel
theorem dX2_read_0 : decode cX2_read 0 = .ok (.aload_n 0, 1) := by decide +kernel
theorem dX2_read_1 : decode cX2_read 1 = .ok (.iload_n 1, 1) := by decide +kernel
theorem dX2_read_2 : decode cX2_read 2 = .ok (.putfield 27, 3) := by decide +kernel
theorem dX2_read_5 : decode cX2_read 5 = .ok (.aload_n 0, 1) := by decide +kernel
theorem dX2_read_6 : decode cX2_read 6 = .ok (.iconst 0, 1) := by decide +kernel
theorem dX2_read_7 : decode cX2_read 7 = .ok (.putfield 31, 3) := by decide +kernel
theorem dX2_read_10 : decode cX2_read 10 = .ok (.aload_n 0, 1) := by decide +kernel
theorem dX2_read_11 : decode cX2_read 11 = .ok (.iconst 0, 1) := by decide +kernel
theorem dX2_read_12 : decode cX2_read 12 = .ok (.putfield 34, 3) := by decide +kernel
theorem dX2_read_15 : decode cX2_read 15 = .ok (.aload_n 0, 1) := by decide +kernel
theorem dX2_read_16 : decode cX2_read 16 = .ok (.iconst 0, 1) := by decide +kernel
theorem dX2_read_17 : decode cX2_read 17 = .ok (.putfield 37, 3) := by decide +kernel
theorem dX2_read_20 : decode cX2_read 20 = .ok (.aload_n 0, 1) := by decide +kernel
theorem dX2_read_21 : decode cX2_read 21 = .ok (.iconst 0, 1) := by decide +kernel
theorem dX2_read_22 : decode cX2_read 22 = .ok (.putfield 40, 3) := by decide +kernel
theorem dX2_read_25 : decode cX2_read 25 = .ok (.iconst 0, 1) := by decide +kernel
theorem dX2_read_26 : decode cX2_read 26 = .ok (.istore_n 2, 1) := by decide +kernel
theorem dX2_read_27 : decode cX2_read 27 = .ok (.iload_n 2, 1) := by decide +kernel
theorem dX2_read_28 : decode cX2_read 28 = .ok (.bipush 20, 2) := by decide +kernel
theorem dX2_read_30 : decode cX2_read 30 = .ok (.if_icmp .gt 57, 3) := by decide +kernel
theorem dX2_read_33 : decode cX2_read 33 = .ok (.aload_n 0, 1) := by decide +kernel
theorem dX2_read_34 : decode cX2_read 34 = .ok (.invokevirtual 43, 3) := by decide +kernel
theorem dX2_read_37 : decode cX2_read 37 = .ok (.ifCond .eq 17, 3) := by decide +kernel
theorem dX2_read_40 : decode cX2_read 40 = .ok (.aload_n 0, 1) := by decide +kernel
theorem dX2_read_41 : decode cX2_read 41 = .ok (.invokevirtual 47, 3) := by decide +kernel
theorem dX2_read_44 : decode cX2_read 44 = .ok (.ifCond .eq 10, 3) := by decide +kernel
theorem dX2_read_47 : decode cX2_read 47 = .ok (.aload_n 0, 1) := by decide +kernel
theorem dX2_read_48 : decode cX2_read 48 = .ok (.invokevirtual 50, 3) := by decide +kernel
theorem dX2_read_51 : decode cX2_read 51 = .ok (.ifCond .ne 5, 3) := by decide +kernel
theorem dX2_read_54 : decode cX2_read 54 = .ok (.iconst 0, 1) := by decide +kernel
theorem dX2_read_55 : decode cX2_read 55 = .ok (.ireturn, 1) := by decide +kernel
theorem dX2_read_56 : decode cX2_read 56 = .ok (.aload_n 0, 1) := by decide +kernel
theorem dX2_read_57 : decode cX2_read 57 = .ok (.invokevirtual 53, 3) := by decide +kernel
theorem dX2_read_60 : decode cX2_read 60 = .ok (.istore_n 3, 1) := by decide +kernel
theorem dX2_read_61 : decode cX2_read 61 = .ok (.iload_n 3, 1) := by decide +kernel
theorem dX2_read_62 : decode cX2_read 62 = .ok (.iconst (-1), 1) := by decide +kernel
theorem dX2_read_63 : decode cX2_read 63 = .ok (.if_icmp .ne 8, 3) := by decide +kernel
theorem dX2_read_66 : decode cX2_read 66 = .ok (.aload_n 0, 1) := by decide +kernel
theorem dX2_read_67 : decode cX2_read 67 = .ok (.invokevirtual 57, 3) := by decide +kernel
theorem dX2_read_70 : decode cX2_read 70 = .ok (.ireturn, 1) := by decide +kernel
theorem dX2_read_71 : decode cX2_read 71 = .ok (.aload_n 0, 1) := by decide +kernel
theorem dX2_read_72 : decode cX2_read 72 = .ok (.iload_n 3, 1) := by decide +kernel
theorem dX2_read_73 : decode cX2_read 73 = .ok (.invokevirtual 60, 3) := by decide +kernel
theorem dX2_read_76 : decode cX2_read 76 = .ok (.ifCond .ne 5, 3) := by decide +kernel
theorem dX2_read_79 : decode cX2_read 79 = .ok (.iconst 0, 1) := by decide +kernel
theorem dX2_read_80 : decode cX2_read 80 = .ok (.ireturn, 1) := by decide +kernel
theorem dX2_read_81 : decode cX2_read 81 = .ok (.iinc 2 1, 3) := by decide +kernel
theorem dX2_read_84 : decode cX2_read 84 = .ok (.goto (-57), 3) := by decide +kernel
theorem dX2_read_87 : decode cX2_read 87 = .ok (.iconst 0, 1) := by decide +kernel
theorem dX2_read_88 : decode cX2_read 88 = .ok (.ireturn, 1) := by decide +kernel
theorem dX2_readNesting_0 : decode cX2_readNesting 0 = .ok (.iconst 0, 1) := by decide +kernel
theorem dX2_readNesting_1 : decode cX2_readNesting 1 = .ok (.istore_n 1, 1) := by decide +kernel
theorem dX2_readNesting_2 : decode cX2_readNesting 2 = .ok (.iload_n 1, 1) := by decide +kernel
theorem dX2_readNesting_3 : decode cX2_readNesting 3 = .ok (.bipush 8, 2) := by decide +kernel
theorem dX2_readNesting_5 : decode cX2_readNesting 5 = .ok (.if_icmp .gt 106, 3) := by decide +kernel
theorem dX2_readNesting_8 : decode cX2_readNesting 8 = .ok (.aload_n 0, 1) := by decide +kernel
theorem dX2_readNesting_9 : decode cX2_readNesting 9 = .ok (.getfield 15, 3) := by decide +kernel
theorem dX2_readNesting_12 : decode cX2_readNesting 12 = .ok (.getfield 64, 3) := by decide +kernel
theorem dX2_readNesting_15 : decode cX2_readNesting 15 = .ok (.bipush 40, 2) := by decide +kernel
theorem dX2_readNesting_17 : decode cX2_readNesting 17 = .ok (.if_icmp .eq 15, 3) := by decide +kernel
theorem dX2_readNesting_20 : decode cX2_readNesting 20 = .ok (.aload_n 0, 1) := by decide +kernel
theorem dX2_readNesting_21 : decode cX2_readNesting 21 = .ok (.getfield 15, 3) := by decide +kernel
theorem dX2_readNesting_24 : decode cX2_readNesting 24 = .ok (.getfield 64, 3) := by decide +kernel
theorem dX2_readNesting_27 : decode cX2_readNesting 27 = .ok (.bipush 45, 2) := by decide +kernel
theorem dX2_readNesting_29 : decode cX2_readNesting 29 = .ok (.if_icmp .ne 82, 3) := by decide +kernel
theorem dX2_readNesting_32 : decode cX2_readNesting 32 = .ok (.aload_n 0, 1) := by decide +kernel
theorem dX2_readNesting_33 : decode cX2_readNesting 33 = .ok (.getfield 37, 3) := by decide +kernel
theorem dX2_readNesting_36 : decode cX2_readNesting 36 = .ok (.bipush 8, 2) := by decide +kernel
theorem dX2_readNesting_38 : decode cX2_readNesting 38 = .ok (.if_icmp .lt 5, 3) := by decide +kernel
theorem dX2_readNesting_41 : decode cX2_readNesting 41 = .ok (.iconst 0, 1) := by decide +kernel
theorem dX2_readNesting_42 : decode cX2_readNesting 42 = .ok (.ireturn, 1) := by decide +kernel
theorem dX2_readNesting_43 : decode cX2_readNesting 43 = .ok (.aload_n 0, 1) := by decide +kernel
theorem dX2_readNesting_44 : decode cX2_readNesting 44 = .ok (.dup, 1) := by decide +kernel
theorem dX2_readNesting_45 : decode cX2_readNesting 45 = .ok (.getfield 37, 3) := by decide +kernel
theorem dX2_readNesting_48 : decode cX2_readNesting 48 = .ok (.iconst 1, 1) := by decide +kernel
theorem dX2_readNesting_49 : decode cX2_readNesting 49 = .ok (.iadd, 1) := by decide +kernel
theorem dX2_readNesting_50 : decode cX2_readNesting 50 = .ok (.putfield 37, 3) := by decide +kernel
theorem dX2_readNesting_53 : decode cX2_readNesting 53 = .ok (.aload_n 0, 1) := by decide +kernel
theorem dX2_readNesting_54 : decode cX2_readNesting 54 = .ok (.getfield 15, 3) := by decide +kernel
theorem dX2_readNesting_57 : decode cX2_readNesting 57 = .ok (.getfield 64, 3) := by decide +kernel
theorem dX2_readNesting_60 : decode cX2_readNesting 60 = .ok (.bipush 40, 2) := by decide +kernel
theorem dX2_readNesting_62 : decode cX2_readNesting 62 = .ok (.if_icmp .ne 13, 3) := by decide +kernel
theorem dX2_readNesting_65 : decode cX2_readNesting 65 = .ok (.aload_n 0, 1) := by decide +kernel
theorem dX2_readNesting_66 : decode cX2_readNesting 66 = .ok (.dup, 1) := by decide +kernel
theorem dX2_readNesting_67 : decode cX2_readNesting 67 = .ok (.getfield 34, 3) := by decide +kernel
theorem dX2_readNesting_70 : decode cX2_readNesting 70 = .ok (.iconst 1, 1) := by decide +kernel
theorem dX2_readNesting_71 : decode cX2_readNesting 71 = .ok (.iadd, 1) := by decide +kernel
theorem dX2_readNesting_72 : decode cX2_readNesting 72 = .ok (.putfield 34, 3) := by decide +kernel
theorem dX2_readNesting_75 : decode cX2_readNesting 75 = .ok (.aload_n 0, 1) := by decide +kernel
theorem dX2_readNesting_76 : decode cX2_readNesting 76 = .ok (.aload_n 0, 1) := by decide +kernel
theorem dX2_readNesting_77 : decode cX2_readNesting 77 = .ok (.getfield 15, 3) := by decide +kernel
theorem dX2_readNesting_80 : decode cX2_readNesting 80 = .ok (.getfield 64, 3) := by decide +kernel
theorem dX2_readNesting_83 : decode cX2_readNesting 83 = .ok (.bipush 40, 2) := by decide +kernel
theorem dX2_readNesting_85 : decode cX2_readNesting 85 = .ok (.if_icmp .ne 7, 3) := by decide +kernel
theorem dX2_readNesting_88 : decode cX2_readNesting 88 = .ok (.iconst (-1), 1) := by decide +kernel
theorem dX2_readNesting_89 : decode cX2_readNesting 89 = .ok (.goto 5, 3) := by decide +kernel
theorem dX2_readNesting_92 : decode cX2_readNesting 92 = .ok (.bipush 7, 2) := by decide +kernel
theorem dX2_readNesting_94 : decode cX2_readNesting 94 = .ok (.invokevirtual 71, 3) := by decide +kernel
theorem dX2_readNesting_97 : decode cX2_readNesting 97 = .ok (.aload_n 0, 1) := by decide +kernel
theorem dX2_readNesting_98 : decode cX2_readNesting 98 = .ok (.getfield 15, 3) := by decide +kernel
theorem dX2_readNesting_101 : decode cX2_readNesting 101 = .ok (.invokevirtual 75, 3) := by decide +kernel
theorem dX2_readNesting_104 : decode cX2_readNesting 104 = .ok (.pop, 1) := by decide +kernel
theorem dX2_readNesting_105 : decode cX2_readNesting 105 = .ok (.iinc 1 1, 3) := by decide +kernel
theorem dX2_readNesting_108 : decode cX2_readNesting 108 = .ok (.goto (-106), 3) := by decide +kernel
theorem dX2_readNesting_111 : decode cX2_readNesting 111 = .ok (.iconst 1, 1) := by decide +kernel
theorem dX2_readNesting_112 : decode cX2_readNesting 112 = .ok (.ireturn, 1) := by decide +kernel
theorem dX2_readOne_0 : decode cX2_readOne 0 = .ok (.aload_n 0, 1) := by decide +kernel
theorem dX2_readOne_1 : decode cX2_readOne 1 = .ok (.getfield 15, 3) := by decide +kernel
theorem dX2_readOne_4 : decode cX2_readOne 4 = .ok (.getfield 64, 3) := by decide +kernel
theorem dX2_readOne_7 : decode cX2_readOne 7 = .ok (.tableswitch 161 128 140 #[99, 65, 161, 161, 161, 161, 161, 161, 161, 161, 104, 123, 141], 65) := by decide +kernel
theorem dX2_readOne_72 : decode cX2_readOne 72 = .ok (.aload_n 0, 1) := by decide +kernel
theorem dX2_readOne_73 : decode cX2_readOne 73 = .ok (.getfield 19, 3) := by decide +kernel
theorem dX2_readOne_76 : decode cX2_readOne 76 = .ok (.iconst 1, 1) := by decide +kernel
theorem dX2_readOne_77 : decode cX2_readOne 77 = .ok (.aload_n 0, 1) := by decide +kernel
theorem dX2_readOne_78 : decode cX2_readOne 78 = .ok (.getfield 15, 3) := by decide +kernel
theorem dX2_readOne_81 : decode cX2_readOne 81 = .ok (.getfield 78, 3) := by decide +kernel
theorem dX2_readOne_84 : decode cX2_readOne 84 = .ok (.invokevirtual 81, 3) := by decide +kernel
theorem dX2_readOne_87 : decode cX2_readOne 87 = .ok (.ifCond .eq 17, 3) := by decide +kernel
theorem dX2_readOne_90 : decode cX2_readOne 90 = .ok (.aload_n 0, 1) := by decide +kernel
theorem dX2_readOne_91 : decode cX2_readOne 91 = .ok (.getfield 15, 3) := by decide +kernel
theorem dX2_readOne_94 : decode cX2_readOne 94 = .ok (.invokevirtual 75, 3) := by decide +kernel
theorem dX2_readOne_97 : decode cX2_readOne 97 = .ok (.ifCond .eq 7, 3) := by decide +kernel
theorem dX2_readOne_100 : decode cX2_readOne 100 = .ok (.iconst 1, 1) := by decide +kernel
theorem dX2_readOne_101 : decode cX2_readOne 101 = .ok (.goto 4, 3) := by decide +kernel
theorem dX2_readOne_104 : decode cX2_readOne 104 = .ok (.iconst 0, 1) := by decide +kernel
theorem dX2_readOne_105 : decode cX2_readOne 105 = .ok (.ireturn, 1) := by decide +kernel
theorem dX2_readOne_106 : decode cX2_readOne 106 = .ok (.aload_n 0, 1) := by decide +kernel
theorem dX2_readOne_107 : decode cX2_readOne 107 = .ok (.invokevirtual 87, 3) := by decide +kernel
theorem dX2_readOne_110 : decode cX2_readOne 110 = .ok (.ireturn, 1) := by decide +kernel
theorem dX2_readOne_111 : decode cX2_readOne 111 = .ok (.aload_n 0, 1) := by decide +kernel
theorem dX2_readOne_112 : decode cX2_readOne 112 = .ok (.iconst 4, 1) := by decide +kernel
theorem dX2_readOne_113 : decode cX2_readOne 113 = .ok (.aload_n 0, 1) := by decide +kernel
theorem dX2_readOne_114 : decode cX2_readOne 114 = .ok (.getfield 27, 3) := by decide +kernel
theorem dX2_readOne_117 : decode cX2_readOne 117 = .ok (.iconst 2, 1) := by decide +kernel
theorem dX2_readOne_118 : decode cX2_readOne 118 = .ok (.if_icmp .ne 7, 3) := by decide +kernel
theorem dX2_readOne_121 : decode cX2_readOne 121 = .ok (.iconst 1, 1) := by decide +kernel
theorem dX2_readOne_122 : decode cX2_readOne 122 = .ok (.goto 4, 3) := by decide +kernel
theorem dX2_readOne_125 : decode cX2_readOne 125 = .ok (.iconst 0, 1) := by decide +kernel
theorem dX2_readOne_126 : decode cX2_readOne 126 = .ok (.invokevirtual 90, 3) := by decide +kernel
theorem dX2_readOne_129 : decode cX2_readOne 129 = .ok (.ireturn, 1) := by decide +kernel
theorem dX2_readOne_130 : decode cX2_readOne 130 = .ok (.aload_n 0, 1) := by decide +kernel
theorem dX2_readOne_131 : decode cX2_readOne 131 = .ok (.iconst 5, 1) := by decide +kernel
theorem dX2_readOne_132 : decode cX2_readOne 132 = .ok (.aload_n 0, 1) := by decide +kernel
theorem dX2_readOne_133 : decode cX2_readOne 133 = .ok (.getfield 27, 3) := by decide +kernel
theorem dX2_readOne_136 : decode cX2_readOne 136 = .ok (.ifCond .ne 7, 3) := by decide +kernel
theorem dX2_readOne_139 : decode cX2_readOne 139 = .ok (.iconst 1, 1) := by decide +kernel
theorem dX2_readOne_140 : decode cX2_readOne 140 = .ok (.goto 4, 3) := by decide +kernel
theorem dX2_readOne_143 : decode cX2_readOne 143 = .ok (.iconst 0, 1) := by decide +kernel
theorem dX2_readOne_144 : decode cX2_readOne 144 = .ok (.invokevirtual 90, 3) := by decide +kernel
theorem dX2_readOne_147 : decode cX2_readOne 147 = .ok (.ireturn, 1) := by decide +kernel
theorem dX2_readOne_148 : decode cX2_readOne 148 = .ok (.aload_n 0, 1) := by decide +kernel
theorem dX2_readOne_149 : decode cX2_readOne 149 = .ok (.bipush 6, 2) := by decide +kernel
theorem dX2_readOne_151 : decode cX2_readOne 151 = .ok (.aload_n 0, 1) := by decide +kernel
theorem dX2_readOne_152 : decode cX2_readOne 152 = .ok (.getfield 27, 3) := by decide +kernel
theorem dX2_readOne_155 : decode cX2_readOne 155 = .ok (.iconst 1, 1) := by decide +kernel
theorem dX2_readOne_156 : decode cX2_readOne 156 = .ok (.if_icmp .eq 7, 3) := by decide +kernel
theorem dX2_readOne_159 : decode cX2_readOne 159 = .ok (.iconst 1, 1) := by decide +kernel
theorem dX2_readOne_160 : decode cX2_readOne 160 = .ok (.goto 4, 3) := by decide +kernel
theorem dX2_readOne_163 : decode cX2_readOne 163 = .ok (.iconst 0, 1) := by decide +kernel
theorem dX2_readOne_164 : decode cX2_readOne 164 = .ok (.invokevirtual 90, 3) := by decide +kernel
theorem dX2_readOne_167 : decode cX2_readOne 167 = .ok (.ireturn, 1) := by decide +kernel
theorem dX2_readOne_168 : decode cX2_readOne 168 = .ok (.iconst 0, 1) := by decide +kernel
theorem dX2_readOne_169 : decode cX2_readOne 169 = .ok (.ireturn, 1) := by decide +kernel
theorem dX2_readName_0 : decode cX2_readName 0 = .ok (.aload_n 0, 1) := by decide +kernel
theorem dX2_readName_1 : decode cX2_readName 1 = .ok (.getfield 15, 3) := by decide +kernel
theorem dX2_readName_4 : decode cX2_readName 4 = .ok (.getfield 94, 3) := by decide +kernel
theorem dX2_readName_7 : decode cX2_readName 7 = .ok (.istore_n 1, 1) := by decide +kernel
theorem dX2_readName_8 : decode cX2_readName 8 = .ok (.aload_n 0, 1) := by decide +kernel
theorem dX2_readName_9 : decode cX2_readName 9 = .ok (.getfield 15, 3) := by decide +kernel
theorem dX2_readName_12 : decode cX2_readName 12 = .ok (.invokevirtual 75, 3) := by decide +kernel
theorem dX2_readName_15 : decode cX2_readName 15 = .ok (.pop, 1) := by decide +kernel
theorem dX2_readName_16 : decode cX2_readName 16 = .ok (.aload_n 0, 1) := by decide +kernel
theorem dX2_readName_17 : decode cX2_readName 17 = .ok (.getfield 15, 3) := by decide +kernel
theorem dX2_readName_20 : decode cX2_readName 20 = .ok (.getfield 64, 3) := by decide +kernel
theorem dX2_readName_23 : decode cX2_readName 23 = .ok (.bipush 46, 2) := by decide +kernel
theorem dX2_readName_25 : decode cX2_readName 25 = .ok (.if_icmp .eq 13, 3) := by decide +kernel
theorem dX2_readName_28 : decode cX2_readName 28 = .ok (.aload_n 0, 1) := by decide +kernel
theorem dX2_readName_29 : decode cX2_readName 29 = .ok (.getfield 19, 3) := by decide +kernel
theorem dX2_readName_32 : decode cX2_readName 32 = .ok (.iconst 2, 1) := by decide +kernel
theorem dX2_readName_33 : decode cX2_readName 33 = .ok (.iload_n 1, 1) := by decide +kernel
theorem dX2_readName_34 : decode cX2_readName 34 = .ok (.invokevirtual 81, 3) := by decide +kernel
theorem dX2_readName_37 : decode cX2_readName 37 = .ok (.ireturn, 1) := by decide +kernel
theorem dX2_readName_38 : decode cX2_readName 38 = .ok (.aload_n 0, 1) := by decide +kernel
theorem dX2_readName_39 : decode cX2_readName 39 = .ok (.getfield 15, 3) := by decide +kernel
theorem dX2_readName_42 : decode cX2_readName 42 = .ok (.invokevirtual 75, 3) := by decide +kernel
theorem dX2_readName_45 : decode cX2_readName 45 = .ok (.pop, 1) := by decide +kernel
theorem dX2_readName_46 : decode cX2_readName 46 = .ok (.aload_n 0, 1) := by decide +kernel
theorem dX2_readName_47 : decode cX2_readName 47 = .ok (.getfield 15, 3) := by decide +kernel
theorem dX2_readName_50 : decode cX2_readName 50 = .ok (.getfield 64, 3) := by decide +kernel
theorem dX2_readName_53 : decode cX2_readName 53 = .ok (.sipush 128, 3) := by decide +kernel
theorem dX2_readName_56 : decode cX2_readName 56 = .ok (.if_icmp .ne 41, 3) := by decide +kernel
theorem dX2_readName_59 : decode cX2_readName 59 = .ok (.aload_n 0, 1) := by decide +kernel
theorem dX2_readName_60 : decode cX2_readName 60 = .ok (.getfield 19, 3) := by decide +kernel
theorem dX2_readName_63 : decode cX2_readName 63 = .ok (.iconst 3, 1) := by decide +kernel
theorem dX2_readName_64 : decode cX2_readName 64 = .ok (.iload_n 1, 1) := by decide +kernel
theorem dX2_readName_65 : decode cX2_readName 65 = .ok (.sipush 4096, 3) := by decide +kernel
theorem dX2_readName_68 : decode cX2_readName 68 = .ok (.imul, 1) := by decide +kernel
theorem dX2_readName_69 : decode cX2_readName 69 = .ok (.aload_n 0, 1) := by decide +kernel
theorem dX2_readName_70 : decode cX2_readName 70 = .ok (.getfield 15, 3) := by decide +kernel
theorem dX2_readName_73 : decode cX2_readName 73 = .ok (.getfield 94, 3) := by decide +kernel
theorem dX2_readName_76 : decode cX2_readName 76 = .ok (.iadd, 1) := by decide +kernel
theorem dX2_readName_77 : decode cX2_readName 77 = .ok (.invokevirtual 81, 3) := by decide +kernel
theorem dX2_readName_80 : decode cX2_readName 80 = .ok (.ifCond .eq 17, 3) := by decide +kernel
theorem dX2_readName_83 : decode cX2_readName 83 = .ok (.aload_n 0, 1) := by decide +kernel
theorem dX2_readName_84 : decode cX2_readName 84 = .ok (.getfield 15, 3) := by decide +kernel
theorem dX2_readName_87 : decode cX2_readName 87 = .ok (.invokevirtual 75, 3) := by decide +kernel
theorem dX2_readName_90 : decode cX2_readName 90 = .ok (.ifCond .eq 7, 3) := by decide +kernel
theorem dX2_readName_93 : decode cX2_readName 93 = .ok (.iconst 1, 1) := by decide +kernel
theorem dX2_readName_94 : decode cX2_readName 94 = .ok (.goto 4, 3) := by decide +kernel
theorem dX2_readName_97 : decode cX2_readName 97 = .ok (.iconst 0, 1) := by decide +kernel
theorem dX2_readName_98 : decode cX2_readName 98 = .ok (.ireturn, 1) := by decide +kernel
theorem dX2_readWord_0 : decode cX2_readWord 0 = .ok (.iload_n 2, 1) := by decide +kernel
theorem dX2_readWord_1 : decode cX2_readWord 1 = .ok (.ifCond .ne 19, 3) := by decide +kernel
theorem dX2_readWord_4 : decode cX2_readWord 4 = .ok (.aload_n 0, 1) := by decide +kernel
theorem dX2_readWord_5 : decode cX2_readWord 5 = .ok (.getfield 23, 3) := by decide +kernel
theorem dX2_readWord_8 : decode cX2_readWord 8 = .ok (.bipush 6, 2) := by decide +kernel
theorem dX2_readWord_10 : decode cX2_readWord 10 = .ok (.aload_n 0, 1) := by decide +kernel
theorem dX2_readWord_11 : decode cX2_readWord 11 = .ok (.getfield 15, 3) := by decide +kernel
theorem dX2_readWord_14 : decode cX2_readWord 14 = .ok (.getfield 94, 3) := by decide +kernel
theorem dX2_readWord_17 : decode cX2_readWord 17 = .ok (.invokevirtual 97, 3) := by decide +kernel
theorem dX2_readWord_20 : decode cX2_readWord 20 = .ok (.aload_n 0, 1) := by decide +kernel
theorem dX2_readWord_21 : decode cX2_readWord 21 = .ok (.getfield 19, 3) := by decide +kernel
theorem dX2_readWord_24 : decode cX2_readWord 24 = .ok (.iload_n 1, 1) := by decide +kernel
theorem dX2_readWord_25 : decode cX2_readWord 25 = .ok (.iconst 0, 1) := by decide +kernel
theorem dX2_readWord_26 : decode cX2_readWord 26 = .ok (.invokevirtual 81, 3) := by decide +kernel
theorem dX2_readWord_29 : decode cX2_readWord 29 = .ok (.ifCond .eq 17, 3) := by decide +kernel
theorem dX2_readWord_32 : decode cX2_readWord 32 = .ok (.aload_n 0, 1) := by decide +kernel
theorem dX2_readWord_33 : decode cX2_readWord 33 = .ok (.getfield 15, 3) := by decide +kernel
theorem dX2_readWord_36 : decode cX2_readWord 36 = .ok (.invokevirtual 75, 3) := by decide +kernel
theorem dX2_readWord_39 : decode cX2_readWord 39 = .ok (.ifCond .eq 7, 3) := by decide +kernel
theorem dX2_readWord_42 : decode cX2_readWord 42 = .ok (.iconst 1, 1) := by decide +kernel
theorem dX2_readWord_43 : decode cX2_readWord 43 = .ok (.goto 4, 3) := by decide +kernel
theorem dX2_readWord_46 : decode cX2_readWord 46 = .ok (.iconst 0, 1) := by decide +kernel
theorem dX2_readWord_47 : decode cX2_readWord 47 = .ok (.ireturn, 1) := by decide +kernel
theorem dX2_readClosing_0 : decode cX2_readClosing 0 = .ok (.aload_n 0, 1) := by decide +kernel
theorem dX2_readClosing_1 : decode cX2_readClosing 1 = .ok (.iconst 3, 1) := by decide +kernel
theorem dX2_readClosing_2 : decode cX2_readClosing 2 = .ok (.invokevirtual 103, 3) := by decide +kernel
theorem dX2_readClosing_5 : decode cX2_readClosing 5 = .ok (.iconst 0, 1) := by decide +kernel
theorem dX2_readClosing_6 : decode cX2_readClosing 6 = .ok (.istore_n 1, 1) := by decide +kernel
theorem dX2_readClosing_7 : decode cX2_readClosing 7 = .ok (.iload_n 1, 1) := by decide +kernel
theorem dX2_readClosing_8 : decode cX2_readClosing 8 = .ok (.bipush 8, 2) := by decide +kernel
theorem dX2_readClosing_10 : decode cX2_readClosing 10 = .ok (.if_icmp .ge 76, 3) := by decide +kernel
theorem dX2_readClosing_13 : decode cX2_readClosing 13 = .ok (.aload_n 0, 1) := by decide +kernel
theorem dX2_readClosing_14 : decode cX2_readClosing 14 = .ok (.getfield 15, 3) := by decide +kernel
theorem dX2_readClosing_17 : decode cX2_readClosing 17 = .ok (.getfield 64, 3) := by decide +kernel
theorem dX2_readClosing_20 : decode cX2_readClosing 20 = .ok (.bipush 41, 2) := by decide +kernel
theorem dX2_readClosing_22 : decode cX2_readClosing 22 = .ok (.if_icmp .ne 64, 3) := by decide +kernel
theorem dX2_readClosing_25 : decode cX2_readClosing 25 = .ok (.aload_n 0, 1) := by decide +kernel
theorem dX2_readClosing_26 : decode cX2_readClosing 26 = .ok (.getfield 34, 3) := by decide +kernel
theorem dX2_readClosing_29 : decode cX2_readClosing 29 = .ok (.ifCond .le 57, 3) := by decide +kernel
theorem dX2_readClosing_32 : decode cX2_readClosing 32 = .ok (.aload_n 0, 1) := by decide +kernel
theorem dX2_readClosing_33 : decode cX2_readClosing 33 = .ok (.iconst 1, 1) := by decide +kernel
theorem dX2_readClosing_34 : decode cX2_readClosing 34 = .ok (.invokevirtual 103, 3) := by decide +kernel
theorem dX2_readClosing_37 : decode cX2_readClosing 37 = .ok (.aload_n 0, 1) := by decide +kernel
theorem dX2_readClosing_38 : decode cX2_readClosing 38 = .ok (.dup, 1) := by decide +kernel
theorem dX2_readClosing_39 : decode cX2_readClosing 39 = .ok (.getfield 31, 3) := by decide +kernel
theorem dX2_readClosing_42 : decode cX2_readClosing 42 = .ok (.iconst 1, 1) := by decide +kernel
theorem dX2_readClosing_43 : decode cX2_readClosing 43 = .ok (.isub, 1) := by decide +kernel
theorem dX2_readClosing_44 : decode cX2_readClosing 44 = .ok (.putfield 31, 3) := by decide +kernel
theorem dX2_readClosing_47 : decode cX2_readClosing 47 = .ok (.aload_n 0, 1) := by decide +kernel
theorem dX2_readClosing_48 : decode cX2_readClosing 48 = .ok (.dup, 1) := by decide +kernel
theorem dX2_readClosing_49 : decode cX2_readClosing 49 = .ok (.getfield 34, 3) := by decide +kernel
theorem dX2_readClosing_52 : decode cX2_readClosing 52 = .ok (.iconst 1, 1) := by decide +kernel
theorem dX2_readClosing_53 : decode cX2_readClosing 53 = .ok (.isub, 1) := by decide +kernel
theorem dX2_readClosing_54 : decode cX2_readClosing 54 = .ok (.putfield 34, 3) := by decide +kernel
theorem dX2_readClosing_57 : decode cX2_readClosing 57 = .ok (.aload_n 0, 1) := by decide +kernel
theorem dX2_readClosing_58 : decode cX2_readClosing 58 = .ok (.dup, 1) := by decide +kernel
theorem dX2_readClosing_59 : decode cX2_readClosing 59 = .ok (.getfield 37, 3) := by decide +kernel
theorem dX2_readClosing_62 : decode cX2_readClosing 62 = .ok (.iconst 1, 1) := by decide +kernel
theorem dX2_readClosing_63 : decode cX2_readClosing 63 = .ok (.isub, 1) := by decide +kernel
theorem dX2_readClosing_64 : decode cX2_readClosing 64 = .ok (.putfield 37, 3) := by decide +kernel
theorem dX2_readClosing_67 : decode cX2_readClosing 67 = .ok (.aload_n 0, 1) := by decide +kernel
theorem dX2_readClosing_68 : decode cX2_readClosing 68 = .ok (.getfield 15, 3) := by decide +kernel
theorem dX2_readClosing_71 : decode cX2_readClosing 71 = .ok (.invokevirtual 75, 3) := by decide +kernel
theorem dX2_readClosing_74 : decode cX2_readClosing 74 = .ok (.pop, 1) := by decide +kernel
theorem dX2_readClosing_75 : decode cX2_readClosing 75 = .ok (.aload_n 0, 1) := by decide +kernel
theorem dX2_readClosing_76 : decode cX2_readClosing 76 = .ok (.iconst 3, 1) := by decide +kernel
theorem dX2_readClosing_77 : decode cX2_readClosing 77 = .ok (.invokevirtual 103, 3) := by decide +kernel
theorem dX2_readClosing_80 : decode cX2_readClosing 80 = .ok (.iinc 1 1, 3) := by decide +kernel
theorem dX2_readClosing_83 : decode cX2_readClosing 83 = .ok (.goto (-76), 3) := by decide +kernel
theorem dX2_readClosing_86 : decode cX2_readClosing 86 = .ok (.iconst 1, 1) := by decide +kernel
theorem dX2_readClosing_87 : decode cX2_readClosing 87 = .ok (.ireturn, 1) := by decide +kernel
theorem dX2_joiningOp_0 : decode cX2_joiningOp 0 = .ok (.aload_n 0, 1) := by decide +kernel
theorem dX2_joiningOp_1 : decode cX2_joiningOp 1 = .ok (.getfield 15, 3) := by decide +kernel
theorem dX2_joiningOp_4 : decode cX2_joiningOp 4 = .ok (.getfield 64, 3) := by decide +kernel
theorem dX2_joiningOp_7 : decode cX2_joiningOp 7 = .ok (.tableswitch 49 42 47 #[43, 37, 49, 40, 49, 46], 37) := by decide +kernel
theorem dX2_joiningOp_44 : decode cX2_joiningOp 44 = .ok (.bipush 8, 2) := by decide +kernel
theorem dX2_joiningOp_46 : decode cX2_joiningOp 46 = .ok (.ireturn, 1) := by decide +kernel
theorem dX2_joiningOp_47 : decode cX2_joiningOp 47 = .ok (.bipush 9, 2) := by decide +kernel
theorem dX2_joiningOp_49 : decode cX2_joiningOp 49 = .ok (.ireturn, 1) := by decide +kernel
theorem dX2_joiningOp_50 : decode cX2_joiningOp 50 = .ok (.bipush 10, 2) := by decide +kernel
theorem dX2_joiningOp_52 : decode cX2_joiningOp 52 = .ok (.ireturn, 1) := by decide +kernel
theorem dX2_joiningOp_53 : decode cX2_joiningOp 53 = .ok (.bipush 11, 2) := by decide +kernel
theorem dX2_joiningOp_55 : decode cX2_joiningOp 55 = .ok (.ireturn, 1) := by decide +kernel
theorem dX2_joiningOp_56 : decode cX2_joiningOp 56 = .ok (.iconst (-1), 1) := by decide +kernel
theorem dX2_joiningOp_57 : decode cX2_joiningOp 57 = .ok (.ireturn, 1) := by decide +kernel
theorem dX2_readSign_0 : decode cX2_readSign 0 = .ok (.aload_n 0, 1) := by decide +kernel
theorem dX2_readSign_1 : decode cX2_readSign 1 = .ok (.getfield 40, 3) := by decide +kernel
theorem dX2_readSign_4 : decode cX2_readSign 4 = .ok (.bipush 20, 2) := by decide +kernel
theorem dX2_readSign_6 : decode cX2_readSign 6 = .ok (.if_icmp .lt 5, 3) := by decide +kernel
theorem dX2_readSign_9 : decode cX2_readSign 9 = .ok (.iconst 0, 1) := by decide +kernel
theorem dX2_readSign_10 : decode cX2_readSign 10 = .ok (.ireturn, 1) := by decide +kernel
theorem dX2_readSign_11 : decode cX2_readSign 11 = .ok (.aload_n 0, 1) := by decide +kernel
theorem dX2_readSign_12 : decode cX2_readSign 12 = .ok (.dup, 1) := by decide +kernel
theorem dX2_readSign_13 : decode cX2_readSign 13 = .ok (.getfield 40, 3) := by decide +kernel
theorem dX2_readSign_16 : decode cX2_readSign 16 = .ok (.iconst 1, 1) := by decide +kernel
theorem dX2_readSign_17 : decode cX2_readSign 17 = .ok (.iadd, 1) := by decide +kernel
theorem dX2_readSign_18 : decode cX2_readSign 18 = .ok (.putfield 40, 3) := by decide +kernel
theorem dX2_readSign_21 : decode cX2_readSign 21 = .ok (.aload_n 0, 1) := by decide +kernel
theorem dX2_readSign_22 : decode cX2_readSign 22 = .ok (.aload_n 0, 1) := by decide +kernel
theorem dX2_readSign_23 : decode cX2_readSign 23 = .ok (.iload_n 1, 1) := by decide +kernel
theorem dX2_readSign_24 : decode cX2_readSign 24 = .ok (.invokevirtual 106, 3) := by decide +kernel
theorem dX2_readSign_27 : decode cX2_readSign 27 = .ok (.invokevirtual 103, 3) := by decide +kernel
theorem dX2_readSign_30 : decode cX2_readSign 30 = .ok (.aload_n 0, 1) := by decide +kernel
theorem dX2_readSign_31 : decode cX2_readSign 31 = .ok (.iload_n 1, 1) := by decide +kernel
theorem dX2_readSign_32 : decode cX2_readSign 32 = .ok (.invokevirtual 71, 3) := by decide +kernel
theorem dX2_readSign_35 : decode cX2_readSign 35 = .ok (.aload_n 0, 1) := by decide +kernel
theorem dX2_readSign_36 : decode cX2_readSign 36 = .ok (.getfield 15, 3) := by decide +kernel
theorem dX2_readSign_39 : decode cX2_readSign 39 = .ok (.invokevirtual 75, 3) := by decide +kernel
theorem dX2_readSign_42 : decode cX2_readSign 42 = .ok (.ireturn, 1) := by decide +kernel
theorem dX2_finishExp_0 : decode cX2_finishExp 0 = .ok (.aload_n 0, 1) := by decide +kernel
theorem dX2_finishExp_1 : decode cX2_finishExp 1 = .ok (.getfield 34, 3) := by decide +kernel
theorem dX2_finishExp_4 : decode cX2_finishExp 4 = .ok (.ifCond .le 5, 3) := by decide +kernel
theorem dX2_finishExp_7 : decode cX2_finishExp 7 = .ok (.iconst 0, 1) := by decide +kernel
theorem dX2_finishExp_8 : decode cX2_finishExp 8 = .ok (.ireturn, 1) := by decide +kernel
theorem dX2_finishExp_9 : decode cX2_finishExp 9 = .ok (.aload_n 0, 1) := by decide +kernel
theorem dX2_finishExp_10 : decode cX2_finishExp 10 = .ok (.iconst 1, 1) := by decide +kernel
theorem dX2_finishExp_11 : decode cX2_finishExp 11 = .ok (.invokevirtual 103, 3) := by decide +kernel
theorem dX2_finishExp_14 : decode cX2_finishExp 14 = .ok (.aload_n 0, 1) := by decide +kernel
theorem dX2_finishExp_15 : decode cX2_finishExp 15 = .ok (.getfield 19, 3) := by decide +kernel
theorem dX2_finishExp_18 : decode cX2_finishExp 18 = .ok (.iconst 0, 1) := by decide +kernel
theorem dX2_finishExp_19 : decode cX2_finishExp 19 = .ok (.iconst 0, 1) := by decide +kernel
theorem dX2_finishExp_20 : decode cX2_finishExp 20 = .ok (.invokevirtual 81, 3) := by decide +kernel
theorem dX2_finishExp_23 : decode cX2_finishExp 23 = .ok (.ireturn, 1) := by decide +kernel
theorem dX2_strengthOf_0 : decode cX2_strengthOf 0 = .ok (.iload_n 1, 1) := by decide +kernel
theorem dX2_strengthOf_1 : decode cX2_strengthOf 1 = .ok (.tableswitch 41 7 11 #[39, 35, 35, 37, 37], 35) := by decide +kernel
theorem dX2_strengthOf_36 : decode cX2_strengthOf 36 = .ok (.iconst 1, 1) := by decide +kernel
theorem dX2_strengthOf_37 : decode cX2_strengthOf 37 = .ok (.ireturn, 1) := by decide +kernel
theorem dX2_strengthOf_38 : decode cX2_strengthOf 38 = .ok (.iconst 2, 1) := by decide +kernel
theorem dX2_strengthOf_39 : decode cX2_strengthOf 39 = .ok (.ireturn, 1) := by decide +kernel
theorem dX2_strengthOf_40 : decode cX2_strengthOf 40 = .ok (.iconst 3, 1) := by decide +kernel
theorem dX2_strengthOf_41 : decode cX2_strengthOf 41 = .ok (.ireturn, 1) := by decide +kernel
theorem dX2_strengthOf_42 : decode cX2_strengthOf 42 = .ok (.iconst 0, 1) := by decide +kernel
theorem dX2_strengthOf_43 : decode cX2_strengthOf 43 = .ok (.ireturn, 1) := by decide +kernel
theorem dX2_pushWaiting_0 : decode cX2_pushWaiting 0 = .ok (.aload_n 0, 1) := by decide +kernel
theorem dX2_pushWaiting_1 : decode cX2_pushWaiting 1 = .ok (.getfield 31, 3) := by decide +kernel
theorem dX2_pushWaiting_4 : decode cX2_pushWaiting 4 = .ok (.ifCond .lt 35, 3) := by decide +kernel
theorem dX2_pushWaiting_7 : decode cX2_pushWaiting 7 = .ok (.aload_n 0, 1) := by decide +kernel
theorem dX2_pushWaiting_8 : decode cX2_pushWaiting 8 = .ok (.getfield 31, 3) := by decide +kernel
theorem dX2_pushWaiting_11 : decode cX2_pushWaiting 11 = .ok (.aload_n 0, 1) := by decide +kernel
theorem dX2_pushWaiting_12 : decode cX2_pushWaiting 12 = .ok (.getfield 9, 3) := by decide +kernel
theorem dX2_pushWaiting_15 : decode cX2_pushWaiting 15 = .ok (.arraylength, 1) := by decide +kernel
theorem dX2_pushWaiting_16 : decode cX2_pushWaiting 16 = .ok (.if_icmp .ge 23, 3) := by decide +kernel
theorem dX2_pushWaiting_19 : decode cX2_pushWaiting 19 = .ok (.aload_n 0, 1) := by decide +kernel
theorem dX2_pushWaiting_20 : decode cX2_pushWaiting 20 = .ok (.getfield 9, 3) := by decide +kernel
theorem dX2_pushWaiting_23 : decode cX2_pushWaiting 23 = .ok (.aload_n 0, 1) := by decide +kernel
theorem dX2_pushWaiting_24 : decode cX2_pushWaiting 24 = .ok (.getfield 31, 3) := by decide +kernel
theorem dX2_pushWaiting_27 : decode cX2_pushWaiting 27 = .ok (.iload_n 1, 1) := by decide +kernel
theorem dX2_pushWaiting_28 : decode cX2_pushWaiting 28 = .ok (.iastore, 1) := by decide +kernel
theorem dX2_pushWaiting_29 : decode cX2_pushWaiting 29 = .ok (.aload_n 0, 1) := by decide +kernel
theorem dX2_pushWaiting_30 : decode cX2_pushWaiting 30 = .ok (.dup, 1) := by decide +kernel
theorem dX2_pushWaiting_31 : decode cX2_pushWaiting 31 = .ok (.getfield 31, 3) := by decide +kernel
theorem dX2_pushWaiting_34 : decode cX2_pushWaiting 34 = .ok (.iconst 1, 1) := by decide +kernel
theorem dX2_pushWaiting_35 : decode cX2_pushWaiting 35 = .ok (.iadd, 1) := by decide +kernel
theorem dX2_pushWaiting_36 : decode cX2_pushWaiting 36 = .ok (.putfield 31, 3) := by decide +kernel
theorem dX2_pushWaiting_39 : decode cX2_pushWaiting 39 = .ok (.return_, 1) := by decide +kernel
theorem dX2_putWaiting_0 : decode cX2_putWaiting 0 = .ok (.aload_n 0, 1) := by decide +kernel
theorem dX2_putWaiting_1 : decode cX2_putWaiting 1 = .ok (.getfield 31, 3) := by decide +kernel
theorem dX2_putWaiting_4 : decode cX2_putWaiting 4 = .ok (.iconst 1, 1) := by decide +kernel
theorem dX2_putWaiting_5 : decode cX2_putWaiting 5 = .ok (.isub, 1) := by decide +kernel
theorem dX2_putWaiting_6 : decode cX2_putWaiting 6 = .ok (.istore_n 2, 1) := by decide +kernel
theorem dX2_putWaiting_7 : decode cX2_putWaiting 7 = .ok (.iload_n 2, 1) := by decide +kernel
theorem dX2_putWaiting_8 : decode cX2_putWaiting 8 = .ok (.ifCond .lt 73, 3) := by decide +kernel
theorem dX2_putWaiting_11 : decode cX2_putWaiting 11 = .ok (.iload_n 2, 1) := by decide +kernel
theorem dX2_putWaiting_12 : decode cX2_putWaiting 12 = .ok (.aload_n 0, 1) := by decide +kernel
theorem dX2_putWaiting_13 : decode cX2_putWaiting 13 = .ok (.getfield 9, 3) := by decide +kernel
theorem dX2_putWaiting_16 : decode cX2_putWaiting 16 = .ok (.arraylength, 1) := by decide +kernel
theorem dX2_putWaiting_17 : decode cX2_putWaiting 17 = .ok (.if_icmp .ge 64, 3) := by decide +kernel
theorem dX2_putWaiting_20 : decode cX2_putWaiting 20 = .ok (.aload_n 0, 1) := by decide +kernel
theorem dX2_putWaiting_21 : decode cX2_putWaiting 21 = .ok (.aload_n 0, 1) := by decide +kernel
theorem dX2_putWaiting_22 : decode cX2_putWaiting 22 = .ok (.getfield 9, 3) := by decide +kernel
theorem dX2_putWaiting_25 : decode cX2_putWaiting 25 = .ok (.iload_n 2, 1) := by decide +kernel
theorem dX2_putWaiting_26 : decode cX2_putWaiting 26 = .ok (.iaload, 1) := by decide +kernel
theorem dX2_putWaiting_27 : decode cX2_putWaiting 27 = .ok (.invokevirtual 106, 3) := by decide +kernel
theorem dX2_putWaiting_30 : decode cX2_putWaiting 30 = .ok (.iload_n 1, 1) := by decide +kernel
theorem dX2_putWaiting_31 : decode cX2_putWaiting 31 = .ok (.if_icmp .lt 50, 3) := by decide +kernel
theorem dX2_putWaiting_34 : decode cX2_putWaiting 34 = .ok (.aload_n 0, 1) := by decide +kernel
theorem dX2_putWaiting_35 : decode cX2_putWaiting 35 = .ok (.getfield 19, 3) := by decide +kernel
theorem dX2_putWaiting_38 : decode cX2_putWaiting 38 = .ok (.aload_n 0, 1) := by decide +kernel
theorem dX2_putWaiting_39 : decode cX2_putWaiting 39 = .ok (.getfield 9, 3) := by decide +kernel
theorem dX2_putWaiting_42 : decode cX2_putWaiting 42 = .ok (.iload_n 2, 1) := by decide +kernel
theorem dX2_putWaiting_43 : decode cX2_putWaiting 43 = .ok (.iaload, 1) := by decide +kernel
theorem dX2_putWaiting_44 : decode cX2_putWaiting 44 = .ok (.iconst 0, 1) := by decide +kernel
theorem dX2_putWaiting_45 : decode cX2_putWaiting 45 = .ok (.invokevirtual 81, 3) := by decide +kernel
theorem dX2_putWaiting_48 : decode cX2_putWaiting 48 = .ok (.pop, 1) := by decide +kernel
theorem dX2_putWaiting_49 : decode cX2_putWaiting 49 = .ok (.aload_n 0, 1) := by decide +kernel
theorem dX2_putWaiting_50 : decode cX2_putWaiting 50 = .ok (.getfield 9, 3) := by decide +kernel
theorem dX2_putWaiting_53 : decode cX2_putWaiting 53 = .ok (.iload_n 2, 1) := by decide +kernel
theorem dX2_putWaiting_54 : decode cX2_putWaiting 54 = .ok (.iaload, 1) := by decide +kernel
theorem dX2_putWaiting_55 : decode cX2_putWaiting 55 = .ok (.bipush 7, 2) := by decide +kernel
theorem dX2_putWaiting_57 : decode cX2_putWaiting 57 = .ok (.if_icmp .ne 13, 3) := by decide +kernel
theorem dX2_putWaiting_60 : decode cX2_putWaiting 60 = .ok (.aload_n 0, 1) := by decide +kernel
theorem dX2_putWaiting_61 : decode cX2_putWaiting 61 = .ok (.dup, 1) := by decide +kernel
theorem dX2_putWaiting_62 : decode cX2_putWaiting 62 = .ok (.getfield 37, 3) := by decide +kernel
theorem dX2_putWaiting_65 : decode cX2_putWaiting 65 = .ok (.iconst 1, 1) := by decide +kernel
theorem dX2_putWaiting_66 : decode cX2_putWaiting 66 = .ok (.isub, 1) := by decide +kernel
theorem dX2_putWaiting_67 : decode cX2_putWaiting 67 = .ok (.putfield 37, 3) := by decide +kernel
theorem dX2_putWaiting_70 : decode cX2_putWaiting 70 = .ok (.aload_n 0, 1) := by decide +kernel
theorem dX2_putWaiting_71 : decode cX2_putWaiting 71 = .ok (.iload_n 2, 1) := by decide +kernel
theorem dX2_putWaiting_72 : decode cX2_putWaiting 72 = .ok (.putfield 31, 3) := by decide +kernel
theorem dX2_putWaiting_75 : decode cX2_putWaiting 75 = .ok (.iinc 2 (-1), 3) := by decide +kernel
theorem dX2_putWaiting_78 : decode cX2_putWaiting 78 = .ok (.goto (-71), 3) := by decide +kernel
theorem dX2_putWaiting_81 : decode cX2_putWaiting 81 = .ok (.return_, 1) := by decide +kernel
theorem dX3_init_0 : decode cX3_init 0 = .ok (.aload_n 0, 1) := by decide +kernel
theorem dX3_init_1 : decode cX3_init 1 = .ok (.invokespecial 3, 3) := by decide +kernel
theorem dX3_init_4 : decode cX3_init 4 = .ok (.return_, 1) := by decide +kernel
theorem dX3_forget_0 : decode cX3_forget 0 = .ok (.aload_n 0, 1) := by decide +kernel
theorem dX3_forget_1 : decode cX3_forget 1 = .ok (.iconst 0, 1) := by decide +kernel
theorem dX3_forget_2 : decode cX3_forget 2 = .ok (.putfield 9, 3) := by decide +kernel
theorem dX3_forget_5 : decode cX3_forget 5 = .ok (.aload_n 0, 1) := by decide +kernel
theorem dX3_forget_6 : decode cX3_forget 6 = .ok (.iconst 0, 1) := by decide +kernel
theorem dX3_forget_7 : decode cX3_forget 7 = .ok (.putfield 15, 3) := by decide +kernel
theorem dX3_forget_10 : decode cX3_forget 10 = .ok (.return_, 1) := by decide +kernel
theorem dX3_note_0 : decode cX3_note 0 = .ok (.aload_n 0, 1) := by decide +kernel
theorem dX3_note_1 : decode cX3_note 1 = .ok (.getfield 9, 3) := by decide +kernel
theorem dX3_note_4 : decode cX3_note 4 = .ok (.ifCond .eq 27, 3) := by decide +kernel
theorem dX3_note_7 : decode cX3_note 7 = .ok (.iload_n 2, 1) := by decide +kernel
theorem dX3_note_8 : decode cX3_note 8 = .ok (.aload_n 0, 1) := by decide +kernel
theorem dX3_note_9 : decode cX3_note 9 = .ok (.getfield 15, 3) := by decide +kernel
theorem dX3_note_12 : decode cX3_note 12 = .ok (.if_icmp .lt 19, 3) := by decide +kernel
theorem dX3_note_15 : decode cX3_note 15 = .ok (.iload_n 2, 1) := by decide +kernel
theorem dX3_note_16 : decode cX3_note 16 = .ok (.aload_n 0, 1) := by decide +kernel
theorem dX3_note_17 : decode cX3_note 17 = .ok (.getfield 15, 3) := by decide +kernel
theorem dX3_note_20 : decode cX3_note 20 = .ok (.if_icmp .ne 21, 3) := by decide +kernel
theorem dX3_note_23 : decode cX3_note 23 = .ok (.iload_n 1, 1) := by decide +kernel
theorem dX3_note_24 : decode cX3_note 24 = .ok (.aload_n 0, 1) := by decide +kernel
theorem dX3_note_25 : decode cX3_note 25 = .ok (.getfield 9, 3) := by decide +kernel
theorem dX3_note_28 : decode cX3_note 28 = .ok (.if_icmp .ge 13, 3) := by decide +kernel
theorem dX3_note_31 : decode cX3_note 31 = .ok (.aload_n 0, 1) := by decide +kernel
theorem dX3_note_32 : decode cX3_note 32 = .ok (.iload_n 1, 1) := by decide +kernel
theorem dX3_note_33 : decode cX3_note 33 = .ok (.putfield 9, 3) := by decide +kernel
theorem dX3_note_36 : decode cX3_note 36 = .ok (.aload_n 0, 1) := by decide +kernel
theorem dX3_note_37 : decode cX3_note 37 = .ok (.iload_n 2, 1) := by decide +kernel
theorem dX3_note_38 : decode cX3_note 38 = .ok (.putfield 15, 3) := by decide +kernel
theorem dX3_note_41 : decode cX3_note 41 = .ok (.return_, 1) := by decide +kernel
theorem dX3_noteText_0 : decode cX3_noteText 0 = .ok (.aload_n 0, 1) := by decide +kernel
theorem dX3_noteText_1 : decode cX3_noteText 1 = .ok (.iconst 1, 1) := by decide +kernel
theorem dX3_noteText_2 : decode cX3_noteText 2 = .ok (.putfield 9, 3) := by decide +kernel
theorem dX3_noteText_5 : decode cX3_noteText 5 = .ok (.aload_n 0, 1) := by decide +kernel
theorem dX3_noteText_6 : decode cX3_noteText 6 = .ok (.iload_n 1, 1) := by decide +kernel
theorem dX3_noteText_7 : decode cX3_noteText 7 = .ok (.putfield 15, 3) := by decide +kernel
theorem dX3_noteText_10 : decode cX3_noteText 10 = .ok (.return_, 1) := by decide +kernel
theorem dX5_init_0 : decode cX5_init 0 = .ok (.aload_n 0, 1) := by decide +kernel
theorem dX5_init_1 : decode cX5_init 1 = .ok (.invokespecial 3, 3) := by decide +kernel
theorem dX5_init_4 : decode cX5_init 4 = .ok (.aload_n 0, 1) := by decide +kernel
theorem dX5_init_5 : decode cX5_init 5 = .ok (.new 9, 3) := by decide +kernel
theorem dX5_init_8 : decode cX5_init 8 = .ok (.dup, 1) := by decide +kernel
theorem dX5_init_9 : decode cX5_init 9 = .ok (.invokespecial 11, 3) := by decide +kernel
theorem dX5_init_12 : decode cX5_init 12 = .ok (.putfield 12, 3) := by decide +kernel
theorem dX5_init_15 : decode cX5_init 15 = .ok (.aload_n 0, 1) := by decide +kernel
theorem dX5_init_16 : decode cX5_init 16 = .ok (.new 18, 3) := by decide +kernel
theorem dX5_init_19 : decode cX5_init 19 = .ok (.dup, 1) := by decide +kernel
theorem dX5_init_20 : decode cX5_init 20 = .ok (.invokespecial 20, 3) := by decide +kernel
theorem dX5_init_23 : decode cX5_init 23 = .ok (.putfield 21, 3) := by decide +kernel
theorem dX5_init_26 : decode cX5_init 26 = .ok (.return_, 1) := by decide +kernel
theorem dX5_readText_0 : decode cX5_readText 0 = .ok (.aload_n 0, 1) := by decide +kernel
theorem dX5_readText_1 : decode cX5_readText 1 = .ok (.aload_n 1, 1) := by decide +kernel
theorem dX5_readText_2 : decode cX5_readText 2 = .ok (.putfield 25, 3) := by decide +kernel
theorem dX5_readText_5 : decode cX5_readText 5 = .ok (.aload_n 0, 1) := by decide +kernel
theorem dX5_readText_6 : decode cX5_readText 6 = .ok (.aload_n 2, 1) := by decide +kernel
theorem dX5_readText_7 : decode cX5_readText 7 = .ok (.putfield 29, 3) := by decide +kernel
theorem dX5_readText_10 : decode cX5_readText 10 = .ok (.aload_n 0, 1) := by decide +kernel
theorem dX5_readText_11 : decode cX5_readText 11 = .ok (.getfield 12, 3) := by decide +kernel
theorem dX5_readText_14 : decode cX5_readText 14 = .ok (.aload_n 1, 1) := by decide +kernel
theorem dX5_readText_15 : decode cX5_readText 15 = .ok (.getfield 33, 3) := by decide +kernel
theorem dX5_readText_18 : decode cX5_readText 18 = .ok (.invokevirtual 39, 3) := by decide +kernel
theorem dX5_readText_21 : decode cX5_readText 21 = .ok (.aload_n 0, 1) := by decide +kernel
theorem dX5_readText_22 : decode cX5_readText 22 = .ok (.getfield 21, 3) := by decide +kernel
theorem dX5_readText_25 : decode cX5_readText 25 = .ok (.aload_n 0, 1) := by decide +kernel
theorem dX5_readText_26 : decode cX5_readText 26 = .ok (.getfield 12, 3) := by decide +kernel
theorem dX5_readText_29 : decode cX5_readText 29 = .ok (.aload_n 1, 1) := by decide +kernel
theorem dX5_readText_30 : decode cX5_readText 30 = .ok (.aload_n 2, 1) := by decide +kernel
theorem dX5_readText_31 : decode cX5_readText 31 = .ok (.invokevirtual 43, 3) := by decide +kernel
theorem dX5_readText_34 : decode cX5_readText 34 = .ok (.iconst 1, 1) := by decide +kernel
theorem dX5_readText_35 : decode cX5_readText 35 = .ok (.istore_n 3, 1) := by decide +kernel
theorem dX5_readText_36 : decode cX5_readText 36 = .ok (.iconst 0, 1) := by decide +kernel
theorem dX5_readText_37 : decode cX5_readText 37 = .ok (.istore 4, 2) := by decide +kernel
theorem dX5_readText_39 : decode cX5_readText 39 = .ok (.iload 4, 2) := by decide +kernel
theorem dX5_readText_41 : decode cX5_readText 41 = .ok (.bipush 8, 2) := by decide +kernel
theorem dX5_readText_43 : decode cX5_readText 43 = .ok (.if_icmp .gt 92, 3) := by decide +kernel
theorem dX5_readText_46 : decode cX5_readText 46 = .ok (.iload_n 3, 1) := by decide +kernel
theorem dX5_readText_47 : decode cX5_readText 47 = .ok (.ifCond .eq 88, 3) := by decide +kernel
theorem dX5_readText_50 : decode cX5_readText 50 = .ok (.aload_n 0, 1) := by decide +kernel
theorem dX5_readText_51 : decode cX5_readText 51 = .ok (.getfield 12, 3) := by decide +kernel
theorem dX5_readText_54 : decode cX5_readText 54 = .ok (.getfield 47, 3) := by decide +kernel
theorem dX5_readText_57 : decode cX5_readText 57 = .ok (.sipush 130, 3) := by decide +kernel
theorem dX5_readText_60 : decode cX5_readText 60 = .ok (.if_icmp .ne 5, 3) := by decide +kernel
theorem dX5_readText_63 : decode cX5_readText 63 = .ok (.iconst 1, 1) := by decide +kernel
theorem dX5_readText_64 : decode cX5_readText 64 = .ok (.ireturn, 1) := by decide +kernel
theorem dX5_readText_65 : decode cX5_readText 65 = .ok (.aload_n 0, 1) := by decide +kernel
theorem dX5_readText_66 : decode cX5_readText 66 = .ok (.getfield 12, 3) := by decide +kernel
theorem dX5_readText_69 : decode cX5_readText 69 = .ok (.sipush 132, 3) := by decide +kernel
theorem dX5_readText_72 : decode cX5_readText 72 = .ok (.invokevirtual 51, 3) := by decide +kernel
theorem dX5_readText_75 : decode cX5_readText 75 = .ok (.ifCond .eq 52, 3) := by decide +kernel
theorem dX5_readText_78 : decode cX5_readText 78 = .ok (.aload_n 0, 1) := by decide +kernel
theorem dX5_readText_79 : decode cX5_readText 79 = .ok (.invokevirtual 55, 3) := by decide +kernel
theorem dX5_readText_82 : decode cX5_readText 82 = .ok (.ifCond .eq 45, 3) := by decide +kernel
theorem dX5_readText_85 : decode cX5_readText 85 = .ok (.aload_n 0, 1) := by decide +kernel
theorem dX5_readText_86 : decode cX5_readText 86 = .ok (.getfield 12, 3) := by decide +kernel
theorem dX5_readText_89 : decode cX5_readText 89 = .ok (.bipush 123, 2) := by decide +kernel
theorem dX5_readText_91 : decode cX5_readText 91 = .ok (.invokevirtual 51, 3) := by decide +kernel
theorem dX5_readText_94 : decode cX5_readText 94 = .ok (.ifCond .eq 33, 3) := by decide +kernel
theorem dX5_readText_97 : decode cX5_readText 97 = .ok (.aload_n 0, 1) := by decide +kernel
theorem dX5_readText_98 : decode cX5_readText 98 = .ok (.invokevirtual 59, 3) := by decide +kernel
theorem dX5_readText_101 : decode cX5_readText 101 = .ok (.ifCond .eq 26, 3) := by decide +kernel
theorem dX5_readText_104 : decode cX5_readText 104 = .ok (.aload_n 0, 1) := by decide +kernel
theorem dX5_readText_105 : decode cX5_readText 105 = .ok (.invokevirtual 62, 3) := by decide +kernel
theorem dX5_readText_108 : decode cX5_readText 108 = .ok (.ifCond .eq 19, 3) := by decide +kernel
theorem dX5_readText_111 : decode cX5_readText 111 = .ok (.aload_n 0, 1) := by decide +kernel
theorem dX5_readText_112 : decode cX5_readText 112 = .ok (.getfield 12, 3) := by decide +kernel
theorem dX5_readText_115 : decode cX5_readText 115 = .ok (.bipush 125, 2) := by decide +kernel
theorem dX5_readText_117 : decode cX5_readText 117 = .ok (.invokevirtual 51, 3) := by decide +kernel
theorem dX5_readText_120 : decode cX5_readText 120 = .ok (.ifCond .eq 7, 3) := by decide +kernel
theorem dX5_readText_123 : decode cX5_readText 123 = .ok (.iconst 1, 1) := by decide +kernel
theorem dX5_readText_124 : decode cX5_readText 124 = .ok (.goto 4, 3) := by decide +kernel
theorem dX5_readText_127 : decode cX5_readText 127 = .ok (.iconst 0, 1) := by decide +kernel
theorem dX5_readText_128 : decode cX5_readText 128 = .ok (.istore_n 3, 1) := by decide +kernel
theorem dX5_readText_129 : decode cX5_readText 129 = .ok (.iinc 4 1, 3) := by decide +kernel
theorem dX5_readText_132 : decode cX5_readText 132 = .ok (.goto (-93), 3) := by decide +kernel
theorem dX5_readText_135 : decode cX5_readText 135 = .ok (.aload_n 0, 1) := by decide +kernel
theorem dX5_readText_136 : decode cX5_readText 136 = .ok (.getfield 29, 3) := by decide +kernel
theorem dX5_readText_139 : decode cX5_readText 139 = .ok (.aload_n 0, 1) := by decide +kernel
theorem dX5_readText_140 : decode cX5_readText 140 = .ok (.getfield 12, 3) := by decide +kernel
theorem dX5_readText_143 : decode cX5_readText 143 = .ok (.getfield 65, 3) := by decide +kernel
theorem dX5_readText_146 : decode cX5_readText 146 = .ok (.invokevirtual 68, 3) := by decide +kernel
theorem dX5_readText_149 : decode cX5_readText 149 = .ok (.iconst 0, 1) := by decide +kernel
theorem dX5_readText_150 : decode cX5_readText 150 = .ok (.ireturn, 1) := by decide +kernel
theorem dX5_openEnum_0 : decode cX5_openEnum 0 = .ok (.aload_n 0, 1) := by decide +kernel
theorem dX5_openEnum_1 : decode cX5_openEnum 1 = .ok (.getfield 12, 3) := by decide +kernel
theorem dX5_openEnum_4 : decode cX5_openEnum 4 = .ok (.getfield 47, 3) := by decide +kernel
theorem dX5_openEnum_7 : decode cX5_openEnum 7 = .ok (.sipush 128, 3) := by decide +kernel
theorem dX5_openEnum_10 : decode cX5_openEnum 10 = .ok (.if_icmp .ne 15, 3) := by decide +kernel
theorem dX5_openEnum_13 : decode cX5_openEnum 13 = .ok (.aload_n 0, 1) := by decide +kernel
theorem dX5_openEnum_14 : decode cX5_openEnum 14 = .ok (.getfield 25, 3) := by decide +kernel
theorem dX5_openEnum_17 : decode cX5_openEnum 17 = .ok (.getfield 74, 3) := by decide +kernel
theorem dX5_openEnum_20 : decode cX5_openEnum 20 = .ok (.bipush 8, 2) := by decide +kernel
theorem dX5_openEnum_22 : decode cX5_openEnum 22 = .ok (.if_icmp .lt 5, 3) := by decide +kernel
theorem dX5_openEnum_25 : decode cX5_openEnum 25 = .ok (.iconst 0, 1) := by decide +kernel
theorem dX5_openEnum_26 : decode cX5_openEnum 26 = .ok (.ireturn, 1) := by decide +kernel
theorem dX5_openEnum_27 : decode cX5_openEnum 27 = .ok (.aload_n 0, 1) := by decide +kernel
theorem dX5_openEnum_28 : decode cX5_openEnum 28 = .ok (.getfield 25, 3) := by decide +kernel
theorem dX5_openEnum_31 : decode cX5_openEnum 31 = .ok (.bipush 12, 2) := by decide +kernel
theorem dX5_openEnum_33 : decode cX5_openEnum 33 = .ok (.aload_n 0, 1) := by decide +kernel
theorem dX5_openEnum_34 : decode cX5_openEnum 34 = .ok (.getfield 25, 3) := by decide +kernel
theorem dX5_openEnum_37 : decode cX5_openEnum 37 = .ok (.getfield 74, 3) := by decide +kernel
theorem dX5_openEnum_40 : decode cX5_openEnum 40 = .ok (.invokevirtual 79, 3) := by decide +kernel
theorem dX5_openEnum_43 : decode cX5_openEnum 43 = .ok (.pop, 1) := by decide +kernel
theorem dX5_openEnum_44 : decode cX5_openEnum 44 = .ok (.aload_n 0, 1) := by decide +kernel
theorem dX5_openEnum_45 : decode cX5_openEnum 45 = .ok (.aload_n 0, 1) := by decide +kernel
theorem dX5_openEnum_46 : decode cX5_openEnum 46 = .ok (.getfield 25, 3) := by decide +kernel
theorem dX5_openEnum_49 : decode cX5_openEnum 49 = .ok (.aload_n 0, 1) := by decide +kernel
theorem dX5_openEnum_50 : decode cX5_openEnum 50 = .ok (.getfield 12, 3) := by decide +kernel
theorem dX5_openEnum_53 : decode cX5_openEnum 53 = .ok (.getfield 65, 3) := by decide +kernel
theorem dX5_openEnum_56 : decode cX5_openEnum 56 = .ok (.invokevirtual 83, 3) := by decide +kernel
theorem dX5_openEnum_59 : decode cX5_openEnum 59 = .ok (.putfield 87, 3) := by decide +kernel
theorem dX5_openEnum_62 : decode cX5_openEnum 62 = .ok (.aload_n 0, 1) := by decide +kernel
theorem dX5_openEnum_63 : decode cX5_openEnum 63 = .ok (.getfield 87, 3) := by decide +kernel
theorem dX5_openEnum_66 : decode cX5_openEnum 66 = .ok (.ifnull 17, 3) := by decide +kernel
theorem dX5_openEnum_69 : decode cX5_openEnum 69 = .ok (.aload_n 0, 1) := by decide +kernel
theorem dX5_openEnum_70 : decode cX5_openEnum 70 = .ok (.getfield 12, 3) := by decide +kernel
theorem dX5_openEnum_73 : decode cX5_openEnum 73 = .ok (.invokevirtual 91, 3) := by decide +kernel
theorem dX5_openEnum_76 : decode cX5_openEnum 76 = .ok (.ifCond .eq 7, 3) := by decide +kernel
theorem dX5_openEnum_79 : decode cX5_openEnum 79 = .ok (.iconst 1, 1) := by decide +kernel
theorem dX5_openEnum_80 : decode cX5_openEnum 80 = .ok (.goto 4, 3) := by decide +kernel
theorem dX5_openEnum_83 : decode cX5_openEnum 83 = .ok (.iconst 0, 1) := by decide +kernel
theorem dX5_openEnum_84 : decode cX5_openEnum 84 = .ok (.ireturn, 1) := by decide +kernel
theorem dX5_readConstants_0 : decode cX5_readConstants 0 = .ok (.aload_n 0, 1) := by decide +kernel
theorem dX5_readConstants_1 : decode cX5_readConstants 1 = .ok (.getfield 12, 3) := by decide +kernel
theorem dX5_readConstants_4 : decode cX5_readConstants 4 = .ok (.getfield 47, 3) := by decide +kernel
theorem dX5_readConstants_7 : decode cX5_readConstants 7 = .ok (.sipush 128, 3) := by decide +kernel
theorem dX5_readConstants_10 : decode cX5_readConstants 10 = .ok (.if_icmp .eq 5, 3) := by decide +kernel
theorem dX5_readConstants_13 : decode cX5_readConstants 13 = .ok (.iconst 1, 1) := by decide +kernel
theorem dX5_readConstants_14 : decode cX5_readConstants 14 = .ok (.ireturn, 1) := by decide +kernel
theorem dX5_readConstants_15 : decode cX5_readConstants 15 = .ok (.iconst 0, 1) := by decide +kernel
theorem dX5_readConstants_16 : decode cX5_readConstants 16 = .ok (.istore_n 1, 1) := by decide +kernel
theorem dX5_readConstants_17 : decode cX5_readConstants 17 = .ok (.iload_n 1, 1) := by decide +kernel
theorem dX5_readConstants_18 : decode cX5_readConstants 18 = .ok (.bipush 12, 2) := by decide +kernel
theorem dX5_readConstants_20 : decode cX5_readConstants 20 = .ok (.if_icmp .gt 89, 3) := by decide +kernel
theorem dX5_readConstants_23 : decode cX5_readConstants 23 = .ok (.aload_n 0, 1) := by decide +kernel
theorem dX5_readConstants_24 : decode cX5_readConstants 24 = .ok (.getfield 12, 3) := by decide +kernel
theorem dX5_readConstants_27 : decode cX5_readConstants 27 = .ok (.getfield 47, 3) := by decide +kernel
theorem dX5_readConstants_30 : decode cX5_readConstants 30 = .ok (.sipush 128, 3) := by decide +kernel
theorem dX5_readConstants_33 : decode cX5_readConstants 33 = .ok (.if_icmp .ne 20, 3) := by decide +kernel
theorem dX5_readConstants_36 : decode cX5_readConstants 36 = .ok (.aload_n 0, 1) := by decide +kernel
theorem dX5_readConstants_37 : decode cX5_readConstants 37 = .ok (.getfield 87, 3) := by decide +kernel
theorem dX5_readConstants_40 : decode cX5_readConstants 40 = .ok (.aload_n 0, 1) := by decide +kernel
theorem dX5_readConstants_41 : decode cX5_readConstants 41 = .ok (.getfield 12, 3) := by decide +kernel
theorem dX5_readConstants_44 : decode cX5_readConstants 44 = .ok (.getfield 65, 3) := by decide +kernel
theorem dX5_readConstants_47 : decode cX5_readConstants 47 = .ok (.invokevirtual 94, 3) := by decide +kernel
theorem dX5_readConstants_50 : decode cX5_readConstants 50 = .ok (.ifCond .ne 5, 3) := by decide +kernel
theorem dX5_readConstants_53 : decode cX5_readConstants 53 = .ok (.iconst 0, 1) := by decide +kernel
theorem dX5_readConstants_54 : decode cX5_readConstants 54 = .ok (.ireturn, 1) := by decide +kernel
theorem dX5_readConstants_55 : decode cX5_readConstants 55 = .ok (.aload_n 0, 1) := by decide +kernel
theorem dX5_readConstants_56 : decode cX5_readConstants 56 = .ok (.getfield 12, 3) := by decide +kernel
theorem dX5_readConstants_59 : decode cX5_readConstants 59 = .ok (.invokevirtual 91, 3) := by decide +kernel
theorem dX5_readConstants_62 : decode cX5_readConstants 62 = .ok (.ifCond .eq 17, 3) := by decide +kernel
theorem dX5_readConstants_65 : decode cX5_readConstants 65 = .ok (.aload_n 0, 1) := by decide +kernel
theorem dX5_readConstants_66 : decode cX5_readConstants 66 = .ok (.invokevirtual 99, 3) := by decide +kernel
theorem dX5_readConstants_69 : decode cX5_readConstants 69 = .ok (.ifCond .eq 10, 3) := by decide +kernel
theorem dX5_readConstants_72 : decode cX5_readConstants 72 = .ok (.aload_n 0, 1) := by decide +kernel
theorem dX5_readConstants_73 : decode cX5_readConstants 73 = .ok (.invokevirtual 102, 3) := by decide +kernel
theorem dX5_readConstants_76 : decode cX5_readConstants 76 = .ok (.ifCond .ne 5, 3) := by decide +kernel
theorem dX5_readConstants_79 : decode cX5_readConstants 79 = .ok (.iconst 0, 1) := by decide +kernel
theorem dX5_readConstants_80 : decode cX5_readConstants 80 = .ok (.ireturn, 1) := by decide +kernel
theorem dX5_readConstants_81 : decode cX5_readConstants 81 = .ok (.aload_n 0, 1) := by decide +kernel
theorem dX5_readConstants_82 : decode cX5_readConstants 82 = .ok (.getfield 12, 3) := by decide +kernel
theorem dX5_readConstants_85 : decode cX5_readConstants 85 = .ok (.getfield 47, 3) := by decide +kernel
theorem dX5_readConstants_88 : decode cX5_readConstants 88 = .ok (.bipush 44, 2) := by decide +kernel
theorem dX5_readConstants_90 : decode cX5_readConstants 90 = .ok (.if_icmp .eq 5, 3) := by decide +kernel
theorem dX5_readConstants_93 : decode cX5_readConstants 93 = .ok (.iconst 1, 1) := by decide +kernel
theorem dX5_readConstants_94 : decode cX5_readConstants 94 = .ok (.ireturn, 1) := by decide +kernel
theorem dX5_readConstants_95 : decode cX5_readConstants 95 = .ok (.aload_n 0, 1) := by decide +kernel
theorem dX5_readConstants_96 : decode cX5_readConstants 96 = .ok (.getfield 12, 3) := by decide +kernel
theorem dX5_readConstants_99 : decode cX5_readConstants 99 = .ok (.invokevirtual 91, 3) := by decide +kernel
theorem dX5_readConstants_102 : decode cX5_readConstants 102 = .ok (.pop, 1) := by decide +kernel
theorem dX5_readConstants_103 : decode cX5_readConstants 103 = .ok (.iinc 1 1, 3) := by decide +kernel
theorem dX5_readConstants_106 : decode cX5_readConstants 106 = .ok (.goto (-89), 3) := by decide +kernel
theorem dX5_readConstants_109 : decode cX5_readConstants 109 = .ok (.iconst 0, 1) := by decide +kernel
theorem dX5_readConstants_110 : decode cX5_readConstants 110 = .ok (.ireturn, 1) := by decide +kernel
theorem dX5_readArg_0 : decode cX5_readArg 0 = .ok (.aload_n 0, 1) := by decide +kernel
theorem dX5_readArg_1 : decode cX5_readArg 1 = .ok (.getfield 12, 3) := by decide +kernel
theorem dX5_readArg_4 : decode cX5_readArg 4 = .ok (.getfield 47, 3) := by decide +kernel
theorem dX5_readArg_7 : decode cX5_readArg 7 = .ok (.bipush 40, 2) := by decide +kernel
theorem dX5_readArg_9 : decode cX5_readArg 9 = .ok (.if_icmp .eq 5, 3) := by decide +kernel
theorem dX5_readArg_12 : decode cX5_readArg 12 = .ok (.iconst 1, 1) := by decide +kernel
theorem dX5_readArg_13 : decode cX5_readArg 13 = .ok (.ireturn, 1) := by decide +kernel
theorem dX5_readArg_14 : decode cX5_readArg 14 = .ok (.aload_n 0, 1) := by decide +kernel
theorem dX5_readArg_15 : decode cX5_readArg 15 = .ok (.getfield 12, 3) := by decide +kernel
theorem dX5_readArg_18 : decode cX5_readArg 18 = .ok (.invokevirtual 91, 3) := by decide +kernel
theorem dX5_readArg_21 : decode cX5_readArg 21 = .ok (.pop, 1) := by decide +kernel
theorem dX5_readArg_22 : decode cX5_readArg 22 = .ok (.aload_n 0, 1) := by decide +kernel
theorem dX5_readArg_23 : decode cX5_readArg 23 = .ok (.getfield 87, 3) := by decide +kernel
theorem dX5_readArg_26 : decode cX5_readArg 26 = .ok (.getfield 105, 3) := by decide +kernel
theorem dX5_readArg_29 : decode cX5_readArg 29 = .ok (.iconst 1, 1) := by decide +kernel
theorem dX5_readArg_30 : decode cX5_readArg 30 = .ok (.isub, 1) := by decide +kernel
theorem dX5_readArg_31 : decode cX5_readArg 31 = .ok (.istore_n 1, 1) := by decide +kernel
theorem dX5_readArg_32 : decode cX5_readArg 32 = .ok (.aload_n 0, 1) := by decide +kernel
theorem dX5_readArg_33 : decode cX5_readArg 33 = .ok (.getfield 87, 3) := by decide +kernel
theorem dX5_readArg_36 : decode cX5_readArg 36 = .ok (.iload_n 1, 1) := by decide +kernel
theorem dX5_readArg_37 : decode cX5_readArg 37 = .ok (.invokevirtual 108, 3) := by decide +kernel
theorem dX5_readArg_40 : decode cX5_readArg 40 = .ok (.ifCond .eq 19, 3) := by decide +kernel
theorem dX5_readArg_43 : decode cX5_readArg 43 = .ok (.aload_n 0, 1) := by decide +kernel
theorem dX5_readArg_44 : decode cX5_readArg 44 = .ok (.getfield 87, 3) := by decide +kernel
theorem dX5_readArg_47 : decode cX5_readArg 47 = .ok (.getfield 111, 3) := by decide +kernel
theorem dX5_readArg_50 : decode cX5_readArg 50 = .ok (.iload_n 1, 1) := by decide +kernel
theorem dX5_readArg_51 : decode cX5_readArg 51 = .ok (.aload_n 0, 1) := by decide +kernel
theorem dX5_readArg_52 : decode cX5_readArg 52 = .ok (.getfield 12, 3) := by decide +kernel
theorem dX5_readArg_55 : decode cX5_readArg 55 = .ok (.getfield 115, 3) := by decide +kernel
theorem dX5_readArg_58 : decode cX5_readArg 58 = .ok (.iastore, 1) := by decide +kernel
theorem dX5_readArg_59 : decode cX5_readArg 59 = .ok (.aload_n 0, 1) := by decide +kernel
theorem dX5_readArg_60 : decode cX5_readArg 60 = .ok (.getfield 12, 3) := by decide +kernel
theorem dX5_readArg_63 : decode cX5_readArg 63 = .ok (.sipush 129, 3) := by decide +kernel
theorem dX5_readArg_66 : decode cX5_readArg 66 = .ok (.invokevirtual 51, 3) := by decide +kernel
theorem dX5_readArg_69 : decode cX5_readArg 69 = .ok (.ifCond .eq 19, 3) := by decide +kernel
theorem dX5_readArg_72 : decode cX5_readArg 72 = .ok (.aload_n 0, 1) := by decide +kernel
theorem dX5_readArg_73 : decode cX5_readArg 73 = .ok (.getfield 12, 3) := by decide +kernel
theorem dX5_readArg_76 : decode cX5_readArg 76 = .ok (.bipush 41, 2) := by decide +kernel
theorem dX5_readArg_78 : decode cX5_readArg 78 = .ok (.invokevirtual 51, 3) := by decide +kernel
theorem dX5_readArg_81 : decode cX5_readArg 81 = .ok (.ifCond .eq 7, 3) := by decide +kernel
theorem dX5_readArg_84 : decode cX5_readArg 84 = .ok (.iconst 1, 1) := by decide +kernel
theorem dX5_readArg_85 : decode cX5_readArg 85 = .ok (.goto 4, 3) := by decide +kernel
theorem dX5_readArg_88 : decode cX5_readArg 88 = .ok (.iconst 0, 1) := by decide +kernel
theorem dX5_readArg_89 : decode cX5_readArg 89 = .ok (.ireturn, 1) := by decide +kernel
theorem dX5_readBody_0 : decode cX5_readBody 0 = .ok (.aload_n 0, 1) := by decide +kernel
theorem dX5_readBody_1 : decode cX5_readBody 1 = .ok (.getfield 12, 3) := by decide +kernel
theorem dX5_readBody_4 : decode cX5_readBody 4 = .ok (.getfield 47, 3) := by decide +kernel
theorem dX5_readBody_7 : decode cX5_readBody 7 = .ok (.bipush 123, 2) := by decide +kernel
theorem dX5_readBody_9 : decode cX5_readBody 9 = .ok (.if_icmp .eq 5, 3) := by decide +kernel
theorem dX5_readBody_12 : decode cX5_readBody 12 = .ok (.iconst 1, 1) := by decide +kernel
theorem dX5_readBody_13 : decode cX5_readBody 13 = .ok (.ireturn, 1) := by decide +kernel
theorem dX5_readBody_14 : decode cX5_readBody 14 = .ok (.aload_n 0, 1) := by decide +kernel
theorem dX5_readBody_15 : decode cX5_readBody 15 = .ok (.getfield 12, 3) := by decide +kernel
theorem dX5_readBody_18 : decode cX5_readBody 18 = .ok (.invokevirtual 91, 3) := by decide +kernel
theorem dX5_readBody_21 : decode cX5_readBody 21 = .ok (.pop, 1) := by decide +kernel
theorem dX5_readBody_22 : decode cX5_readBody 22 = .ok (.aload_n 0, 1) := by decide +kernel
theorem dX5_readBody_23 : decode cX5_readBody 23 = .ok (.getfield 87, 3) := by decide +kernel
theorem dX5_readBody_26 : decode cX5_readBody 26 = .ok (.getfield 105, 3) := by decide +kernel
theorem dX5_readBody_29 : decode cX5_readBody 29 = .ok (.iconst 1, 1) := by decide +kernel
theorem dX5_readBody_30 : decode cX5_readBody 30 = .ok (.isub, 1) := by decide +kernel
theorem dX5_readBody_31 : decode cX5_readBody 31 = .ok (.istore_n 1, 1) := by decide +kernel
theorem dX5_readBody_32 : decode cX5_readBody 32 = .ok (.aload_n 0, 1) := by decide +kernel
theorem dX5_readBody_33 : decode cX5_readBody 33 = .ok (.getfield 87, 3) := by decide +kernel
theorem dX5_readBody_36 : decode cX5_readBody 36 = .ok (.iload_n 1, 1) := by decide +kernel
theorem dX5_readBody_37 : decode cX5_readBody 37 = .ok (.invokevirtual 108, 3) := by decide +kernel
theorem dX5_readBody_40 : decode cX5_readBody 40 = .ok (.ifCond .eq 13, 3) := by decide +kernel
theorem dX5_readBody_43 : decode cX5_readBody 43 = .ok (.aload_n 0, 1) := by decide +kernel
theorem dX5_readBody_44 : decode cX5_readBody 44 = .ok (.getfield 87, 3) := by decide +kernel
theorem dX5_readBody_47 : decode cX5_readBody 47 = .ok (.getfield 118, 3) := by decide +kernel
theorem dX5_readBody_50 : decode cX5_readBody 50 = .ok (.iload_n 1, 1) := by decide +kernel
theorem dX5_readBody_51 : decode cX5_readBody 51 = .ok (.iconst 1, 1) := by decide +kernel
