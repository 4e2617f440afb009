theorem dX5_readBody_52 : decode cX5_readBody 52 = .ok (.bastore, 1) := by decide +kernel
theorem dX5_readBody_53 : decode cX5_readBody 53 = .ok (.aload_n 0, 1) := by decide +kernel
theorem dX5_readBody_54 : decode cX5_readBody 54 = .ok (.getfield 25, 3) := by decide +kernel
theorem dX5_readBody_57 : decode cX5_readBody 57 = .ok (.bipush 13, 2) := by decide +kernel
theorem dX5_readBody_59 : decode cX5_readBody 59 = .ok (.iload_n 1, 1) := by decide +kernel
theorem dX5_readBody_60 : decode cX5_readBody 60 = .ok (.invokevirtual 79, 3) := by decide +kernel
theorem dX5_readBody_63 : decode cX5_readBody 63 = .ok (.pop, 1) := by decide +kernel
theorem dX5_readBody_64 : decode cX5_readBody 64 = .ok (.iconst 0, 1) := by decide +kernel
theorem dX5_readBody_65 : decode cX5_readBody 65 = .ok (.istore_n 2, 1) := by decide +kernel
theorem dX5_readBody_66 : decode cX5_readBody 66 = .ok (.iload_n 2, 1) := by decide +kernel
theorem dX5_readBody_67 : decode cX5_readBody 67 = .ok (.sipush 2000, 3) := by decide +kernel
theorem dX5_readBody_70 : decode cX5_readBody 70 = .ok (.if_icmp .ge 84, 3) := by decide +kernel
theorem dX5_readBody_73 : decode cX5_readBody 73 = .ok (.aload_n 0, 1) := by decide +kernel
theorem dX5_readBody_74 : decode cX5_readBody 74 = .ok (.getfield 12, 3) := by decide +kernel
theorem dX5_readBody_77 : decode cX5_readBody 77 = .ok (.getfield 47, 3) := by decide +kernel
theorem dX5_readBody_80 : decode cX5_readBody 80 = .ok (.sipush 128, 3) := by decide +kernel
theorem dX5_readBody_83 : decode cX5_readBody 83 = .ok (.if_icmp .ne 71, 3) := by decide +kernel
theorem dX5_readBody_86 : decode cX5_readBody 86 = .ok (.aload_n 0, 1) := by decide +kernel
theorem dX5_readBody_87 : decode cX5_readBody 87 = .ok (.getfield 25, 3) := by decide +kernel
theorem dX5_readBody_90 : decode cX5_readBody 90 = .ok (.bipush 14, 2) := by decide +kernel
theorem dX5_readBody_92 : decode cX5_readBody 92 = .ok (.aload_n 0, 1) := by decide +kernel
theorem dX5_readBody_93 : decode cX5_readBody 93 = .ok (.getfield 12, 3) := by decide +kernel
theorem dX5_readBody_96 : decode cX5_readBody 96 = .ok (.getfield 65, 3) := by decide +kernel
theorem dX5_readBody_99 : decode cX5_readBody 99 = .ok (.invokevirtual 79, 3) := by decide +kernel
theorem dX5_readBody_102 : decode cX5_readBody 102 = .ok (.pop, 1) := by decide +kernel
theorem dX5_readBody_103 : decode cX5_readBody 103 = .ok (.aload_n 0, 1) := by decide +kernel
theorem dX5_readBody_104 : decode cX5_readBody 104 = .ok (.getfield 12, 3) := by decide +kernel
theorem dX5_readBody_107 : decode cX5_readBody 107 = .ok (.invokevirtual 91, 3) := by decide +kernel
theorem dX5_readBody_110 : decode cX5_readBody 110 = .ok (.pop, 1) := by decide +kernel
theorem dX5_readBody_111 : decode cX5_readBody 111 = .ok (.aload_n 0, 1) := by decide +kernel
theorem dX5_readBody_112 : decode cX5_readBody 112 = .ok (.getfield 12, 3) := by decide +kernel
theorem dX5_readBody_115 : decode cX5_readBody 115 = .ok (.bipush 61, 2) := by decide +kernel
theorem dX5_readBody_117 : decode cX5_readBody 117 = .ok (.invokevirtual 51, 3) := by decide +kernel
theorem dX5_readBody_120 : decode cX5_readBody 120 = .ok (.ifCond .eq 26, 3) := by decide +kernel
theorem dX5_readBody_123 : decode cX5_readBody 123 = .ok (.aload_n 0, 1) := by decide +kernel
theorem dX5_readBody_124 : decode cX5_readBody 124 = .ok (.getfield 21, 3) := by decide +kernel
theorem dX5_readBody_127 : decode cX5_readBody 127 = .ok (.iconst 0, 1) := by decide +kernel
theorem dX5_readBody_128 : decode cX5_readBody 128 = .ok (.invokevirtual 122, 3) := by decide +kernel
theorem dX5_readBody_131 : decode cX5_readBody 131 = .ok (.ifCond .eq 15, 3) := by decide +kernel
theorem dX5_readBody_134 : decode cX5_readBody 134 = .ok (.aload_n 0, 1) := by decide +kernel
theorem dX5_readBody_135 : decode cX5_readBody 135 = .ok (.getfield 12, 3) := by decide +kernel
theorem dX5_readBody_138 : decode cX5_readBody 138 = .ok (.bipush 59, 2) := by decide +kernel
theorem dX5_readBody_140 : decode cX5_readBody 140 = .ok (.invokevirtual 51, 3) := by decide +kernel
theorem dX5_readBody_143 : decode cX5_readBody 143 = .ok (.ifCond .ne 5, 3) := by decide +kernel
theorem dX5_readBody_146 : decode cX5_readBody 146 = .ok (.iconst 0, 1) := by decide +kernel
theorem dX5_readBody_147 : decode cX5_readBody 147 = .ok (.ireturn, 1) := by decide +kernel
theorem dX5_readBody_148 : decode cX5_readBody 148 = .ok (.iinc 2 1, 3) := by decide +kernel
theorem dX5_readBody_151 : decode cX5_readBody 151 = .ok (.goto (-85), 3) := by decide +kernel
theorem dX5_readBody_154 : decode cX5_readBody 154 = .ok (.aload_n 0, 1) := by decide +kernel
theorem dX5_readBody_155 : decode cX5_readBody 155 = .ok (.getfield 12, 3) := by decide +kernel
theorem dX5_readBody_158 : decode cX5_readBody 158 = .ok (.bipush 125, 2) := by decide +kernel
theorem dX5_readBody_160 : decode cX5_readBody 160 = .ok (.invokevirtual 51, 3) := by decide +kernel
theorem dX5_readBody_163 : decode cX5_readBody 163 = .ok (.ireturn, 1) := by decide +kernel
theorem dX5_readMembers_0 : decode cX5_readMembers 0 = .ok (.aload_n 0, 1) := by decide +kernel
theorem dX5_readMembers_1 : decode cX5_readMembers 1 = .ok (.getfield 12, 3) := by decide +kernel
theorem dX5_readMembers_4 : decode cX5_readMembers 4 = .ok (.getfield 47, 3) := by decide +kernel
theorem dX5_readMembers_7 : decode cX5_readMembers 7 = .ok (.bipush 59, 2) := by decide +kernel
theorem dX5_readMembers_9 : decode cX5_readMembers 9 = .ok (.if_icmp .eq 5, 3) := by decide +kernel
theorem dX5_readMembers_12 : decode cX5_readMembers 12 = .ok (.iconst 1, 1) := by decide +kernel
theorem dX5_readMembers_13 : decode cX5_readMembers 13 = .ok (.ireturn, 1) := by decide +kernel
theorem dX5_readMembers_14 : decode cX5_readMembers 14 = .ok (.aload_n 0, 1) := by decide +kernel
theorem dX5_readMembers_15 : decode cX5_readMembers 15 = .ok (.getfield 12, 3) := by decide +kernel
theorem dX5_readMembers_18 : decode cX5_readMembers 18 = .ok (.invokevirtual 91, 3) := by decide +kernel
theorem dX5_readMembers_21 : decode cX5_readMembers 21 = .ok (.pop, 1) := by decide +kernel
theorem dX5_readMembers_22 : decode cX5_readMembers 22 = .ok (.iconst 1, 1) := by decide +kernel
theorem dX5_readMembers_23 : decode cX5_readMembers 23 = .ok (.istore_n 1, 1) := by decide +kernel
theorem dX5_readMembers_24 : decode cX5_readMembers 24 = .ok (.iconst 0, 1) := by decide +kernel
theorem dX5_readMembers_25 : decode cX5_readMembers 25 = .ok (.istore_n 2, 1) := by decide +kernel
theorem dX5_readMembers_26 : decode cX5_readMembers 26 = .ok (.iload_n 2, 1) := by decide +kernel
theorem dX5_readMembers_27 : decode cX5_readMembers 27 = .ok (.sipush 2000, 3) := by decide +kernel
theorem dX5_readMembers_30 : decode cX5_readMembers 30 = .ok (.if_icmp .ge 98, 3) := by decide +kernel
theorem dX5_readMembers_33 : decode cX5_readMembers 33 = .ok (.iload_n 1, 1) := by decide +kernel
theorem dX5_readMembers_34 : decode cX5_readMembers 34 = .ok (.ifCond .eq 94, 3) := by decide +kernel
theorem dX5_readMembers_37 : decode cX5_readMembers 37 = .ok (.aload_n 0, 1) := by decide +kernel
theorem dX5_readMembers_38 : decode cX5_readMembers 38 = .ok (.getfield 12, 3) := by decide +kernel
theorem dX5_readMembers_41 : decode cX5_readMembers 41 = .ok (.getfield 47, 3) := by decide +kernel
theorem dX5_readMembers_44 : decode cX5_readMembers 44 = .ok (.tableswitch 76 133 137 #[36, 44, 52, 60, 68], 36) := by decide +kernel
theorem dX5_readMembers_80 : decode cX5_readMembers 80 = .ok (.aload_n 0, 1) := by decide +kernel
theorem dX5_readMembers_81 : decode cX5_readMembers 81 = .ok (.invokevirtual 125, 3) := by decide +kernel
theorem dX5_readMembers_84 : decode cX5_readMembers 84 = .ok (.istore_n 1, 1) := by decide +kernel
theorem dX5_readMembers_85 : decode cX5_readMembers 85 = .ok (.goto 37, 3) := by decide +kernel
theorem dX5_readMembers_88 : decode cX5_readMembers 88 = .ok (.aload_n 0, 1) := by decide +kernel
theorem dX5_readMembers_89 : decode cX5_readMembers 89 = .ok (.invokevirtual 128, 3) := by decide +kernel
theorem dX5_readMembers_92 : decode cX5_readMembers 92 = .ok (.istore_n 1, 1) := by decide +kernel
theorem dX5_readMembers_93 : decode cX5_readMembers 93 = .ok (.goto 29, 3) := by decide +kernel
theorem dX5_readMembers_96 : decode cX5_readMembers 96 = .ok (.aload_n 0, 1) := by decide +kernel
theorem dX5_readMembers_97 : decode cX5_readMembers 97 = .ok (.invokevirtual 131, 3) := by decide +kernel
theorem dX5_readMembers_100 : decode cX5_readMembers 100 = .ok (.istore_n 1, 1) := by decide +kernel
theorem dX5_readMembers_101 : decode cX5_readMembers 101 = .ok (.goto 21, 3) := by decide +kernel
theorem dX5_readMembers_104 : decode cX5_readMembers 104 = .ok (.aload_n 0, 1) := by decide +kernel
theorem dX5_readMembers_105 : decode cX5_readMembers 105 = .ok (.invokevirtual 134, 3) := by decide +kernel
theorem dX5_readMembers_108 : decode cX5_readMembers 108 = .ok (.istore_n 1, 1) := by decide +kernel
theorem dX5_readMembers_109 : decode cX5_readMembers 109 = .ok (.goto 13, 3) := by decide +kernel
theorem dX5_readMembers_112 : decode cX5_readMembers 112 = .ok (.aload_n 0, 1) := by decide +kernel
theorem dX5_readMembers_113 : decode cX5_readMembers 113 = .ok (.invokevirtual 137, 3) := by decide +kernel
theorem dX5_readMembers_116 : decode cX5_readMembers 116 = .ok (.istore_n 1, 1) := by decide +kernel
theorem dX5_readMembers_117 : decode cX5_readMembers 117 = .ok (.goto 5, 3) := by decide +kernel
theorem dX5_readMembers_120 : decode cX5_readMembers 120 = .ok (.iconst 1, 1) := by decide +kernel
theorem dX5_readMembers_121 : decode cX5_readMembers 121 = .ok (.ireturn, 1) := by decide +kernel
theorem dX5_readMembers_122 : decode cX5_readMembers 122 = .ok (.iinc 2 1, 3) := by decide +kernel
theorem dX5_readMembers_125 : decode cX5_readMembers 125 = .ok (.goto (-99), 3) := by decide +kernel
theorem dX5_readMembers_128 : decode cX5_readMembers 128 = .ok (.iload_n 1, 1) := by decide +kernel
theorem dX5_readMembers_129 : decode cX5_readMembers 129 = .ok (.ireturn, 1) := by decide +kernel
theorem dX5_readAbstract_0 : decode cX5_readAbstract 0 = .ok (.aload_n 0, 1) := by decide +kernel
theorem dX5_readAbstract_1 : decode cX5_readAbstract 1 = .ok (.getfield 12, 3) := by decide +kernel
theorem dX5_readAbstract_4 : decode cX5_readAbstract 4 = .ok (.invokevirtual 91, 3) := by decide +kernel
theorem dX5_readAbstract_7 : decode cX5_readAbstract 7 = .ok (.pop, 1) := by decide +kernel
theorem dX5_readAbstract_8 : decode cX5_readAbstract 8 = .ok (.aload_n 0, 1) := by decide +kernel
theorem dX5_readAbstract_9 : decode cX5_readAbstract 9 = .ok (.getfield 12, 3) := by decide +kernel
theorem dX5_readAbstract_12 : decode cX5_readAbstract 12 = .ok (.getfield 47, 3) := by decide +kernel
theorem dX5_readAbstract_15 : decode cX5_readAbstract 15 = .ok (.sipush 128, 3) := by decide +kernel
theorem dX5_readAbstract_18 : decode cX5_readAbstract 18 = .ok (.if_icmp .ne 21, 3) := by decide +kernel
theorem dX5_readAbstract_21 : decode cX5_readAbstract 21 = .ok (.aload_n 0, 1) := by decide +kernel
theorem dX5_readAbstract_22 : decode cX5_readAbstract 22 = .ok (.getfield 87, 3) := by decide +kernel
theorem dX5_readAbstract_25 : decode cX5_readAbstract 25 = .ok (.aload_n 0, 1) := by decide +kernel
theorem dX5_readAbstract_26 : decode cX5_readAbstract 26 = .ok (.getfield 12, 3) := by decide +kernel
theorem dX5_readAbstract_29 : decode cX5_readAbstract 29 = .ok (.getfield 65, 3) := by decide +kernel
theorem dX5_readAbstract_32 : decode cX5_readAbstract 32 = .ok (.iconst (-1), 1) := by decide +kernel
theorem dX5_readAbstract_33 : decode cX5_readAbstract 33 = .ok (.invokevirtual 140, 3) := by decide +kernel
theorem dX5_readAbstract_36 : decode cX5_readAbstract 36 = .ok (.ifCond .ne 5, 3) := by decide +kernel
theorem dX5_readAbstract_39 : decode cX5_readAbstract 39 = .ok (.iconst 0, 1) := by decide +kernel
theorem dX5_readAbstract_40 : decode cX5_readAbstract 40 = .ok (.ireturn, 1) := by decide +kernel
theorem dX5_readAbstract_41 : decode cX5_readAbstract 41 = .ok (.aload_n 0, 1) := by decide +kernel
theorem dX5_readAbstract_42 : decode cX5_readAbstract 42 = .ok (.getfield 12, 3) := by decide +kernel
theorem dX5_readAbstract_45 : decode cX5_readAbstract 45 = .ok (.invokevirtual 91, 3) := by decide +kernel
theorem dX5_readAbstract_48 : decode cX5_readAbstract 48 = .ok (.ifCond .eq 19, 3) := by decide +kernel
theorem dX5_readAbstract_51 : decode cX5_readAbstract 51 = .ok (.aload_n 0, 1) := by decide +kernel
theorem dX5_readAbstract_52 : decode cX5_readAbstract 52 = .ok (.getfield 12, 3) := by decide +kernel
theorem dX5_readAbstract_55 : decode cX5_readAbstract 55 = .ok (.bipush 59, 2) := by decide +kernel
theorem dX5_readAbstract_57 : decode cX5_readAbstract 57 = .ok (.invokevirtual 51, 3) := by decide +kernel
theorem dX5_readAbstract_60 : decode cX5_readAbstract 60 = .ok (.ifCond .eq 7, 3) := by decide +kernel
theorem dX5_readAbstract_63 : decode cX5_readAbstract 63 = .ok (.iconst 1, 1) := by decide +kernel
theorem dX5_readAbstract_64 : decode cX5_readAbstract 64 = .ok (.goto 4, 3) := by decide +kernel
theorem dX5_readAbstract_67 : decode cX5_readAbstract 67 = .ok (.iconst 0, 1) := by decide +kernel
theorem dX5_readAbstract_68 : decode cX5_readAbstract 68 = .ok (.ireturn, 1) := by decide +kernel
theorem dX5_readDef_0 : decode cX5_readDef 0 = .ok (.aload_n 0, 1) := by decide +kernel
theorem dX5_readDef_1 : decode cX5_readDef 1 = .ok (.getfield 12, 3) := by decide +kernel
theorem dX5_readDef_4 : decode cX5_readDef 4 = .ok (.invokevirtual 91, 3) := by decide +kernel
theorem dX5_readDef_7 : decode cX5_readDef 7 = .ok (.pop, 1) := by decide +kernel
theorem dX5_readDef_8 : decode cX5_readDef 8 = .ok (.aload_n 0, 1) := by decide +kernel
theorem dX5_readDef_9 : decode cX5_readDef 9 = .ok (.getfield 12, 3) := by decide +kernel
theorem dX5_readDef_12 : decode cX5_readDef 12 = .ok (.getfield 47, 3) := by decide +kernel
theorem dX5_readDef_15 : decode cX5_readDef 15 = .ok (.sipush 128, 3) := by decide +kernel
theorem dX5_readDef_18 : decode cX5_readDef 18 = .ok (.if_icmp .ne 27, 3) := by decide +kernel
theorem dX5_readDef_21 : decode cX5_readDef 21 = .ok (.aload_n 0, 1) := by decide +kernel
theorem dX5_readDef_22 : decode cX5_readDef 22 = .ok (.getfield 87, 3) := by decide +kernel
theorem dX5_readDef_25 : decode cX5_readDef 25 = .ok (.aload_n 0, 1) := by decide +kernel
theorem dX5_readDef_26 : decode cX5_readDef 26 = .ok (.getfield 12, 3) := by decide +kernel
theorem dX5_readDef_29 : decode cX5_readDef 29 = .ok (.getfield 65, 3) := by decide +kernel
theorem dX5_readDef_32 : decode cX5_readDef 32 = .ok (.aload_n 0, 1) := by decide +kernel
theorem dX5_readDef_33 : decode cX5_readDef 33 = .ok (.getfield 25, 3) := by decide +kernel
theorem dX5_readDef_36 : decode cX5_readDef 36 = .ok (.getfield 143, 3) := by decide +kernel
theorem dX5_readDef_39 : decode cX5_readDef 39 = .ok (.invokevirtual 140, 3) := by decide +kernel
theorem dX5_readDef_42 : decode cX5_readDef 42 = .ok (.ifCond .ne 5, 3) := by decide +kernel
theorem dX5_readDef_45 : decode cX5_readDef 45 = .ok (.iconst 0, 1) := by decide +kernel
theorem dX5_readDef_46 : decode cX5_readDef 46 = .ok (.ireturn, 1) := by decide +kernel
theorem dX5_readDef_47 : decode cX5_readDef 47 = .ok (.aload_n 0, 1) := by decide +kernel
theorem dX5_readDef_48 : decode cX5_readDef 48 = .ok (.getfield 12, 3) := by decide +kernel
theorem dX5_readDef_51 : decode cX5_readDef 51 = .ok (.invokevirtual 91, 3) := by decide +kernel
theorem dX5_readDef_54 : decode cX5_readDef 54 = .ok (.ifCond .eq 42, 3) := by decide +kernel
theorem dX5_readDef_57 : decode cX5_readDef 57 = .ok (.aload_n 0, 1) := by decide +kernel
theorem dX5_readDef_58 : decode cX5_readDef 58 = .ok (.getfield 12, 3) := by decide +kernel
theorem dX5_readDef_61 : decode cX5_readDef 61 = .ok (.bipush 61, 2) := by decide +kernel
theorem dX5_readDef_63 : decode cX5_readDef 63 = .ok (.invokevirtual 51, 3) := by decide +kernel
theorem dX5_readDef_66 : decode cX5_readDef 66 = .ok (.ifCond .eq 30, 3) := by decide +kernel
theorem dX5_readDef_69 : decode cX5_readDef 69 = .ok (.aload_n 0, 1) := by decide +kernel
theorem dX5_readDef_70 : decode cX5_readDef 70 = .ok (.getfield 21, 3) := by decide +kernel
theorem dX5_readDef_73 : decode cX5_readDef 73 = .ok (.iconst 0, 1) := by decide +kernel
theorem dX5_readDef_74 : decode cX5_readDef 74 = .ok (.invokevirtual 122, 3) := by decide +kernel
theorem dX5_readDef_77 : decode cX5_readDef 77 = .ok (.ifCond .eq 19, 3) := by decide +kernel
theorem dX5_readDef_80 : decode cX5_readDef 80 = .ok (.aload_n 0, 1) := by decide +kernel
theorem dX5_readDef_81 : decode cX5_readDef 81 = .ok (.getfield 12, 3) := by decide +kernel
theorem dX5_readDef_84 : decode cX5_readDef 84 = .ok (.bipush 59, 2) := by decide +kernel
theorem dX5_readDef_86 : decode cX5_readDef 86 = .ok (.invokevirtual 51, 3) := by decide +kernel
theorem dX5_readDef_89 : decode cX5_readDef 89 = .ok (.ifCond .eq 7, 3) := by decide +kernel
theorem dX5_readDef_92 : decode cX5_readDef 92 = .ok (.iconst 1, 1) := by decide +kernel
theorem dX5_readDef_93 : decode cX5_readDef 93 = .ok (.goto 4, 3) := by decide +kernel
theorem dX5_readDef_96 : decode cX5_readDef 96 = .ok (.iconst 0, 1) := by decide +kernel
theorem dX5_readDef_97 : decode cX5_readDef 97 = .ok (.ireturn, 1) := by decide +kernel
theorem dX5_readField_0 : decode cX5_readField 0 = .ok (.aload_n 0, 1) := by decide +kernel
theorem dX5_readField_1 : decode cX5_readField 1 = .ok (.getfield 12, 3) := by decide +kernel
theorem dX5_readField_4 : decode cX5_readField 4 = .ok (.invokevirtual 91, 3) := by decide +kernel
theorem dX5_readField_7 : decode cX5_readField 7 = .ok (.pop, 1) := by decide +kernel
theorem dX5_readField_8 : decode cX5_readField 8 = .ok (.aload_n 0, 1) := by decide +kernel
theorem dX5_readField_9 : decode cX5_readField 9 = .ok (.getfield 12, 3) := by decide +kernel
theorem dX5_readField_12 : decode cX5_readField 12 = .ok (.getfield 47, 3) := by decide +kernel
theorem dX5_readField_15 : decode cX5_readField 15 = .ok (.sipush 128, 3) := by decide +kernel
theorem dX5_readField_18 : decode cX5_readField 18 = .ok (.if_icmp .ne 27, 3) := by decide +kernel
theorem dX5_readField_21 : decode cX5_readField 21 = .ok (.aload_n 0, 1) := by decide +kernel
theorem dX5_readField_22 : decode cX5_readField 22 = .ok (.getfield 87, 3) := by decide +kernel
theorem dX5_readField_25 : decode cX5_readField 25 = .ok (.aload_n 0, 1) := by decide +kernel
theorem dX5_readField_26 : decode cX5_readField 26 = .ok (.getfield 12, 3) := by decide +kernel
theorem dX5_readField_29 : decode cX5_readField 29 = .ok (.getfield 65, 3) := by decide +kernel
theorem dX5_readField_32 : decode cX5_readField 32 = .ok (.aload_n 0, 1) := by decide +kernel
theorem dX5_readField_33 : decode cX5_readField 33 = .ok (.getfield 25, 3) := by decide +kernel
theorem dX5_readField_36 : decode cX5_readField 36 = .ok (.getfield 143, 3) := by decide +kernel
theorem dX5_readField_39 : decode cX5_readField 39 = .ok (.invokevirtual 146, 3) := by decide +kernel
theorem dX5_readField_42 : decode cX5_readField 42 = .ok (.ifCond .ne 5, 3) := by decide +kernel
theorem dX5_readField_45 : decode cX5_readField 45 = .ok (.iconst 0, 1) := by decide +kernel
theorem dX5_readField_46 : decode cX5_readField 46 = .ok (.ireturn, 1) := by decide +kernel
theorem dX5_readField_47 : decode cX5_readField 47 = .ok (.aload_n 0, 1) := by decide +kernel
theorem dX5_readField_48 : decode cX5_readField 48 = .ok (.getfield 12, 3) := by decide +kernel
theorem dX5_readField_51 : decode cX5_readField 51 = .ok (.invokevirtual 91, 3) := by decide +kernel
theorem dX5_readField_54 : decode cX5_readField 54 = .ok (.ifCond .eq 42, 3) := by decide +kernel
theorem dX5_readField_57 : decode cX5_readField 57 = .ok (.aload_n 0, 1) := by decide +kernel
theorem dX5_readField_58 : decode cX5_readField 58 = .ok (.getfield 12, 3) := by decide +kernel
theorem dX5_readField_61 : decode cX5_readField 61 = .ok (.bipush 61, 2) := by decide +kernel
theorem dX5_readField_63 : decode cX5_readField 63 = .ok (.invokevirtual 51, 3) := by decide +kernel
theorem dX5_readField_66 : decode cX5_readField 66 = .ok (.ifCond .eq 30, 3) := by decide +kernel
theorem dX5_readField_69 : decode cX5_readField 69 = .ok (.aload_n 0, 1) := by decide +kernel
theorem dX5_readField_70 : decode cX5_readField 70 = .ok (.getfield 21, 3) := by decide +kernel
theorem dX5_readField_73 : decode cX5_readField 73 = .ok (.iconst 1, 1) := by decide +kernel
theorem dX5_readField_74 : decode cX5_readField 74 = .ok (.invokevirtual 122, 3) := by decide +kernel
theorem dX5_readField_77 : decode cX5_readField 77 = .ok (.ifCond .eq 19, 3) := by decide +kernel
theorem dX5_readField_80 : decode cX5_readField 80 = .ok (.aload_n 0, 1) := by decide +kernel
theorem dX5_readField_81 : decode cX5_readField 81 = .ok (.getfield 12, 3) := by decide +kernel
theorem dX5_readField_84 : decode cX5_readField 84 = .ok (.bipush 59, 2) := by decide +kernel
theorem dX5_readField_86 : decode cX5_readField 86 = .ok (.invokevirtual 51, 3) := by decide +kernel
theorem dX5_readField_89 : decode cX5_readField 89 = .ok (.ifCond .eq 7, 3) := by decide +kernel
theorem dX5_readField_92 : decode cX5_readField 92 = .ok (.iconst 1, 1) := by decide +kernel
theorem dX5_readField_93 : decode cX5_readField 93 = .ok (.goto 4, 3) := by decide +kernel
theorem dX5_readField_96 : decode cX5_readField 96 = .ok (.iconst 0, 1) := by decide +kernel
theorem dX5_readField_97 : decode cX5_readField 97 = .ok (.ireturn, 1) := by decide +kernel
theorem dX5_readConst_0 : decode cX5_readConst 0 = .ok (.aload_n 0, 1) := by decide +kernel
theorem dX5_readConst_1 : decode cX5_readConst 1 = .ok (.getfield 12, 3) := by decide +kernel
theorem dX5_readConst_4 : decode cX5_readConst 4 = .ok (.invokevirtual 91, 3) := by decide +kernel
theorem dX5_readConst_7 : decode cX5_readConst 7 = .ok (.pop, 1) := by decide +kernel
theorem dX5_readConst_8 : decode cX5_readConst 8 = .ok (.aload_n 0, 1) := by decide +kernel
theorem dX5_readConst_9 : decode cX5_readConst 9 = .ok (.getfield 12, 3) := by decide +kernel
theorem dX5_readConst_12 : decode cX5_readConst 12 = .ok (.getfield 47, 3) := by decide +kernel
theorem dX5_readConst_15 : decode cX5_readConst 15 = .ok (.sipush 128, 3) := by decide +kernel
theorem dX5_readConst_18 : decode cX5_readConst 18 = .ok (.if_icmp .ne 21, 3) := by decide +kernel
theorem dX5_readConst_21 : decode cX5_readConst 21 = .ok (.aload_n 0, 1) := by decide +kernel
theorem dX5_readConst_22 : decode cX5_readConst 22 = .ok (.getfield 87, 3) := by decide +kernel
theorem dX5_readConst_25 : decode cX5_readConst 25 = .ok (.aload_n 0, 1) := by decide +kernel
theorem dX5_readConst_26 : decode cX5_readConst 26 = .ok (.getfield 12, 3) := by decide +kernel
theorem dX5_readConst_29 : decode cX5_readConst 29 = .ok (.getfield 65, 3) := by decide +kernel
theorem dX5_readConst_32 : decode cX5_readConst 32 = .ok (.iconst (-1), 1) := by decide +kernel
theorem dX5_readConst_33 : decode cX5_readConst 33 = .ok (.invokevirtual 146, 3) := by decide +kernel
theorem dX5_readConst_36 : decode cX5_readConst 36 = .ok (.ifCond .ne 5, 3) := by decide +kernel
theorem dX5_readConst_39 : decode cX5_readConst 39 = .ok (.iconst 0, 1) := by decide +kernel
theorem dX5_readConst_40 : decode cX5_readConst 40 = .ok (.ireturn, 1) := by decide +kernel
theorem dX5_readConst_41 : decode cX5_readConst 41 = .ok (.aload_n 0, 1) := by decide +kernel
theorem dX5_readConst_42 : decode cX5_readConst 42 = .ok (.getfield 12, 3) := by decide +kernel
theorem dX5_readConst_45 : decode cX5_readConst 45 = .ok (.invokevirtual 91, 3) := by decide +kernel
theorem dX5_readConst_48 : decode cX5_readConst 48 = .ok (.ifCond .eq 15, 3) := by decide +kernel
theorem dX5_readConst_51 : decode cX5_readConst 51 = .ok (.aload_n 0, 1) := by decide +kernel
theorem dX5_readConst_52 : decode cX5_readConst 52 = .ok (.getfield 12, 3) := by decide +kernel
theorem dX5_readConst_55 : decode cX5_readConst 55 = .ok (.bipush 61, 2) := by decide +kernel
theorem dX5_readConst_57 : decode cX5_readConst 57 = .ok (.invokevirtual 51, 3) := by decide +kernel
theorem dX5_readConst_60 : decode cX5_readConst 60 = .ok (.ifCond .ne 5, 3) := by decide +kernel
theorem dX5_readConst_63 : decode cX5_readConst 63 = .ok (.iconst 0, 1) := by decide +kernel
theorem dX5_readConst_64 : decode cX5_readConst 64 = .ok (.ireturn, 1) := by decide +kernel
theorem dX5_readConst_65 : decode cX5_readConst 65 = .ok (.aload_n 0, 1) := by decide +kernel
theorem dX5_readConst_66 : decode cX5_readConst 66 = .ok (.getfield 87, 3) := by decide +kernel
theorem dX5_readConst_69 : decode cX5_readConst 69 = .ok (.getfield 149, 3) := by decide +kernel
theorem dX5_readConst_72 : decode cX5_readConst 72 = .ok (.iconst 1, 1) := by decide +kernel
theorem dX5_readConst_73 : decode cX5_readConst 73 = .ok (.isub, 1) := by decide +kernel
theorem dX5_readConst_74 : decode cX5_readConst 74 = .ok (.istore_n 1, 1) := by decide +kernel
theorem dX5_readConst_75 : decode cX5_readConst 75 = .ok (.aload_n 0, 1) := by decide +kernel
theorem dX5_readConst_76 : decode cX5_readConst 76 = .ok (.getfield 87, 3) := by decide +kernel
theorem dX5_readConst_79 : decode cX5_readConst 79 = .ok (.iload_n 1, 1) := by decide +kernel
theorem dX5_readConst_80 : decode cX5_readConst 80 = .ok (.invokevirtual 152, 3) := by decide +kernel
theorem dX5_readConst_83 : decode cX5_readConst 83 = .ok (.ifCond .eq 19, 3) := by decide +kernel
theorem dX5_readConst_86 : decode cX5_readConst 86 = .ok (.aload_n 0, 1) := by decide +kernel
theorem dX5_readConst_87 : decode cX5_readConst 87 = .ok (.getfield 87, 3) := by decide +kernel
theorem dX5_readConst_90 : decode cX5_readConst 90 = .ok (.getfield 155, 3) := by decide +kernel
theorem dX5_readConst_93 : decode cX5_readConst 93 = .ok (.iload_n 1, 1) := by decide +kernel
theorem dX5_readConst_94 : decode cX5_readConst 94 = .ok (.aload_n 0, 1) := by decide +kernel
theorem dX5_readConst_95 : decode cX5_readConst 95 = .ok (.getfield 12, 3) := by decide +kernel
theorem dX5_readConst_98 : decode cX5_readConst 98 = .ok (.getfield 115, 3) := by decide +kernel
theorem dX5_readConst_101 : decode cX5_readConst 101 = .ok (.iastore, 1) := by decide +kernel
theorem dX5_readConst_102 : decode cX5_readConst 102 = .ok (.aload_n 0, 1) := by decide +kernel
theorem dX5_readConst_103 : decode cX5_readConst 103 = .ok (.getfield 12, 3) := by decide +kernel
theorem dX5_readConst_106 : decode cX5_readConst 106 = .ok (.sipush 129, 3) := by decide +kernel
theorem dX5_readConst_109 : decode cX5_readConst 109 = .ok (.invokevirtual 51, 3) := by decide +kernel
theorem dX5_readConst_112 : decode cX5_readConst 112 = .ok (.ifCond .eq 19, 3) := by decide +kernel
theorem dX5_readConst_115 : decode cX5_readConst 115 = .ok (.aload_n 0, 1) := by decide +kernel
theorem dX5_readConst_116 : decode cX5_readConst 116 = .ok (.getfield 12, 3) := by decide +kernel
theorem dX5_readConst_119 : decode cX5_readConst 119 = .ok (.bipush 59, 2) := by decide +kernel
theorem dX5_readConst_121 : decode cX5_readConst 121 = .ok (.invokevirtual 51, 3) := by decide +kernel
theorem dX5_readConst_124 : decode cX5_readConst 124 = .ok (.ifCond .eq 7, 3) := by decide +kernel
theorem dX5_readConst_127 : decode cX5_readConst 127 = .ok (.iconst 1, 1) := by decide +kernel
theorem dX5_readConst_128 : decode cX5_readConst 128 = .ok (.goto 4, 3) := by decide +kernel
theorem dX5_readConst_131 : decode cX5_readConst 131 = .ok (.iconst 0, 1) := by decide +kernel
theorem dX5_readConst_132 : decode cX5_readConst 132 = .ok (.ireturn, 1) := by decide +kernel
theorem dX5_readMaker_0 : decode cX5_readMaker 0 = .ok (.aload_n 0, 1) := by decide +kernel
theorem dX5_readMaker_1 : decode cX5_readMaker 1 = .ok (.getfield 87, 3) := by decide +kernel
theorem dX5_readMaker_4 : decode cX5_readMaker 4 = .ok (.getfield 158, 3) := by decide +kernel
theorem dX5_readMaker_7 : decode cX5_readMaker 7 = .ok (.iconst (-1), 1) := by decide +kernel
theorem dX5_readMaker_8 : decode cX5_readMaker 8 = .ok (.if_icmp .eq 18, 3) := by decide +kernel
theorem dX5_readMaker_11 : decode cX5_readMaker 11 = .ok (.aload_n 0, 1) := by decide +kernel
theorem dX5_readMaker_12 : decode cX5_readMaker 12 = .ok (.getfield 29, 3) := by decide +kernel
theorem dX5_readMaker_15 : decode cX5_readMaker 15 = .ok (.iconst 2, 1) := by decide +kernel
theorem dX5_readMaker_16 : decode cX5_readMaker 16 = .ok (.aload_n 0, 1) := by decide +kernel
theorem dX5_readMaker_17 : decode cX5_readMaker 17 = .ok (.getfield 12, 3) := by decide +kernel
theorem dX5_readMaker_20 : decode cX5_readMaker 20 = .ok (.getfield 65, 3) := by decide +kernel
theorem dX5_readMaker_23 : decode cX5_readMaker 23 = .ok (.invokevirtual 161, 3) := by decide +kernel
theorem dX5_readMaker_26 : decode cX5_readMaker 26 = .ok (.aload_n 0, 1) := by decide +kernel
theorem dX5_readMaker_27 : decode cX5_readMaker 27 = .ok (.getfield 25, 3) := by decide +kernel
theorem dX5_readMaker_30 : decode cX5_readMaker 30 = .ok (.bipush 15, 2) := by decide +kernel
theorem dX5_readMaker_32 : decode cX5_readMaker 32 = .ok (.iconst 0, 1) := by decide +kernel
theorem dX5_readMaker_33 : decode cX5_readMaker 33 = .ok (.invokevirtual 79, 3) := by decide +kernel
theorem dX5_readMaker_36 : decode cX5_readMaker 36 = .ok (.pop, 1) := by decide +kernel
theorem dX5_readMaker_37 : decode cX5_readMaker 37 = .ok (.aload_n 0, 1) := by decide +kernel
theorem dX5_readMaker_38 : decode cX5_readMaker 38 = .ok (.getfield 87, 3) := by decide +kernel
theorem dX5_readMaker_41 : decode cX5_readMaker 41 = .ok (.aload_n 0, 1) := by decide +kernel
theorem dX5_readMaker_42 : decode cX5_readMaker 42 = .ok (.getfield 25, 3) := by decide +kernel
theorem dX5_readMaker_45 : decode cX5_readMaker 45 = .ok (.getfield 143, 3) := by decide +kernel
theorem dX5_readMaker_48 : decode cX5_readMaker 48 = .ok (.putfield 158, 3) := by decide +kernel
theorem dX5_readMaker_51 : decode cX5_readMaker 51 = .ok (.aload_n 0, 1) := by decide +kernel
theorem dX5_readMaker_52 : decode cX5_readMaker 52 = .ok (.getfield 12, 3) := by decide +kernel
theorem dX5_readMaker_55 : decode cX5_readMaker 55 = .ok (.invokevirtual 91, 3) := by decide +kernel
theorem dX5_readMaker_58 : decode cX5_readMaker 58 = .ok (.ifCond .eq 42, 3) := by decide +kernel
theorem dX5_readMaker_61 : decode cX5_readMaker 61 = .ok (.aload_n 0, 1) := by decide +kernel
theorem dX5_readMaker_62 : decode cX5_readMaker 62 = .ok (.getfield 12, 3) := by decide +kernel
theorem dX5_readMaker_65 : decode cX5_readMaker 65 = .ok (.bipush 61, 2) := by decide +kernel
theorem dX5_readMaker_67 : decode cX5_readMaker 67 = .ok (.invokevirtual 51, 3) := by decide +kernel
theorem dX5_readMaker_70 : decode cX5_readMaker 70 = .ok (.ifCond .eq 30, 3) := by decide +kernel
theorem dX5_readMaker_73 : decode cX5_readMaker 73 = .ok (.aload_n 0, 1) := by decide +kernel
theorem dX5_readMaker_74 : decode cX5_readMaker 74 = .ok (.getfield 21, 3) := by decide +kernel
theorem dX5_readMaker_77 : decode cX5_readMaker 77 = .ok (.iconst 2, 1) := by decide +kernel
theorem dX5_readMaker_78 : decode cX5_readMaker 78 = .ok (.invokevirtual 122, 3) := by decide +kernel
theorem dX5_readMaker_81 : decode cX5_readMaker 81 = .ok (.ifCond .eq 19, 3) := by decide +kernel
theorem dX5_readMaker_84 : decode cX5_readMaker 84 = .ok (.aload_n 0, 1) := by decide +kernel
theorem dX5_readMaker_85 : decode cX5_readMaker 85 = .ok (.getfield 12, 3) := by decide +kernel
theorem dX5_readMaker_88 : decode cX5_readMaker 88 = .ok (.bipush 59, 2) := by decide +kernel
theorem dX5_readMaker_90 : decode cX5_readMaker 90 = .ok (.invokevirtual 51, 3) := by decide +kernel
theorem dX5_readMaker_93 : decode cX5_readMaker 93 = .ok (.ifCond .eq 7, 3) := by decide +kernel
theorem dX5_readMaker_96 : decode cX5_readMaker 96 = .ok (.iconst 1, 1) := by decide +kernel
theorem dX5_readMaker_97 : decode cX5_readMaker 97 = .ok (.goto 4, 3) := by decide +kernel
theorem dX5_readMaker_100 : decode cX5_readMaker 100 = .ok (.iconst 0, 1) := by decide +kernel
theorem dX5_readMaker_101 : decode cX5_readMaker 101 = .ok (.ireturn, 1) := by decide +kernel
theorem dX6_init_0 : decode cX6_init 0 = .ok (.aload_n 0, 1) := by decide +kernel
theorem dX6_init_1 : decode cX6_init 1 = .ok (.invokespecial 3, 3) := by decide +kernel
theorem dX6_init_4 : decode cX6_init 4 = .ok (.aload_n 0, 1) := by decide +kernel
theorem dX6_init_5 : decode cX6_init 5 = .ok (.bipush 8, 2) := by decide +kernel
theorem dX6_init_7 : decode cX6_init 7 = .ok (.anewarray 9, 3) := by decide +kernel
theorem dX6_init_10 : decode cX6_init 10 = .ok (.putfield 11, 3) := by decide +kernel
theorem dX6_init_13 : decode cX6_init 13 = .ok (.aload_n 0, 1) := by decide +kernel
theorem dX6_init_14 : decode cX6_init 14 = .ok (.bipush 8, 2) := by decide +kernel
theorem dX6_init_16 : decode cX6_init 16 = .ok (.newarray .int, 2) := by decide +kernel
theorem dX6_init_18 : decode cX6_init 18 = .ok (.putfield 17, 3) := by decide +kernel
theorem dX6_init_21 : decode cX6_init 21 = .ok (.aload_n 0, 1) := by decide +kernel
theorem dX6_init_22 : decode cX6_init 22 = .ok (.sipush 2000, 3) := by decide +kernel
theorem dX6_init_25 : decode cX6_init 25 = .ok (.newarray .long, 2) := by decide +kernel
theorem dX6_init_27 : decode cX6_init 27 = .ok (.putfield 21, 3) := by decide +kernel
theorem dX6_init_30 : decode cX6_init 30 = .ok (.iconst 0, 1) := by decide +kernel
theorem dX6_init_31 : decode cX6_init 31 = .ok (.istore_n 1, 1) := by decide +kernel
theorem dX6_init_32 : decode cX6_init 32 = .ok (.iload_n 1, 1) := by decide +kernel
theorem dX6_init_33 : decode cX6_init 33 = .ok (.aload_n 0, 1) := by decide +kernel
theorem dX6_init_34 : decode cX6_init 34 = .ok (.getfield 11, 3) := by decide +kernel
theorem dX6_init_37 : decode cX6_init 37 = .ok (.arraylength, 1) := by decide +kernel
theorem dX6_init_38 : decode cX6_init 38 = .ok (.if_icmp .ge 22, 3) := by decide +kernel
theorem dX6_init_41 : decode cX6_init 41 = .ok (.aload_n 0, 1) := by decide +kernel
theorem dX6_init_42 : decode cX6_init 42 = .ok (.getfield 11, 3) := by decide +kernel
theorem dX6_init_45 : decode cX6_init 45 = .ok (.iload_n 1, 1) := by decide +kernel
theorem dX6_init_46 : decode cX6_init 46 = .ok (.new 9, 3) := by decide +kernel
theorem dX6_init_49 : decode cX6_init 49 = .ok (.dup, 1) := by decide +kernel
theorem dX6_init_50 : decode cX6_init 50 = .ok (.invokespecial 25, 3) := by decide +kernel
theorem dX6_init_53 : decode cX6_init 53 = .ok (.aastore, 1) := by decide +kernel
theorem dX6_init_54 : decode cX6_init 54 = .ok (.iinc 1 1, 3) := by decide +kernel
theorem dX6_init_57 : decode cX6_init 57 = .ok (.goto (-25), 3) := by decide +kernel
theorem dX6_init_60 : decode cX6_init 60 = .ok (.return_, 1) := by decide +kernel
theorem dX6_begin_0 : decode cX6_begin 0 = .ok (.aload_n 0, 1) := by decide +kernel
theorem dX6_begin_1 : decode cX6_begin 1 = .ok (.aload_n 1, 1) := by decide +kernel
theorem dX6_begin_2 : decode cX6_begin 2 = .ok (.putfield 26, 3) := by decide +kernel
theorem dX6_begin_5 : decode cX6_begin 5 = .ok (.aload_n 0, 1) := by decide +kernel
theorem dX6_begin_6 : decode cX6_begin 6 = .ok (.iconst 0, 1) := by decide +kernel
theorem dX6_begin_7 : decode cX6_begin 7 = .ok (.putfield 30, 3) := by decide +kernel
theorem dX6_begin_10 : decode cX6_begin 10 = .ok (.aload_n 0, 1) := by decide +kernel
theorem dX6_begin_11 : decode cX6_begin 11 = .ok (.iconst 0, 1) := by decide +kernel
theorem dX6_begin_12 : decode cX6_begin 12 = .ok (.putfield 34, 3) := by decide +kernel
theorem dX6_begin_15 : decode cX6_begin 15 = .ok (.return_, 1) := by decide +kernel
theorem dX6_addEnum_0 : decode cX6_addEnum 0 = .ok (.aload_n 0, 1) := by decide +kernel
theorem dX6_addEnum_1 : decode cX6_addEnum 1 = .ok (.getfield 30, 3) := by decide +kernel
theorem dX6_addEnum_4 : decode cX6_addEnum 4 = .ok (.aload_n 0, 1) := by decide +kernel
theorem dX6_addEnum_5 : decode cX6_addEnum 5 = .ok (.getfield 11, 3) := by decide +kernel
theorem dX6_addEnum_8 : decode cX6_addEnum 8 = .ok (.arraylength, 1) := by decide +kernel
theorem dX6_addEnum_9 : decode cX6_addEnum 9 = .ok (.if_icmp .ge 15, 3) := by decide +kernel
theorem dX6_addEnum_12 : decode cX6_addEnum 12 = .ok (.aload_n 0, 1) := by decide +kernel
theorem dX6_addEnum_13 : decode cX6_addEnum 13 = .ok (.getfield 30, 3) := by decide +kernel
theorem dX6_addEnum_16 : decode cX6_addEnum 16 = .ok (.aload_n 0, 1) := by decide +kernel
theorem dX6_addEnum_17 : decode cX6_addEnum 17 = .ok (.getfield 17, 3) := by decide +kernel
theorem dX6_addEnum_20 : decode cX6_addEnum 20 = .ok (.arraylength, 1) := by decide +kernel
theorem dX6_addEnum_21 : decode cX6_addEnum 21 = .ok (.if_icmp .lt 5, 3) := by decide +kernel
theorem dX6_addEnum_24 : decode cX6_addEnum 24 = .ok (.aconst_null, 1) := by decide +kernel
theorem dX6_addEnum_25 : decode cX6_addEnum 25 = .ok (.areturn, 1) := by decide +kernel
theorem dX6_addEnum_26 : decode cX6_addEnum 26 = .ok (.aload_n 0, 1) := by decide +kernel
theorem dX6_addEnum_27 : decode cX6_addEnum 27 = .ok (.getfield 17, 3) := by decide +kernel
theorem dX6_addEnum_30 : decode cX6_addEnum 30 = .ok (.aload_n 0, 1) := by decide +kernel
theorem dX6_addEnum_31 : decode cX6_addEnum 31 = .ok (.getfield 30, 3) := by decide +kernel
theorem dX6_addEnum_34 : decode cX6_addEnum 34 = .ok (.iload_n 1, 1) := by decide +kernel
theorem dX6_addEnum_35 : decode cX6_addEnum 35 = .ok (.iastore, 1) := by decide +kernel
theorem dX6_addEnum_36 : decode cX6_addEnum 36 = .ok (.aload_n 0, 1) := by decide +kernel
theorem dX6_addEnum_37 : decode cX6_addEnum 37 = .ok (.getfield 11, 3) := by decide +kernel
theorem dX6_addEnum_40 : decode cX6_addEnum 40 = .ok (.aload_n 0, 1) := by decide +kernel
theorem dX6_addEnum_41 : decode cX6_addEnum 41 = .ok (.getfield 30, 3) := by decide +kernel
theorem dX6_addEnum_44 : decode cX6_addEnum 44 = .ok (.aaload, 1) := by decide +kernel
theorem dX6_addEnum_45 : decode cX6_addEnum 45 = .ok (.invokevirtual 37, 3) := by decide +kernel
theorem dX6_addEnum_48 : decode cX6_addEnum 48 = .ok (.aload_n 0, 1) := by decide +kernel
theorem dX6_addEnum_49 : decode cX6_addEnum 49 = .ok (.dup, 1) := by decide +kernel
theorem dX6_addEnum_50 : decode cX6_addEnum 50 = .ok (.getfield 30, 3) := by decide +kernel
theorem dX6_addEnum_53 : decode cX6_addEnum 53 = .ok (.iconst 1, 1) := by decide +kernel
theorem dX6_addEnum_54 : decode cX6_addEnum 54 = .ok (.iadd, 1) := by decide +kernel
theorem dX6_addEnum_55 : decode cX6_addEnum 55 = .ok (.putfield 30, 3) := by decide +kernel
theorem dX6_addEnum_58 : decode cX6_addEnum 58 = .ok (.aload_n 0, 1) := by decide +kernel
theorem dX6_addEnum_59 : decode cX6_addEnum 59 = .ok (.getfield 11, 3) := by decide +kernel
theorem dX6_addEnum_62 : decode cX6_addEnum 62 = .ok (.aload_n 0, 1) := by decide +kernel
theorem dX6_addEnum_63 : decode cX6_addEnum 63 = .ok (.getfield 30, 3) := by decide +kernel
theorem dX6_addEnum_66 : decode cX6_addEnum 66 = .ok (.iconst 1, 1) := by decide +kernel
theorem dX6_addEnum_67 : decode cX6_addEnum 67 = .ok (.isub, 1) := by decide +kernel
theorem dX6_addEnum_68 : decode cX6_addEnum 68 = .ok (.aaload, 1) := by decide +kernel
theorem dX6_addEnum_69 : decode cX6_addEnum 69 = .ok (.areturn, 1) := by decide +kernel
theorem dX6_enumAt_0 : decode cX6_enumAt 0 = .ok (.iload_n 1, 1) := by decide +kernel
theorem dX6_enumAt_1 : decode cX6_enumAt 1 = .ok (.ifCond .lt 20, 3) := by decide +kernel
theorem dX6_enumAt_4 : decode cX6_enumAt 4 = .ok (.iload_n 1, 1) := by decide +kernel
theorem dX6_enumAt_5 : decode cX6_enumAt 5 = .ok (.aload_n 0, 1) := by decide +kernel
theorem dX6_enumAt_6 : decode cX6_enumAt 6 = .ok (.getfield 30, 3) := by decide +kernel
theorem dX6_enumAt_9 : decode cX6_enumAt 9 = .ok (.if_icmp .ge 12, 3) := by decide +kernel
theorem dX6_enumAt_12 : decode cX6_enumAt 12 = .ok (.iload_n 1, 1) := by decide +kernel
theorem dX6_enumAt_13 : decode cX6_enumAt 13 = .ok (.aload_n 0, 1) := by decide +kernel
theorem dX6_enumAt_14 : decode cX6_enumAt 14 = .ok (.getfield 11, 3) := by decide +kernel
theorem dX6_enumAt_17 : decode cX6_enumAt 17 = .ok (.arraylength, 1) := by decide +kernel
theorem dX6_enumAt_18 : decode cX6_enumAt 18 = .ok (.if_icmp .lt 7, 3) := by decide +kernel
theorem dX6_enumAt_21 : decode cX6_enumAt 21 = .ok (.aconst_null, 1) := by decide +kernel
theorem dX6_enumAt_22 : decode cX6_enumAt 22 = .ok (.goto 9, 3) := by decide +kernel
theorem dX6_enumAt_25 : decode cX6_enumAt 25 = .ok (.aload_n 0, 1) := by decide +kernel
theorem dX6_enumAt_26 : decode cX6_enumAt 26 = .ok (.getfield 11, 3) := by decide +kernel
theorem dX6_enumAt_29 : decode cX6_enumAt 29 = .ok (.iload_n 1, 1) := by decide +kernel
theorem dX6_enumAt_30 : decode cX6_enumAt 30 = .ok (.aaload, 1) := by decide +kernel
theorem dX6_enumAt_31 : decode cX6_enumAt 31 = .ok (.areturn, 1) := by decide +kernel
theorem dX6_put_0 : decode cX6_put 0 = .ok (.aload_n 0, 1) := by decide +kernel
theorem dX6_put_1 : decode cX6_put 1 = .ok (.getfield 34, 3) := by decide +kernel
theorem dX6_put_4 : decode cX6_put 4 = .ok (.aload_n 0, 1) := by decide +kernel
theorem dX6_put_5 : decode cX6_put 5 = .ok (.getfield 21, 3) := by decide +kernel
theorem dX6_put_8 : decode cX6_put 8 = .ok (.arraylength, 1) := by decide +kernel
theorem dX6_put_9 : decode cX6_put 9 = .ok (.if_icmp .lt 5, 3) := by decide +kernel
theorem dX6_put_12 : decode cX6_put 12 = .ok (.iconst 0, 1) := by decide +kernel
theorem dX6_put_13 : decode cX6_put 13 = .ok (.ireturn, 1) := by decide +kernel
theorem dX6_put_14 : decode cX6_put 14 = .ok (.aload_n 0, 1) := by decide +kernel
theorem dX6_put_15 : decode cX6_put 15 = .ok (.getfield 21, 3) := by decide +kernel
theorem dX6_put_18 : decode cX6_put 18 = .ok (.aload_n 0, 1) := by decide +kernel
theorem dX6_put_19 : decode cX6_put 19 = .ok (.getfield 34, 3) := by decide +kernel
theorem dX6_put_22 : decode cX6_put 22 = .ok (.iload_n 2, 1) := by decide +kernel
theorem dX6_put_23 : decode cX6_put 23 = .ok (.i2l, 1) := by decide +kernel
theorem dX6_put_24 : decode cX6_put 24 = .ok (.ldc2_w 42, 3) := by decide +kernel
theorem dX6_put_27 : decode cX6_put 27 = .ok (.lmul, 1) := by decide +kernel
theorem dX6_put_28 : decode cX6_put 28 = .ok (.iload_n 1, 1) := by decide +kernel
theorem dX6_put_29 : decode cX6_put 29 = .ok (.i2l, 1) := by decide +kernel
theorem dX6_put_30 : decode cX6_put 30 = .ok (.ladd, 1) := by decide +kernel
theorem dX6_put_31 : decode cX6_put 31 = .ok (.lastore, 1) := by decide +kernel
theorem dX6_put_32 : decode cX6_put 32 = .ok (.aload_n 0, 1) := by decide +kernel
theorem dX6_put_33 : decode cX6_put 33 = .ok (.dup, 1) := by decide +kernel
theorem dX6_put_34 : decode cX6_put 34 = .ok (.getfield 34, 3) := by decide +kernel
theorem dX6_put_37 : decode cX6_put 37 = .ok (.iconst 1, 1) := by decide +kernel
theorem dX6_put_38 : decode cX6_put 38 = .ok (.iadd, 1) := by decide +kernel
theorem dX6_put_39 : decode cX6_put 39 = .ok (.putfield 34, 3) := by decide +kernel
theorem dX6_put_42 : decode cX6_put 42 = .ok (.iconst 1, 1) := by decide +kernel
theorem dX6_put_43 : decode cX6_put 43 = .ok (.ireturn, 1) := by decide +kernel
theorem dX6_bindTo_0 : decode cX6_bindTo 0 = .ok (.iload_n 1, 1) := by decide +kernel
theorem dX6_bindTo_1 : decode cX6_bindTo 1 = .ok (.ifCond .lt 39, 3) := by decide +kernel
theorem dX6_bindTo_4 : decode cX6_bindTo 4 = .ok (.iload_n 1, 1) := by decide +kernel
theorem dX6_bindTo_5 : decode cX6_bindTo 5 = .ok (.aload_n 0, 1) := by decide +kernel
theorem dX6_bindTo_6 : decode cX6_bindTo 6 = .ok (.getfield 34, 3) := by decide +kernel
theorem dX6_bindTo_9 : decode cX6_bindTo 9 = .ok (.if_icmp .ge 31, 3) := by decide +kernel
theorem dX6_bindTo_12 : decode cX6_bindTo 12 = .ok (.iload_n 1, 1) := by decide +kernel
theorem dX6_bindTo_13 : decode cX6_bindTo 13 = .ok (.aload_n 0, 1) := by decide +kernel
theorem dX6_bindTo_14 : decode cX6_bindTo 14 = .ok (.getfield 21, 3) := by decide +kernel
theorem dX6_bindTo_17 : decode cX6_bindTo 17 = .ok (.arraylength, 1) := by decide +kernel
theorem dX6_bindTo_18 : decode cX6_bindTo 18 = .ok (.if_icmp .ge 22, 3) := by decide +kernel
theorem dX6_bindTo_21 : decode cX6_bindTo 21 = .ok (.aload_n 0, 1) := by decide +kernel
theorem dX6_bindTo_22 : decode cX6_bindTo 22 = .ok (.getfield 21, 3) := by decide +kernel
theorem dX6_bindTo_25 : decode cX6_bindTo 25 = .ok (.iload_n 1, 1) := by decide +kernel
theorem dX6_bindTo_26 : decode cX6_bindTo 26 = .ok (.iload_n 2, 1) := by decide +kernel
theorem dX6_bindTo_27 : decode cX6_bindTo 27 = .ok (.i2l, 1) := by decide +kernel
theorem dX6_bindTo_28 : decode cX6_bindTo 28 = .ok (.ldc2_w 42, 3) := by decide +kernel
theorem dX6_bindTo_31 : decode cX6_bindTo 31 = .ok (.lmul, 1) := by decide +kernel
theorem dX6_bindTo_32 : decode cX6_bindTo 32 = .ok (.aload_n 0, 1) := by decide +kernel
theorem dX6_bindTo_33 : decode cX6_bindTo 33 = .ok (.iload_n 1, 1) := by decide +kernel
theorem dX6_bindTo_34 : decode cX6_bindTo 34 = .ok (.invokevirtual 44, 3) := by decide +kernel
theorem dX6_bindTo_37 : decode cX6_bindTo 37 = .ok (.i2l, 1) := by decide +kernel
theorem dX6_bindTo_38 : decode cX6_bindTo 38 = .ok (.ladd, 1) := by decide +kernel
theorem dX6_bindTo_39 : decode cX6_bindTo 39 = .ok (.lastore, 1) := by decide +kernel
theorem dX6_bindTo_40 : decode cX6_bindTo 40 = .ok (.return_, 1) := by decide +kernel
theorem dX6_opAt_0 : decode cX6_opAt 0 = .ok (.iload_n 1, 1) := by decide +kernel
theorem dX6_opAt_1 : decode cX6_opAt 1 = .ok (.ifCond .lt 20, 3) := by decide +kernel
theorem dX6_opAt_4 : decode cX6_opAt 4 = .ok (.iload_n 1, 1) := by decide +kernel
theorem dX6_opAt_5 : decode cX6_opAt 5 = .ok (.aload_n 0, 1) := by decide +kernel
theorem dX6_opAt_6 : decode cX6_opAt 6 = .ok (.getfield 34, 3) := by decide +kernel
theorem dX6_opAt_9 : decode cX6_opAt 9 = .ok (.if_icmp .ge 12, 3) := by decide +kernel
theorem dX6_opAt_12 : decode cX6_opAt 12 = .ok (.iload_n 1, 1) := by decide +kernel
theorem dX6_opAt_13 : decode cX6_opAt 13 = .ok (.aload_n 0, 1) := by decide +kernel
theorem dX6_opAt_14 : decode cX6_opAt 14 = .ok (.getfield 21, 3) := by decide +kernel
theorem dX6_opAt_17 : decode cX6_opAt 17 = .ok (.arraylength, 1) := by decide +kernel
theorem dX6_opAt_18 : decode cX6_opAt 18 = .ok (.if_icmp .lt 7, 3) := by decide +kernel
theorem dX6_opAt_21 : decode cX6_opAt 21 = .ok (.iconst 0, 1) := by decide +kernel
theorem dX6_opAt_22 : decode cX6_opAt 22 = .ok (.goto 14, 3) := by decide +kernel
theorem dX6_opAt_25 : decode cX6_opAt 25 = .ok (.aload_n 0, 1) := by decide +kernel
theorem dX6_opAt_26 : decode cX6_opAt 26 = .ok (.getfield 21, 3) := by decide +kernel
theorem dX6_opAt_29 : decode cX6_opAt 29 = .ok (.iload_n 1, 1) := by decide +kernel
theorem dX6_opAt_30 : decode cX6_opAt 30 = .ok (.laload, 1) := by decide +kernel
theorem dX6_opAt_31 : decode cX6_opAt 31 = .ok (.ldc2_w 42, 3) := by decide +kernel
theorem dX6_opAt_34 : decode cX6_opAt 34 = .ok (.lrem, 1) := by decide +kernel
theorem dX6_opAt_35 : decode cX6_opAt 35 = .ok (.l2i, 1) := by decide +kernel
theorem dX6_opAt_36 : decode cX6_opAt 36 = .ok (.ireturn, 1) := by decide +kernel
theorem dX6_operandAt_0 : decode cX6_operandAt 0 = .ok (.iload_n 1, 1) := by decide +kernel
theorem dX6_operandAt_1 : decode cX6_operandAt 1 = .ok (.ifCond .lt 20, 3) := by decide +kernel
theorem dX6_operandAt_4 : decode cX6_operandAt 4 = .ok (.iload_n 1, 1) := by decide +kernel
theorem dX6_operandAt_5 : decode cX6_operandAt 5 = .ok (.aload_n 0, 1) := by decide +kernel
theorem dX6_operandAt_6 : decode cX6_operandAt 6 = .ok (.getfield 34, 3) := by decide +kernel
theorem dX6_operandAt_9 : decode cX6_operandAt 9 = .ok (.if_icmp .ge 12, 3) := by decide +kernel
theorem dX6_operandAt_12 : decode cX6_operandAt 12 = .ok (.iload_n 1, 1) := by decide +kernel
theorem dX6_operandAt_13 : decode cX6_operandAt 13 = .ok (.aload_n 0, 1) := by decide +kernel
theorem dX6_operandAt_14 : decode cX6_operandAt 14 = .ok (.getfield 21, 3) := by decide +kernel
theorem dX6_operandAt_17 : decode cX6_operandAt 17 = .ok (.arraylength, 1) := by decide +kernel
theorem dX6_operandAt_18 : decode cX6_operandAt 18 = .ok (.if_icmp .lt 7, 3) := by decide +kernel
theorem dX6_operandAt_21 : decode cX6_operandAt 21 = .ok (.iconst 0, 1) := by decide +kernel
theorem dX6_operandAt_22 : decode cX6_operandAt 22 = .ok (.goto 14, 3) := by decide +kernel
theorem dX6_operandAt_25 : decode cX6_operandAt 25 = .ok (.aload_n 0, 1) := by decide +kernel
theorem dX6_operandAt_26 : decode cX6_operandAt 26 = .ok (.getfield 21, 3) := by decide +kernel
theorem dX6_operandAt_29 : decode cX6_operandAt 29 = .ok (.iload_n 1, 1) := by decide +kernel
theorem dX6_operandAt_30 : decode cX6_operandAt 30 = .ok (.laload, 1) := by decide +kernel
theorem dX6_operandAt_31 : decode cX6_operandAt 31 = .ok (.ldc2_w 42, 3) := by decide +kernel
theorem dX6_operandAt_34 : decode cX6_operandAt 34 = .ok (.ldiv, 1) := by decide +kernel
theorem dX6_operandAt_35 : decode cX6_operandAt 35 = .ok (.l2i, 1) := by decide +kernel
theorem dX6_operandAt_36 : decode cX6_operandAt 36 = .ok (.ireturn, 1) := by decide +kernel
theorem dX7_init_0 : decode cX7_init 0 = .ok (.aload_n 0, 1) := by decide +kernel
theorem dX7_init_1 : decode cX7_init 1 = .ok (.invokespecial 3, 3) := by decide +kernel
theorem dX7_init_4 : decode cX7_init 4 = .ok (.aload_n 0, 1) := by decide +kernel
theorem dX7_init_5 : decode cX7_init 5 = .ok (.sipush 200, 3) := by decide +kernel
theorem dX7_init_8 : decode cX7_init 8 = .ok (.newarray .int, 2) := by decide +kernel
theorem dX7_init_10 : decode cX7_init 10 = .ok (.putfield 9, 3) := by decide +kernel
theorem dX7_init_13 : decode cX7_init 13 = .ok (.aload_n 0, 1) := by decide +kernel
theorem dX7_init_14 : decode cX7_init 14 = .ok (.sipush 189, 3) := by decide +kernel
theorem dX7_init_17 : decode cX7_init 17 = .ok (.newarray .int, 2) := by decide +kernel
theorem dX7_init_19 : decode cX7_init 19 = .ok (.putfield 15, 3) := by decide +kernel
theorem dX7_init_22 : decode cX7_init 22 = .ok (.return_, 1) := by decide +kernel
theorem dX7_begin_0 : decode cX7_begin 0 = .ok (.aload_n 0, 1) := by decide +kernel
theorem dX7_begin_1 : decode cX7_begin 1 = .ok (.aload_n 1, 1) := by decide +kernel
theorem dX7_begin_2 : decode cX7_begin 2 = .ok (.putfield 18, 3) := by decide +kernel
theorem dX7_begin_5 : decode cX7_begin 5 = .ok (.aload_n 0, 1) := by decide +kernel
theorem dX7_begin_6 : decode cX7_begin 6 = .ok (.iconst 0, 1) := by decide +kernel
theorem dX7_begin_7 : decode cX7_begin 7 = .ok (.putfield 22, 3) := by decide +kernel
theorem dX7_begin_10 : decode cX7_begin 10 = .ok (.aload_n 0, 1) := by decide +kernel
theorem dX7_begin_11 : decode cX7_begin 11 = .ok (.iconst 0, 1) := by decide +kernel
theorem dX7_begin_12 : decode cX7_begin 12 = .ok (.putfield 26, 3) := by decide +kernel
theorem dX7_begin_15 : decode cX7_begin 15 = .ok (.return_, 1) := by decide +kernel
theorem dX7_failBy_0 : decode cX7_failBy 0 = .ok (.aload_n 0, 1) := by decide +kernel
theorem dX7_failBy_1 : decode cX7_failBy 1 = .ok (.iload_n 1, 1) := by decide +kernel
theorem dX7_failBy_2 : decode cX7_failBy 2 = .ok (.putfield 26, 3) := by decide +kernel
theorem dX7_failBy_5 : decode cX7_failBy 5 = .ok (.iconst 0, 1) := by decide +kernel
theorem dX7_failBy_6 : decode cX7_failBy 6 = .ok (.ireturn, 1) := by decide +kernel
theorem dX7_want_0 : decode cX7_want 0 = .ok (.aload_n 0, 1) := by decide +kernel
theorem dX7_want_1 : decode cX7_want 1 = .ok (.getfield 18, 3) := by decide +kernel
theorem dX7_want_4 : decode cX7_want 4 = .ok (.iload_n 1, 1) := by decide +kernel
theorem dX7_want_5 : decode cX7_want 5 = .ok (.invokevirtual 29, 3) := by decide +kernel
theorem dX7_want_8 : decode cX7_want 8 = .ok (.astore_n 3, 1) := by decide +kernel
theorem dX7_want_9 : decode cX7_want 9 = .ok (.aload_n 3, 1) := by decide +kernel
theorem dX7_want_10 : decode cX7_want 10 = .ok (.ifnull 11, 3) := by decide +kernel
theorem dX7_want_13 : decode cX7_want 13 = .ok (.aload_n 3, 1) := by decide +kernel
theorem dX7_want_14 : decode cX7_want 14 = .ok (.getfield 35, 3) := by decide +kernel
theorem dX7_want_17 : decode cX7_want 17 = .ok (.iconst 2, 1) := by decide +kernel
theorem dX7_want_18 : decode cX7_want 18 = .ok (.if_icmp .ne 10, 3) := by decide +kernel
theorem dX7_want_21 : decode cX7_want 21 = .ok (.aload_n 0, 1) := by decide +kernel
theorem dX7_want_22 : decode cX7_want 22 = .ok (.bipush 6, 2) := by decide +kernel
theorem dX7_want_24 : decode cX7_want 24 = .ok (.invokevirtual 40, 3) := by decide +kernel
theorem dX7_want_27 : decode cX7_want 27 = .ok (.ireturn, 1) := by decide +kernel
theorem dX7_want_28 : decode cX7_want 28 = .ok (.aload_n 3, 1) := by decide +kernel
theorem dX7_want_29 : decode cX7_want 29 = .ok (.getfield 35, 3) := by decide +kernel
theorem dX7_want_32 : decode cX7_want 32 = .ok (.ifCond .ne 18, 3) := by decide +kernel
theorem dX7_want_35 : decode cX7_want 35 = .ok (.iload_n 2, 1) := by decide +kernel
theorem dX7_want_36 : decode cX7_want 36 = .ok (.bipush 8, 2) := by decide +kernel
theorem dX7_want_38 : decode cX7_want 38 = .ok (.if_icmp .ge 12, 3) := by decide +kernel
theorem dX7_want_41 : decode cX7_want 41 = .ok (.aload_n 0, 1) := by decide +kernel
theorem dX7_want_42 : decode cX7_want 42 = .ok (.iload_n 1, 1) := by decide +kernel
theorem dX7_want_43 : decode cX7_want 43 = .ok (.aload_n 3, 1) := by decide +kernel
theorem dX7_want_44 : decode cX7_want 44 = .ok (.iload_n 2, 1) := by decide +kernel
theorem dX7_want_45 : decode cX7_want 45 = .ok (.iconst 1, 1) := by decide +kernel
theorem dX7_want_46 : decode cX7_want 46 = .ok (.iadd, 1) := by decide +kernel
theorem dX7_want_47 : decode cX7_want 47 = .ok (.invokevirtual 44, 3) := by decide +kernel
theorem dX7_want_50 : decode cX7_want 50 = .ok (.aload_n 0, 1) := by decide +kernel
theorem dX7_want_51 : decode cX7_want 51 = .ok (.getfield 26, 3) := by decide +kernel
theorem dX7_want_54 : decode cX7_want 54 = .ok (.ifCond .ne 7, 3) := by decide +kernel
theorem dX7_want_57 : decode cX7_want 57 = .ok (.iconst 1, 1) := by decide +kernel
theorem dX7_want_58 : decode cX7_want 58 = .ok (.goto 4, 3) := by decide +kernel
theorem dX7_want_61 : decode cX7_want 61 = .ok (.iconst 0, 1) := by decide +kernel
theorem dX7_want_62 : decode cX7_want 62 = .ok (.ireturn, 1) := by decide +kernel
theorem dX7_start_0 : decode cX7_start 0 = .ok (.aload_n 2, 1) := by decide +kernel
theorem dX7_start_1 : decode cX7_start 1 = .ok (.iconst 3, 1) := by decide +kernel
theorem dX7_start_2 : decode cX7_start 2 = .ok (.putfield 35, 3) := by decide +kernel
theorem dX7_start_5 : decode cX7_start 5 = .ok (.aload_n 0, 1) := by decide +kernel
theorem dX7_start_6 : decode cX7_start 6 = .ok (.sipush 1000, 3) := by decide +kernel
theorem dX7_start_9 : decode cX7_start 9 = .ok (.iload_n 1, 1) := by decide +kernel
theorem dX7_start_10 : decode cX7_start 10 = .ok (.imul, 1) := by decide +kernel
theorem dX7_start_11 : decode cX7_start 11 = .ok (.invokevirtual 48, 3) := by decide +kernel
theorem dX7_start_14 : decode cX7_start 14 = .ok (.iconst 0, 1) := by decide +kernel
theorem dX7_start_15 : decode cX7_start 15 = .ok (.istore 4, 2) := by decide +kernel
theorem dX7_start_17 : decode cX7_start 17 = .ok (.iload 4, 2) := by decide +kernel
theorem dX7_start_19 : decode cX7_start 19 = .ok (.aload_n 2, 1) := by decide +kernel
theorem dX7_start_20 : decode cX7_start 20 = .ok (.getfield 52, 3) := by decide +kernel
theorem dX7_start_23 : decode cX7_start 23 = .ok (.if_icmp .ge 25, 3) := by decide +kernel
theorem dX7_start_26 : decode cX7_start 26 = .ok (.aload_n 0, 1) := by decide +kernel
theorem dX7_start_27 : decode cX7_start 27 = .ok (.getfield 26, 3) := by decide +kernel
theorem dX7_start_30 : decode cX7_start 30 = .ok (.ifCond .ne 18, 3) := by decide +kernel
theorem dX7_start_33 : decode cX7_start 33 = .ok (.aload_n 0, 1) := by decide +kernel
theorem dX7_start_34 : decode cX7_start 34 = .ok (.iload_n 1, 1) := by decide +kernel
theorem dX7_start_35 : decode cX7_start 35 = .ok (.aload_n 2, 1) := by decide +kernel
theorem dX7_start_36 : decode cX7_start 36 = .ok (.iload 4, 2) := by decide +kernel
theorem dX7_start_38 : decode cX7_start 38 = .ok (.iload_n 3, 1) := by decide +kernel
theorem dX7_start_39 : decode cX7_start 39 = .ok (.invokevirtual 55, 3) := by decide +kernel
theorem dX7_start_42 : decode cX7_start 42 = .ok (.iinc 4 1, 3) := by decide +kernel
theorem dX7_start_45 : decode cX7_start 45 = .ok (.goto (-28), 3) := by decide +kernel
theorem dX7_start_48 : decode cX7_start 48 = .ok (.iconst 0, 1) := by decide +kernel
theorem dX7_start_49 : decode cX7_start 49 = .ok (.istore 4, 2) := by decide +kernel
theorem dX7_start_51 : decode cX7_start 51 = .ok (.iload 4, 2) := by decide +kernel
theorem dX7_start_53 : decode cX7_start 53 = .ok (.aload_n 2, 1) := by decide +kernel
theorem dX7_start_54 : decode cX7_start 54 = .ok (.getfield 59, 3) := by decide +kernel
theorem dX7_start_57 : decode cX7_start 57 = .ok (.if_icmp .ge 24, 3) := by decide +kernel
theorem dX7_start_60 : decode cX7_start 60 = .ok (.aload_n 0, 1) := by decide +kernel
theorem dX7_start_61 : decode cX7_start 61 = .ok (.getfield 26, 3) := by decide +kernel
theorem dX7_start_64 : decode cX7_start 64 = .ok (.ifCond .ne 17, 3) := by decide +kernel
theorem dX7_start_67 : decode cX7_start 67 = .ok (.aload_n 0, 1) := by decide +kernel
theorem dX7_start_68 : decode cX7_start 68 = .ok (.aload_n 2, 1) := by decide +kernel
theorem dX7_start_69 : decode cX7_start 69 = .ok (.iload 4, 2) := by decide +kernel
theorem dX7_start_71 : decode cX7_start 71 = .ok (.iload_n 3, 1) := by decide +kernel
theorem dX7_start_72 : decode cX7_start 72 = .ok (.invokevirtual 62, 3) := by decide +kernel
theorem dX7_start_75 : decode cX7_start 75 = .ok (.iinc 4 1, 3) := by decide +kernel
theorem dX7_start_78 : decode cX7_start 78 = .ok (.goto (-27), 3) := by decide +kernel
theorem dX7_start_81 : decode cX7_start 81 = .ok (.aload_n 2, 1) := by decide +kernel
theorem dX7_start_82 : decode cX7_start 82 = .ok (.aload_n 0, 1) := by decide +kernel
theorem dX7_start_83 : decode cX7_start 83 = .ok (.getfield 26, 3) := by decide +kernel
theorem dX7_start_86 : decode cX7_start 86 = .ok (.ifCond .ne 7, 3) := by decide +kernel
theorem dX7_start_89 : decode cX7_start 89 = .ok (.iconst 1, 1) := by decide +kernel
theorem dX7_start_90 : decode cX7_start 90 = .ok (.goto 4, 3) := by decide +kernel
theorem dX7_start_93 : decode cX7_start 93 = .ok (.iconst 2, 1) := by decide +kernel
theorem dX7_start_94 : decode cX7_start 94 = .ok (.putfield 35, 3) := by decide +kernel
theorem dX7_start_97 : decode cX7_start 97 = .ok (.aload_n 0, 1) := by decide +kernel
theorem dX7_start_98 : decode cX7_start 98 = .ok (.sipush 1000, 3) := by decide +kernel
theorem dX7_start_101 : decode cX7_start 101 = .ok (.iload_n 1, 1) := by decide +kernel
theorem dX7_start_102 : decode cX7_start 102 = .ok (.imul, 1) := by decide +kernel
theorem dX7_start_103 : decode cX7_start 103 = .ok (.aload_n 0, 1) := by decide +kernel
theorem dX7_start_104 : decode cX7_start 104 = .ok (.getfield 26, 3) := by decide +kernel
theorem dX7_start_107 : decode cX7_start 107 = .ok (.ifCond .ne 8, 3) := by decide +kernel
theorem dX7_start_110 : decode cX7_start 110 = .ok (.bipush 100, 2) := by decide +kernel
theorem dX7_start_112 : decode cX7_start 112 = .ok (.goto 6, 3) := by decide +kernel
theorem dX7_start_115 : decode cX7_start 115 = .ok (.sipush 200, 3) := by decide +kernel
theorem dX7_start_118 : decode cX7_start 118 = .ok (.iadd, 1) := by decide +kernel
theorem dX7_start_119 : decode cX7_start 119 = .ok (.invokevirtual 48, 3) := by decide +kernel
theorem dX7_start_122 : decode cX7_start 122 = .ok (.return_, 1) := by decide +kernel
theorem dX7_make_0 : decode cX7_make 0 = .ok (.aload_n 2, 1) := by decide +kernel
theorem dX7_make_1 : decode cX7_make 1 = .ok (.getfield 66, 3) := by decide +kernel
theorem dX7_make_4 : decode cX7_make 4 = .ok (.iconst (-1), 1) := by decide +kernel
theorem dX7_make_5 : decode cX7_make 5 = .ok (.if_icmp .ne 7, 3) := by decide +kernel
theorem dX7_make_8 : decode cX7_make 8 = .ok (.iconst 0, 1) := by decide +kernel
theorem dX7_make_9 : decode cX7_make 9 = .ok (.goto 15, 3) := by decide +kernel
theorem dX7_make_12 : decode cX7_make 12 = .ok (.aload_n 0, 1) := by decide +kernel
theorem dX7_make_13 : decode cX7_make 13 = .ok (.aload_n 2, 1) := by decide +kernel
theorem dX7_make_14 : decode cX7_make 14 = .ok (.getfield 66, 3) := by decide +kernel
theorem dX7_make_17 : decode cX7_make 17 = .ok (.aload_n 2, 1) := by decide +kernel
theorem dX7_make_18 : decode cX7_make 18 = .ok (.iload_n 3, 1) := by decide +kernel
theorem dX7_make_19 : decode cX7_make 19 = .ok (.iload 4, 2) := by decide +kernel
theorem dX7_make_21 : decode cX7_make 21 = .ok (.invokevirtual 69, 3) := by decide +kernel
theorem dX7_make_24 : decode cX7_make 24 = .ok (.istore 5, 2) := by decide +kernel
theorem dX7_make_26 : decode cX7_make 26 = .ok (.aload_n 0, 1) := by decide +kernel
theorem dX7_make_27 : decode cX7_make 27 = .ok (.getfield 26, 3) := by decide +kernel
theorem dX7_make_30 : decode cX7_make 30 = .ok (.ifCond .ne 39, 3) := by decide +kernel
theorem dX7_make_33 : decode cX7_make 33 = .ok (.aload_n 2, 1) := by decide +kernel
theorem dX7_make_34 : decode cX7_make 34 = .ok (.iload_n 3, 1) := by decide +kernel
theorem dX7_make_35 : decode cX7_make 35 = .ok (.invokevirtual 73, 3) := by decide +kernel
theorem dX7_make_38 : decode cX7_make 38 = .ok (.ifCond .eq 31, 3) := by decide +kernel
theorem dX7_make_41 : decode cX7_make 41 = .ok (.aload_n 2, 1) := by decide +kernel
theorem dX7_make_42 : decode cX7_make 42 = .ok (.getfield 76, 3) := by decide +kernel
theorem dX7_make_45 : decode cX7_make 45 = .ok (.iload_n 3, 1) := by decide +kernel
theorem dX7_make_46 : decode cX7_make 46 = .ok (.iload 5, 2) := by decide +kernel
theorem dX7_make_48 : decode cX7_make 48 = .ok (.iastore, 1) := by decide +kernel
theorem dX7_make_49 : decode cX7_make 49 = .ok (.aload_n 2, 1) := by decide +kernel
theorem dX7_make_50 : decode cX7_make 50 = .ok (.iload_n 3, 1) := by decide +kernel
theorem dX7_make_51 : decode cX7_make 51 = .ok (.iconst 1, 1) := by decide +kernel
theorem dX7_make_52 : decode cX7_make 52 = .ok (.iadd, 1) := by decide +kernel
theorem dX7_make_53 : decode cX7_make 53 = .ok (.putfield 79, 3) := by decide +kernel
theorem dX7_make_56 : decode cX7_make 56 = .ok (.aload_n 0, 1) := by decide +kernel
theorem dX7_make_57 : decode cX7_make 57 = .ok (.sipush 1000, 3) := by decide +kernel
theorem dX7_make_60 : decode cX7_make 60 = .ok (.iload_n 1, 1) := by decide +kernel
theorem dX7_make_61 : decode cX7_make 61 = .ok (.imul, 1) := by decide +kernel
theorem dX7_make_62 : decode cX7_make 62 = .ok (.iconst 1, 1) := by decide +kernel
theorem dX7_make_63 : decode cX7_make 63 = .ok (.iadd, 1) := by decide +kernel
theorem dX7_make_64 : decode cX7_make 64 = .ok (.iload_n 3, 1) := by decide +kernel
theorem dX7_make_65 : decode cX7_make 65 = .ok (.iadd, 1) := by decide +kernel
theorem dX7_make_66 : decode cX7_make 66 = .ok (.invokevirtual 48, 3) := by decide +kernel
theorem dX7_make_69 : decode cX7_make 69 = .ok (.return_, 1) := by decide +kernel
theorem dX7_set_0 : decode cX7_set 0 = .ok (.aload_n 1, 1) := by decide +kernel
theorem dX7_set_1 : decode cX7_set 1 = .ok (.iload_n 2, 1) := by decide +kernel
theorem dX7_set_2 : decode cX7_set 2 = .ok (.invokevirtual 82, 3) := by decide +kernel
theorem dX7_set_5 : decode cX7_set 5 = .ok (.ifCond .ne 4, 3) := by decide +kernel
theorem dX7_set_8 : decode cX7_set 8 = .ok (.return_, 1) := by decide +kernel
theorem dX7_set_9 : decode cX7_set 9 = .ok (.aload_n 0, 1) := by decide +kernel
theorem dX7_set_10 : decode cX7_set 10 = .ok (.aload_n 1, 1) := by decide +kernel
theorem dX7_set_11 : decode cX7_set 11 = .ok (.getfield 85, 3) := by decide +kernel
theorem dX7_set_14 : decode cX7_set 14 = .ok (.iload_n 2, 1) := by decide +kernel
theorem dX7_set_15 : decode cX7_set 15 = .ok (.iaload, 1) := by decide +kernel
theorem dX7_set_16 : decode cX7_set 16 = .ok (.aload_n 1, 1) := by decide +kernel
theorem dX7_set_17 : decode cX7_set 17 = .ok (.iconst (-1), 1) := by decide +kernel
theorem dX7_set_18 : decode cX7_set 18 = .ok (.iload_n 3, 1) := by decide +kernel
theorem dX7_set_19 : decode cX7_set 19 = .ok (.invokevirtual 69, 3) := by decide +kernel
theorem dX7_set_22 : decode cX7_set 22 = .ok (.istore 4, 2) := by decide +kernel
theorem dX7_set_24 : decode cX7_set 24 = .ok (.aload_n 0, 1) := by decide +kernel
theorem dX7_set_25 : decode cX7_set 25 = .ok (.getfield 26, 3) := by decide +kernel
theorem dX7_set_28 : decode cX7_set 28 = .ok (.ifCond .ne 11, 3) := by decide +kernel
theorem dX7_set_31 : decode cX7_set 31 = .ok (.aload_n 1, 1) := by decide +kernel
theorem dX7_set_32 : decode cX7_set 32 = .ok (.getfield 88, 3) := by decide +kernel
theorem dX7_set_35 : decode cX7_set 35 = .ok (.iload_n 2, 1) := by decide +kernel
theorem dX7_set_36 : decode cX7_set 36 = .ok (.iload 4, 2) := by decide +kernel
theorem dX7_set_38 : decode cX7_set 38 = .ok (.iastore, 1) := by decide +kernel
theorem dX7_set_39 : decode cX7_set 39 = .ok (.return_, 1) := by decide +kernel
theorem dX7_work_0 : decode cX7_work 0 = .ok (.aload_n 0, 1) := by decide +kernel
theorem dX7_work_1 : decode cX7_work 1 = .ok (.getfield 22, 3) := by decide +kernel
theorem dX7_work_4 : decode cX7_work 4 = .ok (.istore 5, 2) := by decide +kernel
theorem dX7_work_6 : decode cX7_work 6 = .ok (.iload_n 1, 1) := by decide +kernel
theorem dX7_work_7 : decode cX7_work 7 = .ok (.istore 6, 2) := by decide +kernel
theorem dX7_work_9 : decode cX7_work 9 = .ok (.iload 6, 2) := by decide +kernel
theorem dX7_work_11 : decode cX7_work 11 = .ok (.aload_n 0, 1) := by decide +kernel
theorem dX7_work_12 : decode cX7_work 12 = .ok (.getfield 18, 3) := by decide +kernel
theorem dX7_work_15 : decode cX7_work 15 = .ok (.getfield 91, 3) := by decide +kernel
theorem dX7_work_18 : decode cX7_work 18 = .ok (.if_icmp .ge 41, 3) := by decide +kernel
theorem dX7_work_21 : decode cX7_work 21 = .ok (.aload_n 0, 1) := by decide +kernel
theorem dX7_work_22 : decode cX7_work 22 = .ok (.getfield 26, 3) := by decide +kernel
theorem dX7_work_25 : decode cX7_work 25 = .ok (.ifCond .ne 34, 3) := by decide +kernel
theorem dX7_work_28 : decode cX7_work 28 = .ok (.aload_n 0, 1) := by decide +kernel
theorem dX7_work_29 : decode cX7_work 29 = .ok (.getfield 18, 3) := by decide +kernel
theorem dX7_work_32 : decode cX7_work 32 = .ok (.iload 6, 2) := by decide +kernel
theorem dX7_work_34 : decode cX7_work 34 = .ok (.invokevirtual 94, 3) := by decide +kernel
theorem dX7_work_37 : decode cX7_work 37 = .ok (.ifCond .ne 6, 3) := by decide +kernel
theorem dX7_work_40 : decode cX7_work 40 = .ok (.goto 19, 3) := by decide +kernel
theorem dX7_work_43 : decode cX7_work 43 = .ok (.aload_n 0, 1) := by decide +kernel
theorem dX7_work_44 : decode cX7_work 44 = .ok (.iload 6, 2) := by decide +kernel
theorem dX7_work_46 : decode cX7_work 46 = .ok (.aload_n 2, 1) := by decide +kernel
theorem dX7_work_47 : decode cX7_work 47 = .ok (.iload_n 3, 1) := by decide +kernel
theorem dX7_work_48 : decode cX7_work 48 = .ok (.iload 4, 2) := by decide +kernel
theorem dX7_work_50 : decode cX7_work 50 = .ok (.invokevirtual 98, 3) := by decide +kernel
theorem dX7_work_53 : decode cX7_work 53 = .ok (.iinc 6 1, 3) := by decide +kernel
theorem dX7_work_56 : decode cX7_work 56 = .ok (.goto (-47), 3) := by decide +kernel
theorem dX7_work_59 : decode cX7_work 59 = .ok (.aload_n 0, 1) := by decide +kernel
theorem dX7_work_60 : decode cX7_work 60 = .ok (.getfield 22, 3) := by decide +kernel
theorem dX7_work_63 : decode cX7_work 63 = .ok (.iload 5, 2) := by decide +kernel
theorem dX7_work_65 : decode cX7_work 65 = .ok (.if_icmp .le 10, 3) := by decide +kernel
theorem dX7_work_68 : decode cX7_work 68 = .ok (.aload_n 0, 1) := by decide +kernel
theorem dX7_work_69 : decode cX7_work 69 = .ok (.invokevirtual 101, 3) := by decide +kernel
theorem dX7_work_72 : decode cX7_work 72 = .ok (.goto 4, 3) := by decide +kernel
theorem dX7_work_75 : decode cX7_work 75 = .ok (.iconst 0, 1) := by decide +kernel
theorem dX7_work_76 : decode cX7_work 76 = .ok (.istore 6, 2) := by decide +kernel
theorem dX7_work_78 : decode cX7_work 78 = .ok (.aload_n 0, 1) := by decide +kernel
theorem dX7_work_79 : decode cX7_work 79 = .ok (.iload 5, 2) := by decide +kernel
theorem dX7_work_81 : decode cX7_work 81 = .ok (.putfield 22, 3) := by decide +kernel
theorem dX7_work_84 : decode cX7_work 84 = .ok (.iload 6, 2) := by decide +kernel
theorem dX7_work_86 : decode cX7_work 86 = .ok (.ireturn, 1) := by decide +kernel
theorem dX7_step_0 : decode cX7_step 0 = .ok (.aload_n 0, 1) := by decide +kernel
theorem dX7_step_1 : decode cX7_step 1 = .ok (.getfield 18, 3) := by decide +kernel
theorem dX7_step_4 : decode cX7_step 4 = .ok (.iload_n 1, 1) := by decide +kernel
theorem dX7_step_5 : decode cX7_step 5 = .ok (.invokevirtual 94, 3) := by decide +kernel
theorem dX7_step_8 : decode cX7_step 8 = .ok (.istore 5, 2) := by decide +kernel
theorem dX7_step_10 : decode cX7_step 10 = .ok (.aload_n 0, 1) := by decide +kernel
theorem dX7_step_11 : decode cX7_step 11 = .ok (.getfield 18, 3) := by decide +kernel
theorem dX7_step_14 : decode cX7_step 14 = .ok (.iload_n 1, 1) := by decide +kernel
theorem dX7_step_15 : decode cX7_step 15 = .ok (.invokevirtual 105, 3) := by decide +kernel
theorem dX7_step_18 : decode cX7_step 18 = .ok (.istore 6, 2) := by decide +kernel
theorem dX7_step_20 : decode cX7_step 20 = .ok (.iload 5, 2) := by decide +kernel
theorem dX7_step_22 : decode cX7_step 22 = .ok (.tableswitch 171 1 7 #[42, 51, 78, 101, 126, 151, 159], 42) := by decide +kernel
theorem dX7_step_64 : decode cX7_step 64 = .ok (.aload_n 0, 1) := by decide +kernel
theorem dX7_step_65 : decode cX7_step 65 = .ok (.iload 6, 2) := by decide +kernel
theorem dX7_step_67 : decode cX7_step 67 = .ok (.invokevirtual 108, 3) := by decide +kernel
theorem dX7_step_70 : decode cX7_step 70 = .ok (.goto 129, 3) := by decide +kernel
theorem dX7_step_73 : decode cX7_step 73 = .ok (.aload_n 0, 1) := by decide +kernel
theorem dX7_step_74 : decode cX7_step 74 = .ok (.aload_n 2, 1) := by decide +kernel
theorem dX7_step_75 : decode cX7_step 75 = .ok (.iload 6, 2) := by decide +kernel
theorem dX7_step_77 : decode cX7_step 77 = .ok (.invokevirtual 111, 3) := by decide +kernel
theorem dX7_step_80 : decode cX7_step 80 = .ok (.ifCond .eq 13, 3) := by decide +kernel
theorem dX7_step_83 : decode cX7_step 83 = .ok (.aload_n 2, 1) := by decide +kernel
theorem dX7_step_84 : decode cX7_step 84 = .ok (.getfield 88, 3) := by decide +kernel
theorem dX7_step_87 : decode cX7_step 87 = .ok (.iload 6, 2) := by decide +kernel
theorem dX7_step_89 : decode cX7_step 89 = .ok (.iaload, 1) := by decide +kernel
theorem dX7_step_90 : decode cX7_step 90 = .ok (.goto 4, 3) := by decide +kernel
theorem dX7_step_93 : decode cX7_step 93 = .ok (.iconst 0, 1) := by decide +kernel
theorem dX7_step_94 : decode cX7_step 94 = .ok (.invokevirtual 108, 3) := by decide +kernel
theorem dX7_step_97 : decode cX7_step 97 = .ok (.goto 102, 3) := by decide +kernel
theorem dX7_step_100 : decode cX7_step 100 = .ok (.aload_n 0, 1) := by decide +kernel
theorem dX7_step_101 : decode cX7_step 101 = .ok (.aload_n 0, 1) := by decide +kernel
theorem dX7_step_102 : decode cX7_step 102 = .ok (.iload 6, 2) := by decide +kernel
theorem dX7_step_104 : decode cX7_step 104 = .ok (.bipush 12, 2) := by decide +kernel
theorem dX7_step_106 : decode cX7_step 106 = .ok (.idiv, 1) := by decide +kernel
theorem dX7_step_107 : decode cX7_step 107 = .ok (.iload 6, 2) := by decide +kernel
theorem dX7_step_109 : decode cX7_step 109 = .ok (.bipush 12, 2) := by decide +kernel
theorem dX7_step_111 : decode cX7_step 111 = .ok (.irem, 1) := by decide +kernel
theorem dX7_step_112 : decode cX7_step 112 = .ok (.iload 4, 2) := by decide +kernel
theorem dX7_step_114 : decode cX7_step 114 = .ok (.invokevirtual 114, 3) := by decide +kernel
theorem dX7_step_117 : decode cX7_step 117 = .ok (.invokevirtual 108, 3) := by decide +kernel
theorem dX7_step_120 : decode cX7_step 120 = .ok (.goto 79, 3) := by decide +kernel
theorem dX7_step_123 : decode cX7_step 123 = .ok (.aload_n 0, 1) := by decide +kernel
theorem dX7_step_124 : decode cX7_step 124 = .ok (.aload_n 2, 1) := by decide +kernel
theorem dX7_step_125 : decode cX7_step 125 = .ok (.iload_n 3, 1) := by decide +kernel
theorem dX7_step_126 : decode cX7_step 126 = .ok (.invokevirtual 73, 3) := by decide +kernel
theorem dX7_step_129 : decode cX7_step 129 = .ok (.ifCond .eq 12, 3) := by decide +kernel
theorem dX7_step_132 : decode cX7_step 132 = .ok (.aload_n 2, 1) := by decide +kernel
theorem dX7_step_133 : decode cX7_step 133 = .ok (.getfield 118, 3) := by decide +kernel
theorem dX7_step_136 : decode cX7_step 136 = .ok (.iload_n 3, 1) := by decide +kernel
theorem dX7_step_137 : decode cX7_step 137 = .ok (.iaload, 1) := by decide +kernel
theorem dX7_step_138 : decode cX7_step 138 = .ok (.goto 4, 3) := by decide +kernel
theorem dX7_step_141 : decode cX7_step 141 = .ok (.iconst 0, 1) := by decide +kernel
theorem dX7_step_142 : decode cX7_step 142 = .ok (.invokevirtual 108, 3) := by decide +kernel
theorem dX7_step_145 : decode cX7_step 145 = .ok (.goto 54, 3) := by decide +kernel
theorem dX7_step_148 : decode cX7_step 148 = .ok (.aload_n 0, 1) := by decide +kernel
theorem dX7_step_149 : decode cX7_step 149 = .ok (.aload_n 2, 1) := by decide +kernel
theorem dX7_step_150 : decode cX7_step 150 = .ok (.iload_n 3, 1) := by decide +kernel
theorem dX7_step_151 : decode cX7_step 151 = .ok (.invokevirtual 73, 3) := by decide +kernel
theorem dX7_step_154 : decode cX7_step 154 = .ok (.ifCond .eq 12, 3) := by decide +kernel
theorem dX7_step_157 : decode cX7_step 157 = .ok (.aload_n 2, 1) := by decide +kernel
theorem dX7_step_158 : decode cX7_step 158 = .ok (.getfield 76, 3) := by decide +kernel
theorem dX7_step_161 : decode cX7_step 161 = .ok (.iload_n 3, 1) := by decide +kernel
theorem dX7_step_162 : decode cX7_step 162 = .ok (.iaload, 1) := by decide +kernel
theorem dX7_step_163 : decode cX7_step 163 = .ok (.goto 4, 3) := by decide +kernel
theorem dX7_step_166 : decode cX7_step 166 = .ok (.iconst 0, 1) := by decide +kernel
theorem dX7_step_167 : decode cX7_step 167 = .ok (.invokevirtual 108, 3) := by decide +kernel
theorem dX7_step_170 : decode cX7_step 170 = .ok (.goto 29, 3) := by decide +kernel
theorem dX7_step_173 : decode cX7_step 173 = .ok (.aload_n 0, 1) := by decide +kernel
theorem dX7_step_174 : decode cX7_step 174 = .ok (.iload_n 3, 1) := by decide +kernel
theorem dX7_step_175 : decode cX7_step 175 = .ok (.invokevirtual 108, 3) := by decide +kernel
theorem dX7_step_178 : decode cX7_step 178 = .ok (.goto 21, 3) := by decide +kernel
theorem dX7_step_181 : decode cX7_step 181 = .ok (.aload_n 0, 1) := by decide +kernel
theorem dX7_step_182 : decode cX7_step 182 = .ok (.aload_n 0, 1) := by decide +kernel
theorem dX7_step_183 : decode cX7_step 183 = .ok (.invokevirtual 101, 3) := by decide +kernel
theorem dX7_step_186 : decode cX7_step 186 = .ok (.ineg, 1) := by decide +kernel
theorem dX7_step_187 : decode cX7_step 187 = .ok (.invokevirtual 108, 3) := by decide +kernel
theorem dX7_step_190 : decode cX7_step 190 = .ok (.goto 9, 3) := by decide +kernel
theorem dX7_step_193 : decode cX7_step 193 = .ok (.aload_n 0, 1) := by decide +kernel
theorem dX7_step_194 : decode cX7_step 194 = .ok (.iload 5, 2) := by decide +kernel
theorem dX7_step_196 : decode cX7_step 196 = .ok (.invokevirtual 121, 3) := by decide +kernel
theorem dX7_step_199 : decode cX7_step 199 = .ok (.return_, 1) := by decide +kernel
theorem dX7_join_0 : decode cX7_join 0 = .ok (.aload_n 0, 1) := by decide +kernel
theorem dX7_join_1 : decode cX7_join 1 = .ok (.invokevirtual 101, 3) := by decide +kernel
theorem dX7_join_4 : decode cX7_join 4 = .ok (.istore_n 2, 1) := by decide +kernel
theorem dX7_join_5 : decode cX7_join 5 = .ok (.aload_n 0, 1) := by decide +kernel
theorem dX7_join_6 : decode cX7_join 6 = .ok (.invokevirtual 101, 3) := by decide +kernel
theorem dX7_join_9 : decode cX7_join 9 = .ok (.istore_n 3, 1) := by decide +kernel
theorem dX7_join_10 : decode cX7_join 10 = .ok (.iload_n 1, 1) := by decide +kernel
theorem dX7_join_11 : decode cX7_join 11 = .ok (.tableswitch 72 8 11 #[29, 39, 49, 59], 29) := by decide +kernel
theorem dX7_join_40 : decode cX7_join 40 = .ok (.aload_n 0, 1) := by decide +kernel
theorem dX7_join_41 : decode cX7_join 41 = .ok (.iload_n 3, 1) := by decide +kernel
theorem dX7_join_42 : decode cX7_join 42 = .ok (.iload_n 2, 1) := by decide +kernel
theorem dX7_join_43 : decode cX7_join 43 = .ok (.iadd, 1) := by decide +kernel
theorem dX7_join_44 : decode cX7_join 44 = .ok (.invokevirtual 108, 3) := by decide +kernel
theorem dX7_join_47 : decode cX7_join 47 = .ok (.goto 36, 3) := by decide +kernel
theorem dX7_join_50 : decode cX7_join 50 = .ok (.aload_n 0, 1) := by decide +kernel
theorem dX7_join_51 : decode cX7_join 51 = .ok (.iload_n 3, 1) := by decide +kernel
theorem dX7_join_52 : decode cX7_join 52 = .ok (.iload_n 2, 1) := by decide +kernel
theorem dX7_join_53 : decode cX7_join 53 = .ok (.isub, 1) := by decide +kernel
theorem dX7_join_54 : decode cX7_join 54 = .ok (.invokevirtual 108, 3) := by decide +kernel
theorem dX7_join_57 : decode cX7_join 57 = .ok (.goto 26, 3) := by decide +kernel
theorem dX7_join_60 : decode cX7_join 60 = .ok (.aload_n 0, 1) := by decide +kernel
theorem dX7_join_61 : decode cX7_join 61 = .ok (.iload_n 3, 1) := by decide +kernel
theorem dX7_join_62 : decode cX7_join 62 = .ok (.iload_n 2, 1) := by decide +kernel
theorem dX7_join_63 : decode cX7_join 63 = .ok (.imul, 1) := by decide +kernel
theorem dX7_join_64 : decode cX7_join 64 = .ok (.invokevirtual 108, 3) := by decide +kernel
theorem dX7_join_67 : decode cX7_join 67 = .ok (.goto 16, 3) := by decide +kernel
theorem dX7_join_70 : decode cX7_join 70 = .ok (.aload_n 0, 1) := by decide +kernel
theorem dX7_join_71 : decode cX7_join 71 = .ok (.aload_n 0, 1) := by decide +kernel
theorem dX7_join_72 : decode cX7_join 72 = .ok (.iload_n 3, 1) := by decide +kernel
theorem dX7_join_73 : decode cX7_join 73 = .ok (.iload_n 2, 1) := by decide +kernel
theorem dX7_join_74 : decode cX7_join 74 = .ok (.invokevirtual 124, 3) := by decide +kernel
theorem dX7_join_77 : decode cX7_join 77 = .ok (.invokevirtual 108, 3) := by decide +kernel
theorem dX7_join_80 : decode cX7_join 80 = .ok (.goto 3, 3) := by decide +kernel
theorem dX7_join_83 : decode cX7_join 83 = .ok (.return_, 1) := by decide +kernel
theorem dX7_divide_0 : decode cX7_divide 0 = .ok (.iload_n 2, 1) := by decide +kernel
theorem dX7_divide_1 : decode cX7_divide 1 = .ok (.ifCond .ne 10, 3) := by decide +kernel
theorem dX7_divide_4 : decode cX7_divide 4 = .ok (.aload_n 0, 1) := by decide +kernel
theorem dX7_divide_5 : decode cX7_divide 5 = .ok (.iconst 2, 1) := by decide +kernel
theorem dX7_divide_6 : decode cX7_divide 6 = .ok (.putfield 26, 3) := by decide +kernel
theorem dX7_divide_9 : decode cX7_divide 9 = .ok (.iconst 0, 1) := by decide +kernel
theorem dX7_divide_10 : decode cX7_divide 10 = .ok (.ireturn, 1) := by decide +kernel
theorem dX7_divide_11 : decode cX7_divide 11 = .ok (.iload_n 1, 1) := by decide +kernel
theorem dX7_divide_12 : decode cX7_divide 12 = .ok (.iload_n 2, 1) := by decide +kernel
theorem dX7_divide_13 : decode cX7_divide 13 = .ok (.idiv, 1) := by decide +kernel
theorem dX7_divide_14 : decode cX7_divide 14 = .ok (.ireturn, 1) := by decide +kernel
theorem dX7_valOf_0 : decode cX7_valOf 0 = .ok (.aload_n 0, 1) := by decide +kernel
theorem dX7_valOf_1 : decode cX7_valOf 1 = .ok (.getfield 18, 3) := by decide +kernel
theorem dX7_valOf_4 : decode cX7_valOf 4 = .ok (.iload_n 1, 1) := by decide +kernel
theorem dX7_valOf_5 : decode cX7_valOf 5 = .ok (.invokevirtual 29, 3) := by decide +kernel
theorem dX7_valOf_8 : decode cX7_valOf 8 = .ok (.astore 4, 2) := by decide +kernel
theorem dX7_valOf_10 : decode cX7_valOf 10 = .ok (.aload 4, 2) := by decide +kernel
theorem dX7_valOf_12 : decode cX7_valOf 12 = .ok (.ifnull 12, 3) := by decide +kernel
theorem dX7_valOf_15 : decode cX7_valOf 15 = .ok (.aload_n 0, 1) := by decide +kernel
theorem dX7_valOf_16 : decode cX7_valOf 16 = .ok (.iload_n 1, 1) := by decide +kernel
theorem dX7_valOf_17 : decode cX7_valOf 17 = .ok (.iload_n 3, 1) := by decide +kernel
theorem dX7_valOf_18 : decode cX7_valOf 18 = .ok (.invokevirtual 128, 3) := by decide +kernel
theorem dX7_valOf_21 : decode cX7_valOf 21 = .ok (.ifCond .ne 5, 3) := by decide +kernel
theorem dX7_valOf_24 : decode cX7_valOf 24 = .ok (.iconst 0, 1) := by decide +kernel
theorem dX7_valOf_25 : decode cX7_valOf 25 = .ok (.ireturn, 1) := by decide +kernel
theorem dX7_valOf_26 : decode cX7_valOf 26 = .ok (.aload 4, 2) := by decide +kernel
theorem dX7_valOf_28 : decode cX7_valOf 28 = .ok (.iload_n 2, 1) := by decide +kernel
theorem dX7_valOf_29 : decode cX7_valOf 29 = .ok (.invokevirtual 73, 3) := by decide +kernel
theorem dX7_valOf_32 : decode cX7_valOf 32 = .ok (.ifCond .eq 12, 3) := by decide +kernel
theorem dX7_valOf_35 : decode cX7_valOf 35 = .ok (.iload_n 2, 1) := by decide +kernel
theorem dX7_valOf_36 : decode cX7_valOf 36 = .ok (.aload 4, 2) := by decide +kernel
theorem dX7_valOf_38 : decode cX7_valOf 38 = .ok (.getfield 79, 3) := by decide +kernel
theorem dX7_valOf_41 : decode cX7_valOf 41 = .ok (.if_icmp .lt 11, 3) := by decide +kernel
theorem dX7_valOf_44 : decode cX7_valOf 44 = .ok (.aload_n 0, 1) := by decide +kernel
theorem dX7_valOf_45 : decode cX7_valOf 45 = .ok (.iconst 1, 1) := by decide +kernel
theorem dX7_valOf_46 : decode cX7_valOf 46 = .ok (.invokevirtual 40, 3) := by decide +kernel
theorem dX7_valOf_49 : decode cX7_valOf 49 = .ok (.pop, 1) := by decide +kernel
theorem dX7_valOf_50 : decode cX7_valOf 50 = .ok (.iconst 0, 1) := by decide +kernel
theorem dX7_valOf_51 : decode cX7_valOf 51 = .ok (.ireturn, 1) := by decide +kernel
theorem dX7_valOf_52 : decode cX7_valOf 52 = .ok (.aload 4, 2) := by decide +kernel
theorem dX7_valOf_54 : decode cX7_valOf 54 = .ok (.getfield 76, 3) := by decide +kernel
theorem dX7_valOf_57 : decode cX7_valOf 57 = .ok (.iload_n 2, 1) := by decide +kernel
theorem dX7_valOf_58 : decode cX7_valOf 58 = .ok (.iaload, 1) := by decide +kernel
theorem dX7_valOf_59 : decode cX7_valOf 59 = .ok (.ireturn, 1) := by decide +kernel
theorem dX7_push_0 : decode cX7_push 0 = .ok (.aload_n 0, 1) := by decide +kernel
theorem dX7_push_1 : decode cX7_push 1 = .ok (.getfield 22, 3) := by decide +kernel
theorem dX7_push_4 : decode cX7_push 4 = .ok (.ifCond .lt 35, 3) := by decide +kernel
theorem dX7_push_7 : decode cX7_push 7 = .ok (.aload_n 0, 1) := by decide +kernel
theorem dX7_push_8 : decode cX7_push 8 = .ok (.getfield 22, 3) := by decide +kernel
theorem dX7_push_11 : decode cX7_push 11 = .ok (.aload_n 0, 1) := by decide +kernel
theorem dX7_push_12 : decode cX7_push 12 = .ok (.getfield 15, 3) := by decide +kernel
theorem dX7_push_15 : decode cX7_push 15 = .ok (.arraylength, 1) := by decide +kernel
theorem dX7_push_16 : decode cX7_push 16 = .ok (.if_icmp .ge 23, 3) := by decide +kernel
theorem dX7_push_19 : decode cX7_push 19 = .ok (.aload_n 0, 1) := by decide +kernel
theorem dX7_push_20 : decode cX7_push 20 = .ok (.getfield 15, 3) := by decide +kernel
theorem dX7_push_23 : decode cX7_push 23 = .ok (.aload_n 0, 1) := by decide +kernel
theorem dX7_push_24 : decode cX7_push 24 = .ok (.getfield 22, 3) := by decide +kernel
theorem dX7_push_27 : decode cX7_push 27 = .ok (.iload_n 1, 1) := by decide +kernel
theorem dX7_push_28 : decode cX7_push 28 = .ok (.iastore, 1) := by decide +kernel
theorem dX7_push_29 : decode cX7_push 29 = .ok (.aload_n 0, 1) := by decide +kernel
theorem dX7_push_30 : decode cX7_push 30 = .ok (.dup, 1) := by decide +kernel
theorem dX7_push_31 : decode cX7_push 31 = .ok (.getfield 22, 3) := by decide +kernel
theorem dX7_push_34 : decode cX7_push 34 = .ok (.iconst 1, 1) := by decide +kernel
theorem dX7_push_35 : decode cX7_push 35 = .ok (.iadd, 1) := by decide +kernel
theorem dX7_push_36 : decode cX7_push 36 = .ok (.putfield 22, 3) := by decide +kernel
theorem dX7_push_39 : decode cX7_push 39 = .ok (.return_, 1) := by decide +kernel
theorem dX7_pop_0 : decode cX7_pop 0 = .ok (.aload_n 0, 1) := by decide +kernel
theorem dX7_pop_1 : decode cX7_pop 1 = .ok (.getfield 22, 3) := by decide +kernel
theorem dX7_pop_4 : decode cX7_pop 4 = .ok (.ifCond .le 15, 3) := by decide +kernel
theorem dX7_pop_7 : decode cX7_pop 7 = .ok (.aload_n 0, 1) := by decide +kernel
theorem dX7_pop_8 : decode cX7_pop 8 = .ok (.getfield 22, 3) := by decide +kernel
theorem dX7_pop_11 : decode cX7_pop 11 = .ok (.aload_n 0, 1) := by decide +kernel
theorem dX7_pop_12 : decode cX7_pop 12 = .ok (.getfield 15, 3) := by decide +kernel
theorem dX7_pop_15 : decode cX7_pop 15 = .ok (.arraylength, 1) := by decide +kernel
theorem dX7_pop_16 : decode cX7_pop 16 = .ok (.if_icmp .le 5, 3) := by decide +kernel
theorem dX7_pop_19 : decode cX7_pop 19 = .ok (.iconst 0, 1) := by decide +kernel
theorem dX7_pop_20 : decode cX7_pop 20 = .ok (.ireturn, 1) := by decide +kernel
theorem dX7_pop_21 : decode cX7_pop 21 = .ok (.aload_n 0, 1) := by decide +kernel
theorem dX7_pop_22 : decode cX7_pop 22 = .ok (.dup, 1) := by decide +kernel
theorem dX7_pop_23 : decode cX7_pop 23 = .ok (.getfield 22, 3) := by decide +kernel
theorem dX7_pop_26 : decode cX7_pop 26 = .ok (.iconst 1, 1) := by decide +kernel
theorem dX7_pop_27 : decode cX7_pop 27 = .ok (.isub, 1) := by decide +kernel
theorem dX7_pop_28 : decode cX7_pop 28 = .ok (.putfield 22, 3) := by decide +kernel
theorem dX7_pop_31 : decode cX7_pop 31 = .ok (.aload_n 0, 1) := by decide +kernel
theorem dX7_pop_32 : decode cX7_pop 32 = .ok (.getfield 15, 3) := by decide +kernel
theorem dX7_pop_35 : decode cX7_pop 35 = .ok (.aload_n 0, 1) := by decide +kernel
theorem dX7_pop_36 : decode cX7_pop 36 = .ok (.getfield 22, 3) := by decide +kernel
theorem dX7_pop_39 : decode cX7_pop 39 = .ok (.iaload, 1) := by decide +kernel
theorem dX7_pop_40 : decode cX7_pop 40 = .ok (.ireturn, 1) := by decide +kernel
theorem dX7_addTrace_0 : decode cX7_addTrace 0 = .ok (.aload_n 0, 1) := by decide +kernel
theorem dX7_addTrace_1 : decode cX7_addTrace 1 = .ok (.getfield 132, 3) := by decide +kernel
theorem dX7_addTrace_4 : decode cX7_addTrace 4 = .ok (.aload_n 0, 1) := by decide +kernel
theorem dX7_addTrace_5 : decode cX7_addTrace 5 = .ok (.getfield 9, 3) := by decide +kernel
theorem dX7_addTrace_8 : decode cX7_addTrace 8 = .ok (.arraylength, 1) := by decide +kernel
theorem dX7_addTrace_9 : decode cX7_addTrace 9 = .ok (.if_icmp .ge 23, 3) := by decide +kernel
theorem dX7_addTrace_12 : decode cX7_addTrace 12 = .ok (.aload_n 0, 1) := by decide +kernel
theorem dX7_addTrace_13 : decode cX7_addTrace 13 = .ok (.getfield 9, 3) := by decide +kernel
theorem dX7_addTrace_16 : decode cX7_addTrace 16 = .ok (.aload_n 0, 1) := by decide +kernel
theorem dX7_addTrace_17 : decode cX7_addTrace 17 = .ok (.getfield 132, 3) := by decide +kernel
theorem dX7_addTrace_20 : decode cX7_addTrace 20 = .ok (.iload_n 1, 1) := by decide +kernel
theorem dX7_addTrace_21 : decode cX7_addTrace 21 = .ok (.iastore, 1) := by decide +kernel
theorem dX7_addTrace_22 : decode cX7_addTrace 22 = .ok (.aload_n 0, 1) := by decide +kernel
theorem dX7_addTrace_23 : decode cX7_addTrace 23 = .ok (.dup, 1) := by decide +kernel
theorem dX7_addTrace_24 : decode cX7_addTrace 24 = .ok (.getfield 132, 3) := by decide +kernel
theorem dX7_addTrace_27 : decode cX7_addTrace 27 = .ok (.iconst 1, 1) := by decide +kernel
theorem dX7_addTrace_28 : decode cX7_addTrace 28 = .ok (.iadd, 1) := by decide +kernel
theorem dX7_addTrace_29 : decode cX7_addTrace 29 = .ok (.putfield 132, 3) := by decide +kernel
theorem dX7_addTrace_32 : decode cX7_addTrace 32 = .ok (.return_, 1) := by decide +kernel
theorem dX8_init_0 : decode cX8_init 0 = .ok (.aload_n 0, 1) := by decide +kernel
theorem dX8_init_1 : decode cX8_init 1 = .ok (.invokespecial 3, 3) := by decide +kernel
theorem dX8_init_4 : decode cX8_init 4 = .ok (.aload_n 0, 1) := by decide +kernel
theorem dX8_init_5 : decode cX8_init 5 = .ok (.sipush 2000, 3) := by decide +kernel
theorem dX8_init_8 : decode cX8_init 8 = .ok (.newarray .byte, 2) := by decide +kernel
theorem dX8_init_10 : decode cX8_init 10 = .ok (.putfield 9, 3) := by decide +kernel
theorem dX8_init_13 : decode cX8_init 13 = .ok (.return_, 1) := by decide +kernel
theorem dX8_append_0 : decode cX8_append 0 = .ok (.bipush 24, 2) := by decide +kernel
theorem dX8_append_2 : decode cX8_append 2 = .ok (.istore_n 2, 1) := by decide +kernel
theorem dX8_append_3 : decode cX8_append 3 = .ok (.iload_n 2, 1) := by decide +kernel
theorem dX8_append_4 : decode cX8_append 4 = .ok (.ifCond .lt 44, 3) := by decide +kernel
theorem dX8_append_7 : decode cX8_append 7 = .ok (.aload_n 0, 1) := by decide +kernel
theorem dX8_append_8 : decode cX8_append 8 = .ok (.getfield 15, 3) := by decide +kernel
theorem dX8_append_11 : decode cX8_append 11 = .ok (.aload_n 0, 1) := by decide +kernel
theorem dX8_append_12 : decode cX8_append 12 = .ok (.getfield 9, 3) := by decide +kernel
theorem dX8_append_15 : decode cX8_append 15 = .ok (.arraylength, 1) := by decide +kernel
theorem dX8_append_16 : decode cX8_append 16 = .ok (.if_icmp .ge 26, 3) := by decide +kernel
theorem dX8_append_19 : decode cX8_append 19 = .ok (.aload_n 0, 1) := by decide +kernel
theorem dX8_append_20 : decode cX8_append 20 = .ok (.getfield 9, 3) := by decide +kernel
theorem dX8_append_23 : decode cX8_append 23 = .ok (.aload_n 0, 1) := by decide +kernel
theorem dX8_append_24 : decode cX8_append 24 = .ok (.getfield 15, 3) := by decide +kernel
theorem dX8_append_27 : decode cX8_append 27 = .ok (.iload_n 1, 1) := by decide +kernel
theorem dX8_append_28 : decode cX8_append 28 = .ok (.iload_n 2, 1) := by decide +kernel
theorem dX8_append_29 : decode cX8_append 29 = .ok (.ishr, 1) := by decide +kernel
theorem dX8_append_30 : decode cX8_append 30 = .ok (.i2b, 1) := by decide +kernel
theorem dX8_append_31 : decode cX8_append 31 = .ok (.bastore, 1) := by decide +kernel
theorem dX8_append_32 : decode cX8_append 32 = .ok (.aload_n 0, 1) := by decide +kernel
theorem dX8_append_33 : decode cX8_append 33 = .ok (.dup, 1) := by decide +kernel
theorem dX8_append_34 : decode cX8_append 34 = .ok (.getfield 15, 3) := by decide +kernel
theorem dX8_append_37 : decode cX8_append 37 = .ok (.iconst 1, 1) := by decide +kernel
theorem dX8_append_38 : decode cX8_append 38 = .ok (.iadd, 1) := by decide +kernel
theorem dX8_append_39 : decode cX8_append 39 = .ok (.putfield 15, 3) := by decide +kernel
theorem dX8_append_42 : decode cX8_append 42 = .ok (.iinc 2 (-8), 3) := by decide +kernel
theorem dX8_append_45 : decode cX8_append 45 = .ok (.goto (-42), 3) := by decide +kernel
theorem dX8_append_48 : decode cX8_append 48 = .ok (.return_, 1) := by decide +kernel
theorem dX8_byteAt_0 : decode cX8_byteAt 0 = .ok (.iload_n 1, 1) := by decide +kernel
theorem dX8_byteAt_1 : decode cX8_byteAt 1 = .ok (.ifCond .lt 20, 3) := by decide +kernel
theorem dX8_byteAt_4 : decode cX8_byteAt 4 = .ok (.iload_n 1, 1) := by decide +kernel
theorem dX8_byteAt_5 : decode cX8_byteAt 5 = .ok (.aload_n 0, 1) := by decide +kernel
theorem dX8_byteAt_6 : decode cX8_byteAt 6 = .ok (.getfield 15, 3) := by decide +kernel
theorem dX8_byteAt_9 : decode cX8_byteAt 9 = .ok (.if_icmp .ge 12, 3) := by decide +kernel
theorem dX8_byteAt_12 : decode cX8_byteAt 12 = .ok (.iload_n 1, 1) := by decide +kernel
theorem dX8_byteAt_13 : decode cX8_byteAt 13 = .ok (.aload_n 0, 1) := by decide +kernel
theorem dX8_byteAt_14 : decode cX8_byteAt 14 = .ok (.getfield 9, 3) := by decide +kernel
theorem dX8_byteAt_17 : decode cX8_byteAt 17 = .ok (.arraylength, 1) := by decide +kernel
theorem dX8_byteAt_18 : decode cX8_byteAt 18 = .ok (.if_icmp .lt 7, 3) := by decide +kernel
theorem dX8_byteAt_21 : decode cX8_byteAt 21 = .ok (.iconst (-1), 1) := by decide +kernel
theorem dX8_byteAt_22 : decode cX8_byteAt 22 = .ok (.goto 13, 3) := by decide +kernel
theorem dX8_byteAt_25 : decode cX8_byteAt 25 = .ok (.aload_n 0, 1) := by decide +kernel
theorem dX8_byteAt_26 : decode cX8_byteAt 26 = .ok (.getfield 9, 3) := by decide +kernel
theorem dX8_byteAt_29 : decode cX8_byteAt 29 = .ok (.iload_n 1, 1) := by decide +kernel
theorem dX8_byteAt_30 : decode cX8_byteAt 30 = .ok (.baload, 1) := by decide +kernel
theorem dX8_byteAt_31 : decode cX8_byteAt 31 = .ok (.sipush 255, 3) := by decide +kernel
theorem dX8_byteAt_34 : decode cX8_byteAt 34 = .ok (.iand, 1) := by decide +kernel
theorem dX8_byteAt_35 : decode cX8_byteAt 35 = .ok (.ireturn, 1) := by decide +kernel
theorem dX8_isLetterAt_0 : decode cX8_isLetterAt 0 = .ok (.aload_n 0, 1) := by decide +kernel
theorem dX8_isLetterAt_1 : decode cX8_isLetterAt 1 = .ok (.iload_n 1, 1) := by decide +kernel
theorem dX8_isLetterAt_2 : decode cX8_isLetterAt 2 = .ok (.invokevirtual 19, 3) := by decide +kernel
theorem dX8_isLetterAt_5 : decode cX8_isLetterAt 5 = .ok (.istore_n 2, 1) := by decide +kernel
theorem dX8_isLetterAt_6 : decode cX8_isLetterAt 6 = .ok (.iload_n 2, 1) := by decide +kernel
theorem dX8_isLetterAt_7 : decode cX8_isLetterAt 7 = .ok (.bipush 97, 2) := by decide +kernel
theorem dX8_isLetterAt_9 : decode cX8_isLetterAt 9 = .ok (.if_icmp .lt 9, 3) := by decide +kernel
theorem dX8_isLetterAt_12 : decode cX8_isLetterAt 12 = .ok (.iload_n 2, 1) := by decide +kernel
theorem dX8_isLetterAt_13 : decode cX8_isLetterAt 13 = .ok (.bipush 122, 2) := by decide +kernel
theorem dX8_isLetterAt_15 : decode cX8_isLetterAt 15 = .ok (.if_icmp .le 15, 3) := by decide +kernel
theorem dX8_isLetterAt_18 : decode cX8_isLetterAt 18 = .ok (.iload_n 2, 1) := by decide +kernel
theorem dX8_isLetterAt_19 : decode cX8_isLetterAt 19 = .ok (.bipush 65, 2) := by decide +kernel
theorem dX8_isLetterAt_21 : decode cX8_isLetterAt 21 = .ok (.if_icmp .lt 13, 3) := by decide +kernel
theorem dX8_isLetterAt_24 : decode cX8_isLetterAt 24 = .ok (.iload_n 2, 1) := by decide +kernel
theorem dX8_isLetterAt_25 : decode cX8_isLetterAt 25 = .ok (.bipush 90, 2) := by decide +kernel
theorem dX8_isLetterAt_27 : decode cX8_isLetterAt 27 = .ok (.if_icmp .gt 7, 3) := by decide +kernel
theorem dX8_isLetterAt_30 : decode cX8_isLetterAt 30 = .ok (.iconst 1, 1) := by decide +kernel
theorem dX8_isLetterAt_31 : decode cX8_isLetterAt 31 = .ok (.goto 4, 3) := by decide +kernel
theorem dX8_isLetterAt_34 : decode cX8_isLetterAt 34 = .ok (.iconst 0, 1) := by decide +kernel
theorem dX8_isLetterAt_35 : decode cX8_isLetterAt 35 = .ok (.ireturn, 1) := by decide +kernel
theorem dX8_isDigitAt_0 : decode cX8_isDigitAt 0 = .ok (.aload_n 0, 1) := by decide +kernel
theorem dX8_isDigitAt_1 : decode cX8_isDigitAt 1 = .ok (.iload_n 1, 1) := by decide +kernel
theorem dX8_isDigitAt_2 : decode cX8_isDigitAt 2 = .ok (.invokevirtual 19, 3) := by decide +kernel
theorem dX8_isDigitAt_5 : decode cX8_isDigitAt 5 = .ok (.istore_n 2, 1) := by decide +kernel
theorem dX8_isDigitAt_6 : decode cX8_isDigitAt 6 = .ok (.iload_n 2, 1) := by decide +kernel
theorem dX8_isDigitAt_7 : decode cX8_isDigitAt 7 = .ok (.bipush 48, 2) := by decide +kernel
theorem dX8_isDigitAt_9 : decode cX8_isDigitAt 9 = .ok (.if_icmp .lt 13, 3) := by decide +kernel
theorem dX8_isDigitAt_12 : decode cX8_isDigitAt 12 = .ok (.iload_n 2, 1) := by decide +kernel
theorem dX8_isDigitAt_13 : decode cX8_isDigitAt 13 = .ok (.bipush 57, 2) := by decide +kernel
theorem dX8_isDigitAt_15 : decode cX8_isDigitAt 15 = .ok (.if_icmp .gt 7, 3) := by decide +kernel
theorem dX8_isDigitAt_18 : decode cX8_isDigitAt 18 = .ok (.iconst 1, 1) := by decide +kernel
theorem dX8_isDigitAt_19 : decode cX8_isDigitAt 19 = .ok (.goto 4, 3) := by decide +kernel
theorem dX8_isDigitAt_22 : decode cX8_isDigitAt 22 = .ok (.iconst 0, 1) := by decide +kernel
theorem dX8_isDigitAt_23 : decode cX8_isDigitAt 23 = .ok (.ireturn, 1) := by decide +kernel
theorem dX8_nameLength_0 : decode cX8_nameLength 0 = .ok (.iconst 0, 1) := by decide +kernel
theorem dX8_nameLength_1 : decode cX8_nameLength 1 = .ok (.istore_n 2, 1) := by decide +kernel
theorem dX8_nameLength_2 : decode cX8_nameLength 2 = .ok (.iload_n 2, 1) := by decide +kernel
theorem dX8_nameLength_3 : decode cX8_nameLength 3 = .ok (.aload_n 0, 1) := by decide +kernel
theorem dX8_nameLength_4 : decode cX8_nameLength 4 = .ok (.getfield 15, 3) := by decide +kernel
theorem dX8_nameLength_7 : decode cX8_nameLength 7 = .ok (.if_icmp .ge 29, 3) := by decide +kernel
theorem dX8_nameLength_10 : decode cX8_nameLength 10 = .ok (.aload_n 0, 1) := by decide +kernel
theorem dX8_nameLength_11 : decode cX8_nameLength 11 = .ok (.iload_n 1, 1) := by decide +kernel
theorem dX8_nameLength_12 : decode cX8_nameLength 12 = .ok (.iload_n 2, 1) := by decide +kernel
theorem dX8_nameLength_13 : decode cX8_nameLength 13 = .ok (.iadd, 1) := by decide +kernel
theorem dX8_nameLength_14 : decode cX8_nameLength 14 = .ok (.invokevirtual 23, 3) := by decide +kernel
theorem dX8_nameLength_17 : decode cX8_nameLength 17 = .ok (.ifCond .ne 13, 3) := by decide +kernel
theorem dX8_nameLength_20 : decode cX8_nameLength 20 = .ok (.aload_n 0, 1) := by decide +kernel
theorem dX8_nameLength_21 : decode cX8_nameLength 21 = .ok (.iload_n 1, 1) := by decide +kernel
theorem dX8_nameLength_22 : decode cX8_nameLength 22 = .ok (.iload_n 2, 1) := by decide +kernel
theorem dX8_nameLength_23 : decode cX8_nameLength 23 = .ok (.iadd, 1) := by decide +kernel
theorem dX8_nameLength_24 : decode cX8_nameLength 24 = .ok (.invokevirtual 27, 3) := by decide +kernel
theorem dX8_nameLength_27 : decode cX8_nameLength 27 = .ok (.ifCond .eq 9, 3) := by decide +kernel
theorem dX8_nameLength_30 : decode cX8_nameLength 30 = .ok (.iinc 2 1, 3) := by decide +kernel
theorem dX8_nameLength_33 : decode cX8_nameLength 33 = .ok (.goto (-31), 3) := by decide +kernel
theorem dX8_nameLength_36 : decode cX8_nameLength 36 = .ok (.iload_n 2, 1) := by decide +kernel
theorem dX8_nameLength_37 : decode cX8_nameLength 37 = .ok (.ireturn, 1) := by decide +kernel
theorem dX8_numberLength_0 : decode cX8_numberLength 0 = .ok (.iconst 0, 1) := by decide +kernel
theorem dX8_numberLength_1 : decode cX8_numberLength 1 = .ok (.istore_n 2, 1) := by decide +kernel
theorem dX8_numberLength_2 : decode cX8_numberLength 2 = .ok (.iload_n 2, 1) := by decide +kernel
theorem dX8_numberLength_3 : decode cX8_numberLength 3 = .ok (.bipush 9, 2) := by decide +kernel
theorem dX8_numberLength_5 : decode cX8_numberLength 5 = .ok (.if_icmp .ge 19, 3) := by decide +kernel
theorem dX8_numberLength_8 : decode cX8_numberLength 8 = .ok (.aload_n 0, 1) := by decide +kernel
theorem dX8_numberLength_9 : decode cX8_numberLength 9 = .ok (.iload_n 1, 1) := by decide +kernel
theorem dX8_numberLength_10 : decode cX8_numberLength 10 = .ok (.iload_n 2, 1) := by decide +kernel
theorem dX8_numberLength_11 : decode cX8_numberLength 11 = .ok (.iadd, 1) := by decide +kernel
theorem dX8_numberLength_12 : decode cX8_numberLength 12 = .ok (.invokevirtual 27, 3) := by decide +kernel
theorem dX8_numberLength_15 : decode cX8_numberLength 15 = .ok (.ifCond .eq 9, 3) := by decide +kernel
theorem dX8_numberLength_18 : decode cX8_numberLength 18 = .ok (.iinc 2 1, 3) := by decide +kernel
theorem dX8_numberLength_21 : decode cX8_numberLength 21 = .ok (.goto (-19), 3) := by decide +kernel
theorem dX8_numberLength_24 : decode cX8_numberLength 24 = .ok (.iload_n 2, 1) := by decide +kernel
theorem dX8_numberLength_25 : decode cX8_numberLength 25 = .ok (.ireturn, 1) := by decide +kernel
theorem dX8_numberAt_0 : decode cX8_numberAt 0 = .ok (.aload_n 0, 1) := by decide +kernel
theorem dX8_numberAt_1 : decode cX8_numberAt 1 = .ok (.iload_n 1, 1) := by decide +kernel
theorem dX8_numberAt_2 : decode cX8_numberAt 2 = .ok (.invokevirtual 30, 3) := by decide +kernel
theorem dX8_numberAt_5 : decode cX8_numberAt 5 = .ok (.istore_n 2, 1) := by decide +kernel
theorem dX8_numberAt_6 : decode cX8_numberAt 6 = .ok (.iconst 0, 1) := by decide +kernel
theorem dX8_numberAt_7 : decode cX8_numberAt 7 = .ok (.istore_n 3, 1) := by decide +kernel
theorem dX8_numberAt_8 : decode cX8_numberAt 8 = .ok (.iconst 0, 1) := by decide +kernel
theorem dX8_numberAt_9 : decode cX8_numberAt 9 = .ok (.istore 4, 2) := by decide +kernel
theorem dX8_numberAt_11 : decode cX8_numberAt 11 = .ok (.iload 4, 2) := by decide +kernel
theorem dX8_numberAt_13 : decode cX8_numberAt 13 = .ok (.iload_n 2, 1) := by decide +kernel
theorem dX8_numberAt_14 : decode cX8_numberAt 14 = .ok (.if_icmp .ge 26, 3) := by decide +kernel
theorem dX8_numberAt_17 : decode cX8_numberAt 17 = .ok (.iload_n 3, 1) := by decide +kernel
theorem dX8_numberAt_18 : decode cX8_numberAt 18 = .ok (.bipush 10, 2) := by decide +kernel
theorem dX8_numberAt_20 : decode cX8_numberAt 20 = .ok (.imul, 1) := by decide +kernel
theorem dX8_numberAt_21 : decode cX8_numberAt 21 = .ok (.aload_n 0, 1) := by decide +kernel
theorem dX8_numberAt_22 : decode cX8_numberAt 22 = .ok (.iload_n 1, 1) := by decide +kernel
theorem dX8_numberAt_23 : decode cX8_numberAt 23 = .ok (.iload 4, 2) := by decide +kernel
theorem dX8_numberAt_25 : decode cX8_numberAt 25 = .ok (.iadd, 1) := by decide +kernel
theorem dX8_numberAt_26 : decode cX8_numberAt 26 = .ok (.invokevirtual 19, 3) := by decide +kernel
theorem dX8_numberAt_29 : decode cX8_numberAt 29 = .ok (.bipush 48, 2) := by decide +kernel
theorem dX8_numberAt_31 : decode cX8_numberAt 31 = .ok (.isub, 1) := by decide +kernel
theorem dX8_numberAt_32 : decode cX8_numberAt 32 = .ok (.iadd, 1) := by decide +kernel
theorem dX8_numberAt_33 : decode cX8_numberAt 33 = .ok (.istore_n 3, 1) := by decide +kernel
theorem dX8_numberAt_34 : decode cX8_numberAt 34 = .ok (.iinc 4 1, 3) := by decide +kernel
theorem dX8_numberAt_37 : decode cX8_numberAt 37 = .ok (.goto (-26), 3) := by decide +kernel
theorem dX8_numberAt_40 : decode cX8_numberAt 40 = .ok (.iload_n 3, 1) := by decide +kernel
theorem dX8_numberAt_41 : decode cX8_numberAt 41 = .ok (.ireturn, 1) := by decide +kernel
theorem dX8_same_0 : decode cX8_same 0 = .ok (.iconst 0, 1) := by decide +kernel
theorem dX8_same_1 : decode cX8_same 1 = .ok (.istore 5, 2) := by decide +kernel
theorem dX8_same_3 : decode cX8_same 3 = .ok (.iload 5, 2) := by decide +kernel
theorem dX8_same_5 : decode cX8_same 5 = .ok (.iload 4, 2) := by decide +kernel
theorem dX8_same_7 : decode cX8_same 7 = .ok (.if_icmp .ge 30, 3) := by decide +kernel
theorem dX8_same_10 : decode cX8_same 10 = .ok (.aload_n 0, 1) := by decide +kernel
theorem dX8_same_11 : decode cX8_same 11 = .ok (.iload_n 1, 1) := by decide +kernel
theorem dX8_same_12 : decode cX8_same 12 = .ok (.iload 5, 2) := by decide +kernel
theorem dX8_same_14 : decode cX8_same 14 = .ok (.iadd, 1) := by decide +kernel
theorem dX8_same_15 : decode cX8_same 15 = .ok (.invokevirtual 19, 3) := by decide +kernel
theorem dX8_same_18 : decode cX8_same 18 = .ok (.aload_n 2, 1) := by decide +kernel
theorem dX8_same_19 : decode cX8_same 19 = .ok (.iload_n 3, 1) := by decide +kernel
theorem dX8_same_20 : decode cX8_same 20 = .ok (.iload 5, 2) := by decide +kernel
theorem dX8_same_22 : decode cX8_same 22 = .ok (.iadd, 1) := by decide +kernel
theorem dX8_same_23 : decode cX8_same 23 = .ok (.invokevirtual 19, 3) := by decide +kernel
theorem dX8_same_26 : decode cX8_same 26 = .ok (.if_icmp .eq 5, 3) := by decide +kernel
theorem dX8_same_29 : decode cX8_same 29 = .ok (.iconst 0, 1) := by decide +kernel
theorem dX8_same_30 : decode cX8_same 30 = .ok (.ireturn, 1) := by decide +kernel
theorem dX8_same_31 : decode cX8_same 31 = .ok (.iinc 5 1, 3) := by decide +kernel
theorem dX8_same_34 : decode cX8_same 34 = .ok (.goto (-31), 3) := by decide +kernel
theorem dX8_same_37 : decode cX8_same 37 = .ok (.iconst 1, 1) := by decide +kernel
theorem dX8_same_38 : decode cX8_same 38 = .ok (.ireturn, 1) := by decide +kernel
theorem dX8_spells_0 : decode cX8_spells 0 = .ok (.iload_n 2, 1) := by decide +kernel
theorem dX8_spells_1 : decode cX8_spells 1 = .ok (.aload_n 3, 1) := by decide +kernel
theorem dX8_spells_2 : decode cX8_spells 2 = .ok (.invokevirtual 33, 3) := by decide +kernel
theorem dX8_spells_5 : decode cX8_spells 5 = .ok (.if_icmp .eq 5, 3) := by decide +kernel
theorem dX8_spells_8 : decode cX8_spells 8 = .ok (.iconst 0, 1) := by decide +kernel
theorem dX8_spells_9 : decode cX8_spells 9 = .ok (.ireturn, 1) := by decide +kernel
theorem dX8_spells_10 : decode cX8_spells 10 = .ok (.iconst 0, 1) := by decide +kernel
theorem dX8_spells_11 : decode cX8_spells 11 = .ok (.istore 4, 2) := by decide +kernel
theorem dX8_spells_13 : decode cX8_spells 13 = .ok (.iload 4, 2) := by decide +kernel
theorem dX8_spells_15 : decode cX8_spells 15 = .ok (.aload_n 3, 1) := by decide +kernel
theorem dX8_spells_16 : decode cX8_spells 16 = .ok (.invokevirtual 33, 3) := by decide +kernel
theorem dX8_spells_19 : decode cX8_spells 19 = .ok (.if_icmp .ge 28, 3) := by decide +kernel
theorem dX8_spells_22 : decode cX8_spells 22 = .ok (.aload_n 0, 1) := by decide +kernel
theorem dX8_spells_23 : decode cX8_spells 23 = .ok (.iload_n 1, 1) := by decide +kernel
theorem dX8_spells_24 : decode cX8_spells 24 = .ok (.iload 4, 2) := by decide +kernel
theorem dX8_spells_26 : decode cX8_spells 26 = .ok (.iadd, 1) := by decide +kernel
theorem dX8_spells_27 : decode cX8_spells 27 = .ok (.invokevirtual 19, 3) := by decide +kernel
theorem dX8_spells_30 : decode cX8_spells 30 = .ok (.aload_n 3, 1) := by decide +kernel
theorem dX8_spells_31 : decode cX8_spells 31 = .ok (.iload 4, 2) := by decide +kernel
theorem dX8_spells_33 : decode cX8_spells 33 = .ok (.invokevirtual 38, 3) := by decide +kernel
theorem dX8_spells_36 : decode cX8_spells 36 = .ok (.if_icmp .eq 5, 3) := by decide +kernel
theorem dX8_spells_39 : decode cX8_spells 39 = .ok (.iconst 0, 1) := by decide +kernel
theorem dX8_spells_40 : decode cX8_spells 40 = .ok (.ireturn, 1) := by decide +kernel
theorem dX8_spells_41 : decode cX8_spells 41 = .ok (.iinc 4 1, 3) := by decide +kernel
theorem dX8_spells_44 : decode cX8_spells 44 = .ok (.goto (-31), 3) := by decide +kernel
theorem dX8_spells_47 : decode cX8_spells 47 = .ok (.iconst 1, 1) := by decide +kernel
theorem dX8_spells_48 : decode cX8_spells 48 = .ok (.ireturn, 1) := by decide +kernel
theorem dX8_firstNamed_0 : decode cX8_firstNamed 0 = .ok (.aload_n 0, 1) := by decide +kernel
theorem dX8_firstNamed_1 : decode cX8_firstNamed 1 = .ok (.iload_n 1, 1) := by decide +kernel
theorem dX8_firstNamed_2 : decode cX8_firstNamed 2 = .ok (.invokevirtual 42, 3) := by decide +kernel
theorem dX8_firstNamed_5 : decode cX8_firstNamed 5 = .ok (.istore 4, 2) := by decide +kernel
theorem dX8_firstNamed_7 : decode cX8_firstNamed 7 = .ok (.iconst 0, 1) := by decide +kernel
theorem dX8_firstNamed_8 : decode cX8_firstNamed 8 = .ok (.istore 5, 2) := by decide +kernel
theorem dX8_firstNamed_10 : decode cX8_firstNamed 10 = .ok (.iload 5, 2) := by decide +kernel
theorem dX8_firstNamed_12 : decode cX8_firstNamed 12 = .ok (.iload_n 3, 1) := by decide +kernel
theorem dX8_firstNamed_13 : decode cX8_firstNamed 13 = .ok (.if_icmp .ge 47, 3) := by decide +kernel
theorem dX8_firstNamed_16 : decode cX8_firstNamed 16 = .ok (.iload 5, 2) := by decide +kernel
theorem dX8_firstNamed_18 : decode cX8_firstNamed 18 = .ok (.aload_n 2, 1) := by decide +kernel
theorem dX8_firstNamed_19 : decode cX8_firstNamed 19 = .ok (.arraylength, 1) := by decide +kernel
theorem dX8_firstNamed_20 : decode cX8_firstNamed 20 = .ok (.if_icmp .ge 40, 3) := by decide +kernel
theorem dX8_firstNamed_23 : decode cX8_firstNamed 23 = .ok (.aload_n 0, 1) := by decide +kernel
theorem dX8_firstNamed_24 : decode cX8_firstNamed 24 = .ok (.iload_n 1, 1) := by decide +kernel
theorem dX8_firstNamed_25 : decode cX8_firstNamed 25 = .ok (.aload_n 0, 1) := by decide +kernel
theorem dX8_firstNamed_26 : decode cX8_firstNamed 26 = .ok (.aload_n 2, 1) := by decide +kernel
theorem dX8_firstNamed_27 : decode cX8_firstNamed 27 = .ok (.iload 5, 2) := by decide +kernel
theorem dX8_firstNamed_29 : decode cX8_firstNamed 29 = .ok (.iaload, 1) := by decide +kernel
theorem dX8_firstNamed_30 : decode cX8_firstNamed 30 = .ok (.iload 4, 2) := by decide +kernel
theorem dX8_firstNamed_32 : decode cX8_firstNamed 32 = .ok (.invokevirtual 45, 3) := by decide +kernel
theorem dX8_firstNamed_35 : decode cX8_firstNamed 35 = .ok (.ifCond .eq 19, 3) := by decide +kernel
theorem dX8_firstNamed_38 : decode cX8_firstNamed 38 = .ok (.aload_n 0, 1) := by decide +kernel
theorem dX8_firstNamed_39 : decode cX8_firstNamed 39 = .ok (.aload_n 2, 1) := by decide +kernel
theorem dX8_firstNamed_40 : decode cX8_firstNamed 40 = .ok (.iload 5, 2) := by decide +kernel
theorem dX8_firstNamed_42 : decode cX8_firstNamed 42 = .ok (.iaload, 1) := by decide +kernel
theorem dX8_firstNamed_43 : decode cX8_firstNamed 43 = .ok (.invokevirtual 42, 3) := by decide +kernel
theorem dX8_firstNamed_46 : decode cX8_firstNamed 46 = .ok (.iload 4, 2) := by decide +kernel
theorem dX8_firstNamed_48 : decode cX8_firstNamed 48 = .ok (.if_icmp .ne 6, 3) := by decide +kernel
theorem dX8_firstNamed_51 : decode cX8_firstNamed 51 = .ok (.iload 5, 2) := by decide +kernel
theorem dX8_firstNamed_53 : decode cX8_firstNamed 53 = .ok (.ireturn, 1) := by decide +kernel
theorem dX8_firstNamed_54 : decode cX8_firstNamed 54 = .ok (.iinc 5 1, 3) := by decide +kernel
theorem dX8_firstNamed_57 : decode cX8_firstNamed 57 = .ok (.goto (-47), 3) := by decide +kernel
theorem dX8_firstNamed_60 : decode cX8_firstNamed 60 = .ok (.iconst (-1), 1) := by decide +kernel
theorem dX8_firstNamed_61 : decode cX8_firstNamed 61 = .ok (.ireturn, 1) := by decide +kernel
theorem dX9_init_0 : decode cX9_init 0 = .ok (.aload_n 0, 1) := by decide +kernel
theorem dX9_init_1 : decode cX9_init 1 = .ok (.invokespecial 3, 3) := by decide +kernel
theorem dX9_init_4 : decode cX9_init 4 = .ok (.aload_n 0, 1) := by decide +kernel
theorem dX9_init_5 : decode cX9_init 5 = .ok (.sipush 2001, 3) := by decide +kernel
theorem dX9_init_8 : decode cX9_init 8 = .ok (.newarray .long, 2) := by decide +kernel
theorem dX9_init_10 : decode cX9_init 10 = .ok (.putfield 9, 3) := by decide +kernel
theorem dX9_init_13 : decode cX9_init 13 = .ok (.return_, 1) := by decide +kernel
theorem dX9_split_0 : decode cX9_split 0 = .ok (.aload_n 0, 1) := by decide +kernel
theorem dX9_split_1 : decode cX9_split 1 = .ok (.iconst 0, 1) := by decide +kernel
theorem dX9_split_2 : decode cX9_split 2 = .ok (.putfield 15, 3) := by decide +kernel
theorem dX9_split_5 : decode cX9_split 5 = .ok (.iconst 0, 1) := by decide +kernel
theorem dX9_split_6 : decode cX9_split 6 = .ok (.istore_n 2, 1) := by decide +kernel
theorem dX9_split_7 : decode cX9_split 7 = .ok (.iconst 0, 1) := by decide +kernel
theorem dX9_split_8 : decode cX9_split 8 = .ok (.istore_n 3, 1) := by decide +kernel
theorem dX9_split_9 : decode cX9_split 9 = .ok (.iload_n 3, 1) := by decide +kernel
theorem dX9_split_10 : decode cX9_split 10 = .ok (.sipush 2000, 3) := by decide +kernel
theorem dX9_split_13 : decode cX9_split 13 = .ok (.if_icmp .ge 26, 3) := by decide +kernel
theorem dX9_split_16 : decode cX9_split 16 = .ok (.iload_n 2, 1) := by decide +kernel
theorem dX9_split_17 : decode cX9_split 17 = .ok (.aload_n 1, 1) := by decide +kernel
theorem dX9_split_18 : decode cX9_split 18 = .ok (.getfield 19, 3) := by decide +kernel
theorem dX9_split_21 : decode cX9_split 21 = .ok (.if_icmp .ge 18, 3) := by decide +kernel
theorem dX9_split_24 : decode cX9_split 24 = .ok (.iload_n 2, 1) := by decide +kernel
theorem dX9_split_25 : decode cX9_split 25 = .ok (.aload_n 0, 1) := by decide +kernel
theorem dX9_split_26 : decode cX9_split 26 = .ok (.aload_n 1, 1) := by decide +kernel
theorem dX9_split_27 : decode cX9_split 27 = .ok (.iload_n 2, 1) := by decide +kernel
theorem dX9_split_28 : decode cX9_split 28 = .ok (.invokevirtual 24, 3) := by decide +kernel
theorem dX9_split_31 : decode cX9_split 31 = .ok (.iadd, 1) := by decide +kernel
theorem dX9_split_32 : decode cX9_split 32 = .ok (.istore_n 2, 1) := by decide +kernel
theorem dX9_split_33 : decode cX9_split 33 = .ok (.iinc 3 1, 3) := by decide +kernel
theorem dX9_split_36 : decode cX9_split 36 = .ok (.goto (-27), 3) := by decide +kernel
theorem dX9_split_39 : decode cX9_split 39 = .ok (.aload_n 0, 1) := by decide +kernel
theorem dX9_split_40 : decode cX9_split 40 = .ok (.sipush 130, 3) := by decide +kernel
theorem dX9_split_43 : decode cX9_split 43 = .ok (.aload_n 1, 1) := by decide +kernel
theorem dX9_split_44 : decode cX9_split 44 = .ok (.getfield 19, 3) := by decide +kernel
theorem dX9_split_47 : decode cX9_split 47 = .ok (.iconst 0, 1) := by decide +kernel
theorem dX9_split_48 : decode cX9_split 48 = .ok (.invokevirtual 28, 3) := by decide +kernel
theorem dX9_split_51 : decode cX9_split 51 = .ok (.aload_n 0, 1) := by decide +kernel
theorem dX9_split_52 : decode cX9_split 52 = .ok (.iconst (-1), 1) := by decide +kernel
theorem dX9_split_53 : decode cX9_split 53 = .ok (.putfield 32, 3) := by decide +kernel
theorem dX9_split_56 : decode cX9_split 56 = .ok (.aload_n 0, 1) := by decide +kernel
theorem dX9_split_57 : decode cX9_split 57 = .ok (.invokevirtual 35, 3) := by decide +kernel
theorem dX9_split_60 : decode cX9_split 60 = .ok (.pop, 1) := by decide +kernel
theorem dX9_split_61 : decode cX9_split 61 = .ok (.return_, 1) := by decide +kernel
theorem dX9_addAt_0 : decode cX9_addAt 0 = .ok (.aload_n 1, 1) := by decide +kernel
theorem dX9_addAt_1 : decode cX9_addAt 1 = .ok (.iload_n 2, 1) := by decide +kernel
theorem dX9_addAt_2 : decode cX9_addAt 2 = .ok (.invokevirtual 39, 3) := by decide +kernel
theorem dX9_addAt_5 : decode cX9_addAt 5 = .ok (.istore_n 3, 1) := by decide +kernel
theorem dX9_addAt_6 : decode cX9_addAt 6 = .ok (.iload_n 3, 1) := by decide +kernel
theorem dX9_addAt_7 : decode cX9_addAt 7 = .ok (.bipush 32, 2) := by decide +kernel
theorem dX9_addAt_9 : decode cX9_addAt 9 = .ok (.if_icmp .eq 9, 3) := by decide +kernel
theorem dX9_addAt_12 : decode cX9_addAt 12 = .ok (.iload_n 3, 1) := by decide +kernel
theorem dX9_addAt_13 : decode cX9_addAt 13 = .ok (.bipush 10, 2) := by decide +kernel
theorem dX9_addAt_15 : decode cX9_addAt 15 = .ok (.if_icmp .ne 5, 3) := by decide +kernel
theorem dX9_addAt_18 : decode cX9_addAt 18 = .ok (.iconst 1, 1) := by decide +kernel
theorem dX9_addAt_19 : decode cX9_addAt 19 = .ok (.ireturn, 1) := by decide +kernel
theorem dX9_addAt_20 : decode cX9_addAt 20 = .ok (.aload_n 1, 1) := by decide +kernel
theorem dX9_addAt_21 : decode cX9_addAt 21 = .ok (.iload_n 2, 1) := by decide +kernel
theorem dX9_addAt_22 : decode cX9_addAt 22 = .ok (.invokevirtual 43, 3) := by decide +kernel
theorem dX9_addAt_25 : decode cX9_addAt 25 = .ok (.ifCond .eq 40, 3) := by decide +kernel
theorem dX9_addAt_28 : decode cX9_addAt 28 = .ok (.aload_n 1, 1) := by decide +kernel
theorem dX9_addAt_29 : decode cX9_addAt 29 = .ok (.iload_n 2, 1) := by decide +kernel
theorem dX9_addAt_30 : decode cX9_addAt 30 = .ok (.invokevirtual 47, 3) := by decide +kernel
theorem dX9_addAt_33 : decode cX9_addAt 33 = .ok (.istore 4, 2) := by decide +kernel
theorem dX9_addAt_35 : decode cX9_addAt 35 = .ok (.aload_n 0, 1) := by decide +kernel
theorem dX9_addAt_36 : decode cX9_addAt 36 = .ok (.iload 4, 2) := by decide +kernel
theorem dX9_addAt_38 : decode cX9_addAt 38 = .ok (.bipush 12, 2) := by decide +kernel
theorem dX9_addAt_40 : decode cX9_addAt 40 = .ok (.if_icmp .le 9, 3) := by decide +kernel
theorem dX9_addAt_43 : decode cX9_addAt 43 = .ok (.sipush 131, 3) := by decide +kernel
theorem dX9_addAt_46 : decode cX9_addAt 46 = .ok (.goto 11, 3) := by decide +kernel
theorem dX9_addAt_49 : decode cX9_addAt 49 = .ok (.aload_n 0, 1) := by decide +kernel
theorem dX9_addAt_50 : decode cX9_addAt 50 = .ok (.aload_n 1, 1) := by decide +kernel
theorem dX9_addAt_51 : decode cX9_addAt 51 = .ok (.iload_n 2, 1) := by decide +kernel
theorem dX9_addAt_52 : decode cX9_addAt 52 = .ok (.iload 4, 2) := by decide +kernel
theorem dX9_addAt_54 : decode cX9_addAt 54 = .ok (.invokevirtual 50, 3) := by decide +kernel
theorem dX9_addAt_57 : decode cX9_addAt 57 = .ok (.iload_n 2, 1) := by decide +kernel
theorem dX9_addAt_58 : decode cX9_addAt 58 = .ok (.iconst 0, 1) := by decide +kernel
theorem dX9_addAt_59 : decode cX9_addAt 59 = .ok (.invokevirtual 28, 3) := by decide +kernel
theorem dX9_addAt_62 : decode cX9_addAt 62 = .ok (.iload 4, 2) := by decide +kernel
theorem dX9_addAt_64 : decode cX9_addAt 64 = .ok (.ireturn, 1) := by decide +kernel
theorem dX9_addAt_65 : decode cX9_addAt 65 = .ok (.aload_n 1, 1) := by decide +kernel
theorem dX9_addAt_66 : decode cX9_addAt 66 = .ok (.iload_n 2, 1) := by decide +kernel
theorem dX9_addAt_67 : decode cX9_addAt 67 = .ok (.invokevirtual 54, 3) := by decide +kernel
theorem dX9_addAt_70 : decode cX9_addAt 70 = .ok (.ifCond .eq 22, 3) := by decide +kernel
theorem dX9_addAt_73 : decode cX9_addAt 73 = .ok (.aload_n 0, 1) := by decide +kernel
theorem dX9_addAt_74 : decode cX9_addAt 74 = .ok (.sipush 129, 3) := by decide +kernel
theorem dX9_addAt_77 : decode cX9_addAt 77 = .ok (.iload_n 2, 1) := by decide +kernel
theorem dX9_addAt_78 : decode cX9_addAt 78 = .ok (.aload_n 1, 1) := by decide +kernel
theorem dX9_addAt_79 : decode cX9_addAt 79 = .ok (.iload_n 2, 1) := by decide +kernel
theorem dX9_addAt_80 : decode cX9_addAt 80 = .ok (.invokevirtual 57, 3) := by decide +kernel
theorem dX9_addAt_83 : decode cX9_addAt 83 = .ok (.invokevirtual 28, 3) := by decide +kernel
theorem dX9_addAt_86 : decode cX9_addAt 86 = .ok (.aload_n 1, 1) := by decide +kernel
theorem dX9_addAt_87 : decode cX9_addAt 87 = .ok (.iload_n 2, 1) := by decide +kernel
theorem dX9_addAt_88 : decode cX9_addAt 88 = .ok (.invokevirtual 60, 3) := by decide +kernel
theorem dX9_addAt_91 : decode cX9_addAt 91 = .ok (.ireturn, 1) := by decide +kernel
theorem dX9_addAt_92 : decode cX9_addAt 92 = .ok (.aload_n 0, 1) := by decide +kernel
theorem dX9_addAt_93 : decode cX9_addAt 93 = .ok (.iload_n 3, 1) := by decide +kernel
theorem dX9_addAt_94 : decode cX9_addAt 94 = .ok (.ifCond .lt 17, 3) := by decide +kernel
theorem dX9_addAt_97 : decode cX9_addAt 97 = .ok (.ldc 63, 2) := by decide +kernel
theorem dX9_addAt_99 : decode cX9_addAt 99 = .ok (.iload_n 3, 1) := by decide +kernel
theorem dX9_addAt_100 : decode cX9_addAt 100 = .ok (.i2c, 1) := by decide +kernel
theorem dX9_addAt_101 : decode cX9_addAt 101 = .ok (.invokevirtual 65, 3) := by decide +kernel
theorem dX9_addAt_104 : decode cX9_addAt 104 = .ok (.ifCond .lt 7, 3) := by decide +kernel
theorem dX9_addAt_107 : decode cX9_addAt 107 = .ok (.iload_n 3, 1) := by decide +kernel
theorem dX9_addAt_108 : decode cX9_addAt 108 = .ok (.goto 6, 3) := by decide +kernel
theorem dX9_addAt_111 : decode cX9_addAt 111 = .ok (.sipush 131, 3) := by decide +kernel
theorem dX9_addAt_114 : decode cX9_addAt 114 = .ok (.iload_n 2, 1) := by decide +kernel
theorem dX9_addAt_115 : decode cX9_addAt 115 = .ok (.iconst 0, 1) := by decide +kernel
theorem dX9_addAt_116 : decode cX9_addAt 116 = .ok (.invokevirtual 28, 3) := by decide +kernel
theorem dX9_addAt_119 : decode cX9_addAt 119 = .ok (.iconst 1, 1) := by decide +kernel
theorem dX9_addAt_120 : decode cX9_addAt 120 = .ok (.ireturn, 1) := by decide +kernel
theorem dX9_wordOrName_0 : decode cX9_wordOrName 0 = .ok (.aload_n 1, 1) := by decide +kernel
theorem dX9_wordOrName_1 : decode cX9_wordOrName 1 = .ok (.iload_n 2, 1) := by decide +kernel
theorem dX9_wordOrName_2 : decode cX9_wordOrName 2 = .ok (.iload_n 3, 1) := by decide +kernel
theorem dX9_wordOrName_3 : decode cX9_wordOrName 3 = .ok (.ldc 70, 2) := by decide +kernel
theorem dX9_wordOrName_5 : decode cX9_wordOrName 5 = .ok (.invokevirtual 72, 3) := by decide +kernel
theorem dX9_wordOrName_8 : decode cX9_wordOrName 8 = .ok (.ifCond .eq 7, 3) := by decide +kernel
theorem dX9_wordOrName_11 : decode cX9_wordOrName 11 = .ok (.sipush 132, 3) := by decide +kernel
theorem dX9_wordOrName_14 : decode cX9_wordOrName 14 = .ok (.ireturn, 1) := by decide +kernel
theorem dX9_wordOrName_15 : decode cX9_wordOrName 15 = .ok (.aload_n 1, 1) := by decide +kernel
theorem dX9_wordOrName_16 : decode cX9_wordOrName 16 = .ok (.iload_n 2, 1) := by decide +kernel
theorem dX9_wordOrName_17 : decode cX9_wordOrName 17 = .ok (.iload_n 3, 1) := by decide +kernel
theorem dX9_wordOrName_18 : decode cX9_wordOrName 18 = .ok (.ldc 76, 2) := by decide +kernel
theorem dX9_wordOrName_20 : decode cX9_wordOrName 20 = .ok (.invokevirtual 72, 3) := by decide +kernel
theorem dX9_wordOrName_23 : decode cX9_wordOrName 23 = .ok (.ifCond .eq 7, 3) := by decide +kernel
theorem dX9_wordOrName_26 : decode cX9_wordOrName 26 = .ok (.sipush 133, 3) := by decide +kernel
theorem dX9_wordOrName_29 : decode cX9_wordOrName 29 = .ok (.ireturn, 1) := by decide +kernel
theorem dX9_wordOrName_30 : decode cX9_wordOrName 30 = .ok (.aload_n 1, 1) := by decide +kernel
theorem dX9_wordOrName_31 : decode cX9_wordOrName 31 = .ok (.iload_n 2, 1) := by decide +kernel
theorem dX9_wordOrName_32 : decode cX9_wordOrName 32 = .ok (.iload_n 3, 1) := by decide +kernel
theorem dX9_wordOrName_33 : decode cX9_wordOrName 33 = .ok (.ldc 78, 2) := by decide +kernel
theorem dX9_wordOrName_35 : decode cX9_wordOrName 35 = .ok (.invokevirtual 72, 3) := by decide +kernel
theorem dX9_wordOrName_38 : decode cX9_wordOrName 38 = .ok (.ifCond .eq 7, 3) := by decide +kernel
theorem dX9_wordOrName_41 : decode cX9_wordOrName 41 = .ok (.sipush 134, 3) := by decide +kernel
theorem dX9_wordOrName_44 : decode cX9_wordOrName 44 = .ok (.ireturn, 1) := by decide +kernel
theorem dX9_wordOrName_45 : decode cX9_wordOrName 45 = .ok (.aload_n 1, 1) := by decide +kernel
theorem dX9_wordOrName_46 : decode cX9_wordOrName 46 = .ok (.iload_n 2, 1) := by decide +kernel
theorem dX9_wordOrName_47 : decode cX9_wordOrName 47 = .ok (.iload_n 3, 1) := by decide +kernel
theorem dX9_wordOrName_48 : decode cX9_wordOrName 48 = .ok (.ldc 80, 2) := by decide +kernel
theorem dX9_wordOrName_50 : decode cX9_wordOrName 50 = .ok (.invokevirtual 72, 3) := by decide +kernel
theorem dX9_wordOrName_53 : decode cX9_wordOrName 53 = .ok (.ifCond .eq 7, 3) := by decide +kernel
theorem dX9_wordOrName_56 : decode cX9_wordOrName 56 = .ok (.sipush 135, 3) := by decide +kernel
theorem dX9_wordOrName_59 : decode cX9_wordOrName 59 = .ok (.ireturn, 1) := by decide +kernel
theorem dX9_wordOrName_60 : decode cX9_wordOrName 60 = .ok (.aload_n 1, 1) := by decide +kernel
theorem dX9_wordOrName_61 : decode cX9_wordOrName 61 = .ok (.iload_n 2, 1) := by decide +kernel
theorem dX9_wordOrName_62 : decode cX9_wordOrName 62 = .ok (.iload_n 3, 1) := by decide +kernel
theorem dX9_wordOrName_63 : decode cX9_wordOrName 63 = .ok (.ldc 82, 2) := by decide +kernel
theorem dX9_wordOrName_65 : decode cX9_wordOrName 65 = .ok (.invokevirtual 72, 3) := by decide +kernel
theorem dX9_wordOrName_68 : decode cX9_wordOrName 68 = .ok (.ifCond .eq 7, 3) := by decide +kernel
theorem dX9_wordOrName_71 : decode cX9_wordOrName 71 = .ok (.sipush 136, 3) := by decide +kernel
theorem dX9_wordOrName_74 : decode cX9_wordOrName 74 = .ok (.ireturn, 1) := by decide +kernel
theorem dX9_wordOrName_75 : decode cX9_wordOrName 75 = .ok (.aload_n 1, 1) := by decide +kernel
theorem dX9_wordOrName_76 : decode cX9_wordOrName 76 = .ok (.iload_n 2, 1) := by decide +kernel
theorem dX9_wordOrName_77 : decode cX9_wordOrName 77 = .ok (.iload_n 3, 1) := by decide +kernel
theorem dX9_wordOrName_78 : decode cX9_wordOrName 78 = .ok (.ldc 84, 2) := by decide +kernel
theorem dX9_wordOrName_80 : decode cX9_wordOrName 80 = .ok (.invokevirtual 72, 3) := by decide +kernel
theorem dX9_wordOrName_83 : decode cX9_wordOrName 83 = .ok (.ifCond .eq 7, 3) := by decide +kernel
theorem dX9_wordOrName_86 : decode cX9_wordOrName 86 = .ok (.sipush 137, 3) := by decide +kernel
theorem dX9_wordOrName_89 : decode cX9_wordOrName 89 = .ok (.ireturn, 1) := by decide +kernel
theorem dX9_wordOrName_90 : decode cX9_wordOrName 90 = .ok (.aload_n 1, 1) := by decide +kernel
theorem dX9_wordOrName_91 : decode cX9_wordOrName 91 = .ok (.iload_n 2, 1) := by decide +kernel
theorem dX9_wordOrName_92 : decode cX9_wordOrName 92 = .ok (.iload_n 3, 1) := by decide +kernel
theorem dX9_wordOrName_93 : decode cX9_wordOrName 93 = .ok (.ldc 86, 2) := by decide +kernel
theorem dX9_wordOrName_95 : decode cX9_wordOrName 95 = .ok (.invokevirtual 72, 3) := by decide +kernel
theorem dX9_wordOrName_98 : decode cX9_wordOrName 98 = .ok (.ifCond .eq 7, 3) := by decide +kernel
theorem dX9_wordOrName_101 : decode cX9_wordOrName 101 = .ok (.sipush 138, 3) := by decide +kernel
theorem dX9_wordOrName_104 : decode cX9_wordOrName 104 = .ok (.ireturn, 1) := by decide +kernel
theorem dX9_wordOrName_105 : decode cX9_wordOrName 105 = .ok (.aload_n 1, 1) := by decide +kernel
theorem dX9_wordOrName_106 : decode cX9_wordOrName 106 = .ok (.iload_n 2, 1) := by decide +kernel
theorem dX9_wordOrName_107 : decode cX9_wordOrName 107 = .ok (.iload_n 3, 1) := by decide +kernel
theorem dX9_wordOrName_108 : decode cX9_wordOrName 108 = .ok (.ldc 88, 2) := by decide +kernel
theorem dX9_wordOrName_110 : decode cX9_wordOrName 110 = .ok (.invokevirtual 72, 3) := by decide +kernel
theorem dX9_wordOrName_113 : decode cX9_wordOrName 113 = .ok (.ifCond .eq 7, 3) := by decide +kernel
theorem dX9_wordOrName_116 : decode cX9_wordOrName 116 = .ok (.sipush 139, 3) := by decide +kernel
theorem dX9_wordOrName_119 : decode cX9_wordOrName 119 = .ok (.ireturn, 1) := by decide +kernel
theorem dX9_wordOrName_120 : decode cX9_wordOrName 120 = .ok (.aload_n 1, 1) := by decide +kernel
theorem dX9_wordOrName_121 : decode cX9_wordOrName 121 = .ok (.iload_n 2, 1) := by decide +kernel
theorem dX9_wordOrName_122 : decode cX9_wordOrName 122 = .ok (.iload_n 3, 1) := by decide +kernel
theorem dX9_wordOrName_123 : decode cX9_wordOrName 123 = .ok (.ldc 90, 2) := by decide +kernel
theorem dX9_wordOrName_125 : decode cX9_wordOrName 125 = .ok (.invokevirtual 72, 3) := by decide +kernel
theorem dX9_wordOrName_128 : decode cX9_wordOrName 128 = .ok (.ifCond .eq 7, 3) := by decide +kernel
theorem dX9_wordOrName_131 : decode cX9_wordOrName 131 = .ok (.sipush 140, 3) := by decide +kernel
theorem dX9_wordOrName_134 : decode cX9_wordOrName 134 = .ok (.ireturn, 1) := by decide +kernel
theorem dX9_wordOrName_135 : decode cX9_wordOrName 135 = .ok (.sipush 128, 3) := by decide +kernel
theorem dX9_wordOrName_138 : decode cX9_wordOrName 138 = .ok (.ireturn, 1) := by decide +kernel
