theorem dX11_fails_53 : decode cX11_fails 53 = .ok (.getfield 352, 3) := by decide +kernel
theorem dX11_fails_56 : decode cX11_fails 56 = .ok (.iaload, 1) := by decide +kernel
theorem dX11_fails_57 : decode cX11_fails 57 = .ok (.iconst 2, 1) := by decide +kernel
theorem dX11_fails_58 : decode cX11_fails 58 = .ok (.iastore, 1) := by decide +kernel
theorem dX11_fails_59 : decode cX11_fails 59 = .ok (.aload_n 0, 1) := by decide +kernel
theorem dX11_fails_60 : decode cX11_fails 60 = .ok (.aload_n 0, 1) := by decide +kernel
theorem dX11_fails_61 : decode cX11_fails 61 = .ok (.getfield 153, 3) := by decide +kernel
theorem dX11_fails_64 : decode cX11_fails 64 = .ok (.aload_n 0, 1) := by decide +kernel
theorem dX11_fails_65 : decode cX11_fails 65 = .ok (.getfield 352, 3) := by decide +kernel
theorem dX11_fails_68 : decode cX11_fails 68 = .ok (.iaload, 1) := by decide +kernel
theorem dX11_fails_69 : decode cX11_fails 69 = .ok (.sipush 200, 3) := by decide +kernel
theorem dX11_fails_72 : decode cX11_fails 72 = .ok (.invokevirtual 355, 3) := by decide +kernel
theorem dX11_fails_75 : decode cX11_fails 75 = .ok (.goto (-60), 3) := by decide +kernel
theorem dX11_fails_78 : decode cX11_fails 78 = .ok (.aload_n 0, 1) := by decide +kernel
theorem dX11_fails_79 : decode cX11_fails 79 = .ok (.iconst 0, 1) := by decide +kernel
theorem dX11_fails_80 : decode cX11_fails 80 = .ok (.putfield 368, 3) := by decide +kernel
theorem dX11_fails_83 : decode cX11_fails 83 = .ok (.return_, 1) := by decide +kernel
theorem dX11_work_0 : decode cX11_work 0 = .ok (.aload_n 0, 1) := by decide +kernel
theorem dX11_work_1 : decode cX11_work 1 = .ok (.getfield 352, 3) := by decide +kernel
theorem dX11_work_4 : decode cX11_work 4 = .ok (.ifCond .le 124, 3) := by decide +kernel
theorem dX11_work_7 : decode cX11_work 7 = .ok (.aload_n 0, 1) := by decide +kernel
theorem dX11_work_8 : decode cX11_work 8 = .ok (.getfield 352, 3) := by decide +kernel
theorem dX11_work_11 : decode cX11_work 11 = .ok (.iconst 1, 1) := by decide +kernel
theorem dX11_work_12 : decode cX11_work 12 = .ok (.isub, 1) := by decide +kernel
theorem dX11_work_13 : decode cX11_work 13 = .ok (.istore_n 1, 1) := by decide +kernel
theorem dX11_work_14 : decode cX11_work 14 = .ok (.aload_n 0, 1) := by decide +kernel
theorem dX11_work_15 : decode cX11_work 15 = .ok (.getfield 159, 3) := by decide +kernel
theorem dX11_work_18 : decode cX11_work 18 = .ok (.iload_n 1, 1) := by decide +kernel
theorem dX11_work_19 : decode cX11_work 19 = .ok (.iaload, 1) := by decide +kernel
theorem dX11_work_20 : decode cX11_work 20 = .ok (.ifCond .ge 16, 3) := by decide +kernel
theorem dX11_work_23 : decode cX11_work 23 = .ok (.aload_n 0, 1) := by decide +kernel
theorem dX11_work_24 : decode cX11_work 24 = .ok (.aload_n 0, 1) := by decide +kernel
theorem dX11_work_25 : decode cX11_work 25 = .ok (.getfield 153, 3) := by decide +kernel
theorem dX11_work_28 : decode cX11_work 28 = .ok (.iload_n 1, 1) := by decide +kernel
theorem dX11_work_29 : decode cX11_work 29 = .ok (.iaload, 1) := by decide +kernel
theorem dX11_work_30 : decode cX11_work 30 = .ok (.invokevirtual 371, 3) := by decide +kernel
theorem dX11_work_33 : decode cX11_work 33 = .ok (.goto 92, 3) := by decide +kernel
theorem dX11_work_36 : decode cX11_work 36 = .ok (.aload_n 0, 1) := by decide +kernel
theorem dX11_work_37 : decode cX11_work 37 = .ok (.getfield 159, 3) := by decide +kernel
theorem dX11_work_40 : decode cX11_work 40 = .ok (.iload_n 1, 1) := by decide +kernel
theorem dX11_work_41 : decode cX11_work 41 = .ok (.iaload, 1) := by decide +kernel
theorem dX11_work_42 : decode cX11_work 42 = .ok (.aload_n 0, 1) := by decide +kernel
theorem dX11_work_43 : decode cX11_work 43 = .ok (.getfield 162, 3) := by decide +kernel
theorem dX11_work_46 : decode cX11_work 46 = .ok (.iload_n 1, 1) := by decide +kernel
theorem dX11_work_47 : decode cX11_work 47 = .ok (.iaload, 1) := by decide +kernel
theorem dX11_work_48 : decode cX11_work 48 = .ok (.if_icmp .ge 26, 3) := by decide +kernel
theorem dX11_work_51 : decode cX11_work 51 = .ok (.aload_n 0, 1) := by decide +kernel
theorem dX11_work_52 : decode cX11_work 52 = .ok (.iload_n 1, 1) := by decide +kernel
theorem dX11_work_53 : decode cX11_work 53 = .ok (.sipush 2100, 3) := by decide +kernel
theorem dX11_work_56 : decode cX11_work 56 = .ok (.aload_n 0, 1) := by decide +kernel
theorem dX11_work_57 : decode cX11_work 57 = .ok (.getfield 334, 3) := by decide +kernel
theorem dX11_work_60 : decode cX11_work 60 = .ok (.imul, 1) := by decide +kernel
theorem dX11_work_61 : decode cX11_work 61 = .ok (.aload_n 0, 1) := by decide +kernel
theorem dX11_work_62 : decode cX11_work 62 = .ok (.getfield 159, 3) := by decide +kernel
theorem dX11_work_65 : decode cX11_work 65 = .ok (.iload_n 1, 1) := by decide +kernel
theorem dX11_work_66 : decode cX11_work 66 = .ok (.iaload, 1) := by decide +kernel
theorem dX11_work_67 : decode cX11_work 67 = .ok (.iadd, 1) := by decide +kernel
theorem dX11_work_68 : decode cX11_work 68 = .ok (.invokevirtual 374, 3) := by decide +kernel
theorem dX11_work_71 : decode cX11_work 71 = .ok (.goto 54, 3) := by decide +kernel
theorem dX11_work_74 : decode cX11_work 74 = .ok (.aload_n 0, 1) := by decide +kernel
theorem dX11_work_75 : decode cX11_work 75 = .ok (.dup, 1) := by decide +kernel
theorem dX11_work_76 : decode cX11_work 76 = .ok (.getfield 352, 3) := by decide +kernel
theorem dX11_work_79 : decode cX11_work 79 = .ok (.iconst 1, 1) := by decide +kernel
theorem dX11_work_80 : decode cX11_work 80 = .ok (.isub, 1) := by decide +kernel
theorem dX11_work_81 : decode cX11_work 81 = .ok (.putfield 352, 3) := by decide +kernel
theorem dX11_work_84 : decode cX11_work 84 = .ok (.aload_n 0, 1) := by decide +kernel
theorem dX11_work_85 : decode cX11_work 85 = .ok (.getfield 352, 3) := by decide +kernel
theorem dX11_work_88 : decode cX11_work 88 = .ok (.ifCond .le 37, 3) := by decide +kernel
theorem dX11_work_91 : decode cX11_work 91 = .ok (.aload_n 0, 1) := by decide +kernel
theorem dX11_work_92 : decode cX11_work 92 = .ok (.dup, 1) := by decide +kernel
theorem dX11_work_93 : decode cX11_work 93 = .ok (.getfield 368, 3) := by decide +kernel
theorem dX11_work_96 : decode cX11_work 96 = .ok (.iconst 1, 1) := by decide +kernel
theorem dX11_work_97 : decode cX11_work 97 = .ok (.isub, 1) := by decide +kernel
theorem dX11_work_98 : decode cX11_work 98 = .ok (.putfield 368, 3) := by decide +kernel
theorem dX11_work_101 : decode cX11_work 101 = .ok (.aload_n 0, 1) := by decide +kernel
theorem dX11_work_102 : decode cX11_work 102 = .ok (.aload_n 0, 1) := by decide +kernel
theorem dX11_work_103 : decode cX11_work 103 = .ok (.getfield 153, 3) := by decide +kernel
theorem dX11_work_106 : decode cX11_work 106 = .ok (.aload_n 0, 1) := by decide +kernel
theorem dX11_work_107 : decode cX11_work 107 = .ok (.getfield 352, 3) := by decide +kernel
theorem dX11_work_110 : decode cX11_work 110 = .ok (.iconst 1, 1) := by decide +kernel
theorem dX11_work_111 : decode cX11_work 111 = .ok (.isub, 1) := by decide +kernel
theorem dX11_work_112 : decode cX11_work 112 = .ok (.iaload, 1) := by decide +kernel
theorem dX11_work_113 : decode cX11_work 113 = .ok (.aload_n 0, 1) := by decide +kernel
theorem dX11_work_114 : decode cX11_work 114 = .ok (.getfield 165, 3) := by decide +kernel
theorem dX11_work_117 : decode cX11_work 117 = .ok (.aload_n 0, 1) := by decide +kernel
theorem dX11_work_118 : decode cX11_work 118 = .ok (.getfield 368, 3) := by decide +kernel
theorem dX11_work_121 : decode cX11_work 121 = .ok (.iaload, 1) := by decide +kernel
theorem dX11_work_122 : decode cX11_work 122 = .ok (.invokevirtual 377, 3) := by decide +kernel
theorem dX11_work_125 : decode cX11_work 125 = .ok (.goto (-125), 3) := by decide +kernel
theorem dX11_work_128 : decode cX11_work 128 = .ok (.return_, 1) := by decide +kernel
theorem dX11_goOn_0 : decode cX11_goOn 0 = .ok (.bipush 8, 2) := by decide +kernel
theorem dX11_goOn_2 : decode cX11_goOn 2 = .ok (.aload_n 0, 1) := by decide +kernel
theorem dX11_goOn_3 : decode cX11_goOn 3 = .ok (.getfield 334, 3) := by decide +kernel
theorem dX11_goOn_6 : decode cX11_goOn 6 = .ok (.imul, 1) := by decide +kernel
theorem dX11_goOn_7 : decode cX11_goOn 7 = .ok (.iload_n 1, 1) := by decide +kernel
theorem dX11_goOn_8 : decode cX11_goOn 8 = .ok (.iadd, 1) := by decide +kernel
theorem dX11_goOn_9 : decode cX11_goOn 9 = .ok (.istore_n 2, 1) := by decide +kernel
theorem dX11_goOn_10 : decode cX11_goOn 10 = .ok (.aload_n 0, 1) := by decide +kernel
theorem dX11_goOn_11 : decode cX11_goOn 11 = .ok (.getfield 147, 3) := by decide +kernel
theorem dX11_goOn_14 : decode cX11_goOn 14 = .ok (.iload_n 1, 1) := by decide +kernel
theorem dX11_goOn_15 : decode cX11_goOn 15 = .ok (.iaload, 1) := by decide +kernel
theorem dX11_goOn_16 : decode cX11_goOn 16 = .ok (.istore_n 3, 1) := by decide +kernel
theorem dX11_goOn_17 : decode cX11_goOn 17 = .ok (.iload_n 3, 1) := by decide +kernel
theorem dX11_goOn_18 : decode cX11_goOn 18 = .ok (.aload_n 0, 1) := by decide +kernel
theorem dX11_goOn_19 : decode cX11_goOn 19 = .ok (.getfield 25, 3) := by decide +kernel
theorem dX11_goOn_22 : decode cX11_goOn 22 = .ok (.iload_n 2, 1) := by decide +kernel
theorem dX11_goOn_23 : decode cX11_goOn 23 = .ok (.iaload, 1) := by decide +kernel
theorem dX11_goOn_24 : decode cX11_goOn 24 = .ok (.if_icmp .ge 42, 3) := by decide +kernel
theorem dX11_goOn_27 : decode cX11_goOn 27 = .ok (.aload_n 0, 1) := by decide +kernel
theorem dX11_goOn_28 : decode cX11_goOn 28 = .ok (.getfield 34, 3) := by decide +kernel
theorem dX11_goOn_31 : decode cX11_goOn 31 = .ok (.iload_n 2, 1) := by decide +kernel
theorem dX11_goOn_32 : decode cX11_goOn 32 = .ok (.iaload, 1) := by decide +kernel
theorem dX11_goOn_33 : decode cX11_goOn 33 = .ok (.ifCond .ge 12, 3) := by decide +kernel
theorem dX11_goOn_36 : decode cX11_goOn 36 = .ok (.aload_n 0, 1) := by decide +kernel
theorem dX11_goOn_37 : decode cX11_goOn 37 = .ok (.iload_n 1, 1) := by decide +kernel
theorem dX11_goOn_38 : decode cX11_goOn 38 = .ok (.iconst 0, 1) := by decide +kernel
theorem dX11_goOn_39 : decode cX11_goOn 39 = .ok (.invokevirtual 377, 3) := by decide +kernel
theorem dX11_goOn_42 : decode cX11_goOn 42 = .ok (.goto 126, 3) := by decide +kernel
theorem dX11_goOn_45 : decode cX11_goOn 45 = .ok (.aload_n 0, 1) := by decide +kernel
theorem dX11_goOn_46 : decode cX11_goOn 46 = .ok (.iload_n 1, 1) := by decide +kernel
theorem dX11_goOn_47 : decode cX11_goOn 47 = .ok (.iload_n 3, 1) := by decide +kernel
theorem dX11_goOn_48 : decode cX11_goOn 48 = .ok (.aload_n 0, 1) := by decide +kernel
theorem dX11_goOn_49 : decode cX11_goOn 49 = .ok (.getfield 34, 3) := by decide +kernel
theorem dX11_goOn_52 : decode cX11_goOn 52 = .ok (.iload_n 2, 1) := by decide +kernel
theorem dX11_goOn_53 : decode cX11_goOn 53 = .ok (.iaload, 1) := by decide +kernel
theorem dX11_goOn_54 : decode cX11_goOn 54 = .ok (.aload_n 0, 1) := by decide +kernel
theorem dX11_goOn_55 : decode cX11_goOn 55 = .ok (.getfield 37, 3) := by decide +kernel
theorem dX11_goOn_58 : decode cX11_goOn 58 = .ok (.iload_n 2, 1) := by decide +kernel
theorem dX11_goOn_59 : decode cX11_goOn 59 = .ok (.iaload, 1) := by decide +kernel
theorem dX11_goOn_60 : decode cX11_goOn 60 = .ok (.invokevirtual 358, 3) := by decide +kernel
theorem dX11_goOn_63 : decode cX11_goOn 63 = .ok (.goto 105, 3) := by decide +kernel
theorem dX11_goOn_66 : decode cX11_goOn 66 = .ok (.iload_n 3, 1) := by decide +kernel
theorem dX11_goOn_67 : decode cX11_goOn 67 = .ok (.aload_n 0, 1) := by decide +kernel
theorem dX11_goOn_68 : decode cX11_goOn 68 = .ok (.getfield 25, 3) := by decide +kernel
theorem dX11_goOn_71 : decode cX11_goOn 71 = .ok (.iload_n 2, 1) := by decide +kernel
theorem dX11_goOn_72 : decode cX11_goOn 72 = .ok (.iaload, 1) := by decide +kernel
theorem dX11_goOn_73 : decode cX11_goOn 73 = .ok (.aload_n 0, 1) := by decide +kernel
theorem dX11_goOn_74 : decode cX11_goOn 74 = .ok (.getfield 31, 3) := by decide +kernel
theorem dX11_goOn_77 : decode cX11_goOn 77 = .ok (.iload_n 2, 1) := by decide +kernel
theorem dX11_goOn_78 : decode cX11_goOn 78 = .ok (.iaload, 1) := by decide +kernel
theorem dX11_goOn_79 : decode cX11_goOn 79 = .ok (.iadd, 1) := by decide +kernel
theorem dX11_goOn_80 : decode cX11_goOn 80 = .ok (.if_icmp .ge 64, 3) := by decide +kernel
theorem dX11_goOn_83 : decode cX11_goOn 83 = .ok (.bipush 6, 2) := by decide +kernel
theorem dX11_goOn_85 : decode cX11_goOn 85 = .ok (.iload_n 2, 1) := by decide +kernel
theorem dX11_goOn_86 : decode cX11_goOn 86 = .ok (.imul, 1) := by decide +kernel
theorem dX11_goOn_87 : decode cX11_goOn 87 = .ok (.iload_n 3, 1) := by decide +kernel
theorem dX11_goOn_88 : decode cX11_goOn 88 = .ok (.iadd, 1) := by decide +kernel
theorem dX11_goOn_89 : decode cX11_goOn 89 = .ok (.aload_n 0, 1) := by decide +kernel
theorem dX11_goOn_90 : decode cX11_goOn 90 = .ok (.getfield 25, 3) := by decide +kernel
theorem dX11_goOn_93 : decode cX11_goOn 93 = .ok (.iload_n 2, 1) := by decide +kernel
theorem dX11_goOn_94 : decode cX11_goOn 94 = .ok (.iaload, 1) := by decide +kernel
theorem dX11_goOn_95 : decode cX11_goOn 95 = .ok (.isub, 1) := by decide +kernel
theorem dX11_goOn_96 : decode cX11_goOn 96 = .ok (.istore 4, 2) := by decide +kernel
theorem dX11_goOn_98 : decode cX11_goOn 98 = .ok (.aload_n 0, 1) := by decide +kernel
theorem dX11_goOn_99 : decode cX11_goOn 99 = .ok (.getfield 73, 3) := by decide +kernel
theorem dX11_goOn_102 : decode cX11_goOn 102 = .ok (.iload 4, 2) := by decide +kernel
theorem dX11_goOn_104 : decode cX11_goOn 104 = .ok (.iaload, 1) := by decide +kernel
theorem dX11_goOn_105 : decode cX11_goOn 105 = .ok (.ifCond .ge 16, 3) := by decide +kernel
theorem dX11_goOn_108 : decode cX11_goOn 108 = .ok (.aload_n 0, 1) := by decide +kernel
theorem dX11_goOn_109 : decode cX11_goOn 109 = .ok (.getfield 147, 3) := by decide +kernel
theorem dX11_goOn_112 : decode cX11_goOn 112 = .ok (.iload_n 1, 1) := by decide +kernel
theorem dX11_goOn_113 : decode cX11_goOn 113 = .ok (.dup2, 1) := by decide +kernel
theorem dX11_goOn_114 : decode cX11_goOn 114 = .ok (.iaload, 1) := by decide +kernel
theorem dX11_goOn_115 : decode cX11_goOn 115 = .ok (.iconst 1, 1) := by decide +kernel
theorem dX11_goOn_116 : decode cX11_goOn 116 = .ok (.iadd, 1) := by decide +kernel
theorem dX11_goOn_117 : decode cX11_goOn 117 = .ok (.iastore, 1) := by decide +kernel
theorem dX11_goOn_118 : decode cX11_goOn 118 = .ok (.goto 23, 3) := by decide +kernel
theorem dX11_goOn_121 : decode cX11_goOn 121 = .ok (.aload_n 0, 1) := by decide +kernel
theorem dX11_goOn_122 : decode cX11_goOn 122 = .ok (.iload_n 1, 1) := by decide +kernel
theorem dX11_goOn_123 : decode cX11_goOn 123 = .ok (.iconst 0, 1) := by decide +kernel
theorem dX11_goOn_124 : decode cX11_goOn 124 = .ok (.aload_n 0, 1) := by decide +kernel
theorem dX11_goOn_125 : decode cX11_goOn 125 = .ok (.getfield 73, 3) := by decide +kernel
theorem dX11_goOn_128 : decode cX11_goOn 128 = .ok (.iload 4, 2) := by decide +kernel
theorem dX11_goOn_130 : decode cX11_goOn 130 = .ok (.iaload, 1) := by decide +kernel
theorem dX11_goOn_131 : decode cX11_goOn 131 = .ok (.aload_n 0, 1) := by decide +kernel
theorem dX11_goOn_132 : decode cX11_goOn 132 = .ok (.getfield 76, 3) := by decide +kernel
theorem dX11_goOn_135 : decode cX11_goOn 135 = .ok (.iload 4, 2) := by decide +kernel
theorem dX11_goOn_137 : decode cX11_goOn 137 = .ok (.iaload, 1) := by decide +kernel
theorem dX11_goOn_138 : decode cX11_goOn 138 = .ok (.invokevirtual 358, 3) := by decide +kernel
theorem dX11_goOn_141 : decode cX11_goOn 141 = .ok (.goto 27, 3) := by decide +kernel
theorem dX11_goOn_144 : decode cX11_goOn 144 = .ok (.aload_n 0, 1) := by decide +kernel
theorem dX11_goOn_145 : decode cX11_goOn 145 = .ok (.getfield 138, 3) := by decide +kernel
theorem dX11_goOn_148 : decode cX11_goOn 148 = .ok (.iload_n 1, 1) := by decide +kernel
theorem dX11_goOn_149 : decode cX11_goOn 149 = .ok (.iconst 1, 1) := by decide +kernel
theorem dX11_goOn_150 : decode cX11_goOn 150 = .ok (.iastore, 1) := by decide +kernel
theorem dX11_goOn_151 : decode cX11_goOn 151 = .ok (.aload_n 0, 1) := by decide +kernel
theorem dX11_goOn_152 : decode cX11_goOn 152 = .ok (.iload_n 1, 1) := by decide +kernel
theorem dX11_goOn_153 : decode cX11_goOn 153 = .ok (.bipush 100, 2) := by decide +kernel
theorem dX11_goOn_155 : decode cX11_goOn 155 = .ok (.invokevirtual 355, 3) := by decide +kernel
theorem dX11_goOn_158 : decode cX11_goOn 158 = .ok (.aload_n 0, 1) := by decide +kernel
theorem dX11_goOn_159 : decode cX11_goOn 159 = .ok (.dup, 1) := by decide +kernel
theorem dX11_goOn_160 : decode cX11_goOn 160 = .ok (.getfield 352, 3) := by decide +kernel
theorem dX11_goOn_163 : decode cX11_goOn 163 = .ok (.iconst 1, 1) := by decide +kernel
theorem dX11_goOn_164 : decode cX11_goOn 164 = .ok (.isub, 1) := by decide +kernel
theorem dX11_goOn_165 : decode cX11_goOn 165 = .ok (.putfield 352, 3) := by decide +kernel
theorem dX11_goOn_168 : decode cX11_goOn 168 = .ok (.return_, 1) := by decide +kernel
theorem dX11_made_0 : decode cX11_made 0 = .ok (.aload_n 0, 1) := by decide +kernel
theorem dX11_made_1 : decode cX11_made 1 = .ok (.getfield 25, 3) := by decide +kernel
theorem dX11_made_4 : decode cX11_made 4 = .ok (.bipush 8, 2) := by decide +kernel
theorem dX11_made_6 : decode cX11_made 6 = .ok (.aload_n 0, 1) := by decide +kernel
theorem dX11_made_7 : decode cX11_made 7 = .ok (.getfield 334, 3) := by decide +kernel
theorem dX11_made_10 : decode cX11_made 10 = .ok (.imul, 1) := by decide +kernel
theorem dX11_made_11 : decode cX11_made 11 = .ok (.iload_n 1, 1) := by decide +kernel
theorem dX11_made_12 : decode cX11_made 12 = .ok (.iadd, 1) := by decide +kernel
theorem dX11_made_13 : decode cX11_made 13 = .ok (.iaload, 1) := by decide +kernel
theorem dX11_made_14 : decode cX11_made 14 = .ok (.istore_n 3, 1) := by decide +kernel
theorem dX11_made_15 : decode cX11_made 15 = .ok (.aload_n 0, 1) := by decide +kernel
theorem dX11_made_16 : decode cX11_made 16 = .ok (.getfield 147, 3) := by decide +kernel
theorem dX11_made_19 : decode cX11_made 19 = .ok (.iload_n 1, 1) := by decide +kernel
theorem dX11_made_20 : decode cX11_made 20 = .ok (.iaload, 1) := by decide +kernel
theorem dX11_made_21 : decode cX11_made 21 = .ok (.iload_n 3, 1) := by decide +kernel
theorem dX11_made_22 : decode cX11_made 22 = .ok (.if_icmp .ge 36, 3) := by decide +kernel
theorem dX11_made_25 : decode cX11_made 25 = .ok (.aload_n 0, 1) := by decide +kernel
theorem dX11_made_26 : decode cX11_made 26 = .ok (.getfield 141, 3) := by decide +kernel
theorem dX11_made_29 : decode cX11_made 29 = .ok (.bipush 12, 2) := by decide +kernel
theorem dX11_made_31 : decode cX11_made 31 = .ok (.iload_n 1, 1) := by decide +kernel
theorem dX11_made_32 : decode cX11_made 32 = .ok (.imul, 1) := by decide +kernel
theorem dX11_made_33 : decode cX11_made 33 = .ok (.aload_n 0, 1) := by decide +kernel
theorem dX11_made_34 : decode cX11_made 34 = .ok (.getfield 147, 3) := by decide +kernel
theorem dX11_made_37 : decode cX11_made 37 = .ok (.iload_n 1, 1) := by decide +kernel
theorem dX11_made_38 : decode cX11_made 38 = .ok (.iaload, 1) := by decide +kernel
theorem dX11_made_39 : decode cX11_made 39 = .ok (.iadd, 1) := by decide +kernel
theorem dX11_made_40 : decode cX11_made 40 = .ok (.iload_n 2, 1) := by decide +kernel
theorem dX11_made_41 : decode cX11_made 41 = .ok (.iastore, 1) := by decide +kernel
theorem dX11_made_42 : decode cX11_made 42 = .ok (.aload_n 0, 1) := by decide +kernel
theorem dX11_made_43 : decode cX11_made 43 = .ok (.iload_n 1, 1) := by decide +kernel
theorem dX11_made_44 : decode cX11_made 44 = .ok (.iconst 1, 1) := by decide +kernel
theorem dX11_made_45 : decode cX11_made 45 = .ok (.aload_n 0, 1) := by decide +kernel
theorem dX11_made_46 : decode cX11_made 46 = .ok (.getfield 147, 3) := by decide +kernel
theorem dX11_made_49 : decode cX11_made 49 = .ok (.iload_n 1, 1) := by decide +kernel
theorem dX11_made_50 : decode cX11_made 50 = .ok (.iaload, 1) := by decide +kernel
theorem dX11_made_51 : decode cX11_made 51 = .ok (.iadd, 1) := by decide +kernel
theorem dX11_made_52 : decode cX11_made 52 = .ok (.invokevirtual 355, 3) := by decide +kernel
theorem dX11_made_55 : decode cX11_made 55 = .ok (.goto 22, 3) := by decide +kernel
theorem dX11_made_58 : decode cX11_made 58 = .ok (.aload_n 0, 1) := by decide +kernel
theorem dX11_made_59 : decode cX11_made 59 = .ok (.getfield 144, 3) := by decide +kernel
theorem dX11_made_62 : decode cX11_made 62 = .ok (.bipush 6, 2) := by decide +kernel
theorem dX11_made_64 : decode cX11_made 64 = .ok (.iload_n 1, 1) := by decide +kernel
theorem dX11_made_65 : decode cX11_made 65 = .ok (.imul, 1) := by decide +kernel
theorem dX11_made_66 : decode cX11_made 66 = .ok (.aload_n 0, 1) := by decide +kernel
theorem dX11_made_67 : decode cX11_made 67 = .ok (.getfield 147, 3) := by decide +kernel
theorem dX11_made_70 : decode cX11_made 70 = .ok (.iload_n 1, 1) := by decide +kernel
theorem dX11_made_71 : decode cX11_made 71 = .ok (.iaload, 1) := by decide +kernel
theorem dX11_made_72 : decode cX11_made 72 = .ok (.iadd, 1) := by decide +kernel
theorem dX11_made_73 : decode cX11_made 73 = .ok (.iload_n 3, 1) := by decide +kernel
theorem dX11_made_74 : decode cX11_made 74 = .ok (.isub, 1) := by decide +kernel
theorem dX11_made_75 : decode cX11_made 75 = .ok (.iload_n 2, 1) := by decide +kernel
theorem dX11_made_76 : decode cX11_made 76 = .ok (.iastore, 1) := by decide +kernel
theorem dX11_made_77 : decode cX11_made 77 = .ok (.aload_n 0, 1) := by decide +kernel
theorem dX11_made_78 : decode cX11_made 78 = .ok (.getfield 147, 3) := by decide +kernel
theorem dX11_made_81 : decode cX11_made 81 = .ok (.iload_n 1, 1) := by decide +kernel
theorem dX11_made_82 : decode cX11_made 82 = .ok (.dup2, 1) := by decide +kernel
theorem dX11_made_83 : decode cX11_made 83 = .ok (.iaload, 1) := by decide +kernel
theorem dX11_made_84 : decode cX11_made 84 = .ok (.iconst 1, 1) := by decide +kernel
theorem dX11_made_85 : decode cX11_made 85 = .ok (.iadd, 1) := by decide +kernel
theorem dX11_made_86 : decode cX11_made 86 = .ok (.iastore, 1) := by decide +kernel
theorem dX11_made_87 : decode cX11_made 87 = .ok (.return_, 1) := by decide +kernel
theorem dX11_push_0 : decode cX11_push 0 = .ok (.aload_n 0, 1) := by decide +kernel
theorem dX11_push_1 : decode cX11_push 1 = .ok (.getfield 165, 3) := by decide +kernel
theorem dX11_push_4 : decode cX11_push 4 = .ok (.aload_n 0, 1) := by decide +kernel
theorem dX11_push_5 : decode cX11_push 5 = .ok (.getfield 368, 3) := by decide +kernel
theorem dX11_push_8 : decode cX11_push 8 = .ok (.iload_n 1, 1) := by decide +kernel
theorem dX11_push_9 : decode cX11_push 9 = .ok (.iastore, 1) := by decide +kernel
theorem dX11_push_10 : decode cX11_push 10 = .ok (.aload_n 0, 1) := by decide +kernel
theorem dX11_push_11 : decode cX11_push 11 = .ok (.dup, 1) := by decide +kernel
theorem dX11_push_12 : decode cX11_push 12 = .ok (.getfield 368, 3) := by decide +kernel
theorem dX11_push_15 : decode cX11_push 15 = .ok (.iconst 1, 1) := by decide +kernel
theorem dX11_push_16 : decode cX11_push 16 = .ok (.iadd, 1) := by decide +kernel
theorem dX11_push_17 : decode cX11_push 17 = .ok (.putfield 368, 3) := by decide +kernel
theorem dX11_push_20 : decode cX11_push 20 = .ok (.return_, 1) := by decide +kernel
theorem dX11_doAct_0 : decode cX11_doAct 0 = .ok (.aload_n 0, 1) := by decide +kernel
theorem dX11_doAct_1 : decode cX11_doAct 1 = .ok (.getfield 153, 3) := by decide +kernel
theorem dX11_doAct_4 : decode cX11_doAct 4 = .ok (.iload_n 1, 1) := by decide +kernel
theorem dX11_doAct_5 : decode cX11_doAct 5 = .ok (.iaload, 1) := by decide +kernel
theorem dX11_doAct_6 : decode cX11_doAct 6 = .ok (.istore_n 3, 1) := by decide +kernel
theorem dX11_doAct_7 : decode cX11_doAct 7 = .ok (.aload_n 0, 1) := by decide +kernel
theorem dX11_doAct_8 : decode cX11_doAct 8 = .ok (.getfield 100, 3) := by decide +kernel
theorem dX11_doAct_11 : decode cX11_doAct 11 = .ok (.iload_n 2, 1) := by decide +kernel
theorem dX11_doAct_12 : decode cX11_doAct 12 = .ok (.iaload, 1) := by decide +kernel
theorem dX11_doAct_13 : decode cX11_doAct 13 = .ok (.tableswitch 393 1 11 #[59, 72, 192, 300, 331, 354, 393, 393, 393, 393, 367], 59) := by decide +kernel
theorem dX11_doAct_72 : decode cX11_doAct 72 = .ok (.aload_n 0, 1) := by decide +kernel
theorem dX11_doAct_73 : decode cX11_doAct 73 = .ok (.aload_n 0, 1) := by decide +kernel
theorem dX11_doAct_74 : decode cX11_doAct 74 = .ok (.getfield 103, 3) := by decide +kernel
theorem dX11_doAct_77 : decode cX11_doAct 77 = .ok (.iload_n 2, 1) := by decide +kernel
theorem dX11_doAct_78 : decode cX11_doAct 78 = .ok (.iaload, 1) := by decide +kernel
theorem dX11_doAct_79 : decode cX11_doAct 79 = .ok (.invokevirtual 380, 3) := by decide +kernel
theorem dX11_doAct_82 : decode cX11_doAct 82 = .ok (.goto 453, 3) := by decide +kernel
theorem dX11_doAct_85 : decode cX11_doAct 85 = .ok (.bipush 6, 2) := by decide +kernel
theorem dX11_doAct_87 : decode cX11_doAct 87 = .ok (.bipush 8, 2) := by decide +kernel
theorem dX11_doAct_89 : decode cX11_doAct 89 = .ok (.aload_n 0, 1) := by decide +kernel
theorem dX11_doAct_90 : decode cX11_doAct 90 = .ok (.getfield 334, 3) := by decide +kernel
theorem dX11_doAct_93 : decode cX11_doAct 93 = .ok (.imul, 1) := by decide +kernel
theorem dX11_doAct_94 : decode cX11_doAct 94 = .ok (.iload_n 3, 1) := by decide +kernel
theorem dX11_doAct_95 : decode cX11_doAct 95 = .ok (.iadd, 1) := by decide +kernel
theorem dX11_doAct_96 : decode cX11_doAct 96 = .ok (.imul, 1) := by decide +kernel
theorem dX11_doAct_97 : decode cX11_doAct 97 = .ok (.aload_n 0, 1) := by decide +kernel
theorem dX11_doAct_98 : decode cX11_doAct 98 = .ok (.getfield 103, 3) := by decide +kernel
theorem dX11_doAct_101 : decode cX11_doAct 101 = .ok (.iload_n 2, 1) := by decide +kernel
theorem dX11_doAct_102 : decode cX11_doAct 102 = .ok (.iaload, 1) := by decide +kernel
theorem dX11_doAct_103 : decode cX11_doAct 103 = .ok (.iadd, 1) := by decide +kernel
theorem dX11_doAct_104 : decode cX11_doAct 104 = .ok (.istore 4, 2) := by decide +kernel
theorem dX11_doAct_106 : decode cX11_doAct 106 = .ok (.aload_n 0, 1) := by decide +kernel
theorem dX11_doAct_107 : decode cX11_doAct 107 = .ok (.getfield 138, 3) := by decide +kernel
theorem dX11_doAct_110 : decode cX11_doAct 110 = .ok (.iload_n 3, 1) := by decide +kernel
theorem dX11_doAct_111 : decode cX11_doAct 111 = .ok (.iaload, 1) := by decide +kernel
theorem dX11_doAct_112 : decode cX11_doAct 112 = .ok (.iconst 3, 1) := by decide +kernel
theorem dX11_doAct_113 : decode cX11_doAct 113 = .ok (.if_icmp .ne 33, 3) := by decide +kernel
theorem dX11_doAct_116 : decode cX11_doAct 116 = .ok (.aload_n 0, 1) := by decide +kernel
theorem dX11_doAct_117 : decode cX11_doAct 117 = .ok (.getfield 147, 3) := by decide +kernel
theorem dX11_doAct_120 : decode cX11_doAct 120 = .ok (.iload_n 3, 1) := by decide +kernel
theorem dX11_doAct_121 : decode cX11_doAct 121 = .ok (.iaload, 1) := by decide +kernel
theorem dX11_doAct_122 : decode cX11_doAct 122 = .ok (.aload_n 0, 1) := by decide +kernel
theorem dX11_doAct_123 : decode cX11_doAct 123 = .ok (.getfield 25, 3) := by decide +kernel
theorem dX11_doAct_126 : decode cX11_doAct 126 = .ok (.bipush 8, 2) := by decide +kernel
theorem dX11_doAct_128 : decode cX11_doAct 128 = .ok (.aload_n 0, 1) := by decide +kernel
theorem dX11_doAct_129 : decode cX11_doAct 129 = .ok (.getfield 334, 3) := by decide +kernel
theorem dX11_doAct_132 : decode cX11_doAct 132 = .ok (.imul, 1) := by decide +kernel
theorem dX11_doAct_133 : decode cX11_doAct 133 = .ok (.iload_n 3, 1) := by decide +kernel
theorem dX11_doAct_134 : decode cX11_doAct 134 = .ok (.iadd, 1) := by decide +kernel
theorem dX11_doAct_135 : decode cX11_doAct 135 = .ok (.iaload, 1) := by decide +kernel
theorem dX11_doAct_136 : decode cX11_doAct 136 = .ok (.aload_n 0, 1) := by decide +kernel
theorem dX11_doAct_137 : decode cX11_doAct 137 = .ok (.getfield 103, 3) := by decide +kernel
theorem dX11_doAct_140 : decode cX11_doAct 140 = .ok (.iload_n 2, 1) := by decide +kernel
theorem dX11_doAct_141 : decode cX11_doAct 141 = .ok (.iaload, 1) := by decide +kernel
theorem dX11_doAct_142 : decode cX11_doAct 142 = .ok (.iadd, 1) := by decide +kernel
theorem dX11_doAct_143 : decode cX11_doAct 143 = .ok (.if_icmp .le 7, 3) := by decide +kernel
theorem dX11_doAct_146 : decode cX11_doAct 146 = .ok (.iconst 1, 1) := by decide +kernel
theorem dX11_doAct_147 : decode cX11_doAct 147 = .ok (.goto 4, 3) := by decide +kernel
theorem dX11_doAct_150 : decode cX11_doAct 150 = .ok (.iconst 0, 1) := by decide +kernel
theorem dX11_doAct_151 : decode cX11_doAct 151 = .ok (.istore 5, 2) := by decide +kernel
theorem dX11_doAct_153 : decode cX11_doAct 153 = .ok (.aload_n 0, 1) := by decide +kernel
theorem dX11_doAct_154 : decode cX11_doAct 154 = .ok (.aload_n 0, 1) := by decide +kernel
theorem dX11_doAct_155 : decode cX11_doAct 155 = .ok (.getfield 73, 3) := by decide +kernel
theorem dX11_doAct_158 : decode cX11_doAct 158 = .ok (.iload 4, 2) := by decide +kernel
theorem dX11_doAct_160 : decode cX11_doAct 160 = .ok (.iaload, 1) := by decide +kernel
theorem dX11_doAct_161 : decode cX11_doAct 161 = .ok (.ifCond .ge 13, 3) := by decide +kernel
theorem dX11_doAct_164 : decode cX11_doAct 164 = .ok (.aload_n 0, 1) := by decide +kernel
theorem dX11_doAct_165 : decode cX11_doAct 165 = .ok (.getfield 70, 3) := by decide +kernel
theorem dX11_doAct_168 : decode cX11_doAct 168 = .ok (.iload 4, 2) := by decide +kernel
theorem dX11_doAct_170 : decode cX11_doAct 170 = .ok (.iaload, 1) := by decide +kernel
theorem dX11_doAct_171 : decode cX11_doAct 171 = .ok (.goto 28, 3) := by decide +kernel
theorem dX11_doAct_174 : decode cX11_doAct 174 = .ok (.iload 5, 2) := by decide +kernel
theorem dX11_doAct_176 : decode cX11_doAct 176 = .ok (.ifCond .eq 22, 3) := by decide +kernel
theorem dX11_doAct_179 : decode cX11_doAct 179 = .ok (.aload_n 0, 1) := by decide +kernel
theorem dX11_doAct_180 : decode cX11_doAct 180 = .ok (.getfield 144, 3) := by decide +kernel
theorem dX11_doAct_183 : decode cX11_doAct 183 = .ok (.bipush 6, 2) := by decide +kernel
theorem dX11_doAct_185 : decode cX11_doAct 185 = .ok (.iload_n 3, 1) := by decide +kernel
theorem dX11_doAct_186 : decode cX11_doAct 186 = .ok (.imul, 1) := by decide +kernel
theorem dX11_doAct_187 : decode cX11_doAct 187 = .ok (.aload_n 0, 1) := by decide +kernel
theorem dX11_doAct_188 : decode cX11_doAct 188 = .ok (.getfield 103, 3) := by decide +kernel
theorem dX11_doAct_191 : decode cX11_doAct 191 = .ok (.iload_n 2, 1) := by decide +kernel
theorem dX11_doAct_192 : decode cX11_doAct 192 = .ok (.iaload, 1) := by decide +kernel
theorem dX11_doAct_193 : decode cX11_doAct 193 = .ok (.iadd, 1) := by decide +kernel
theorem dX11_doAct_194 : decode cX11_doAct 194 = .ok (.iaload, 1) := by decide +kernel
theorem dX11_doAct_195 : decode cX11_doAct 195 = .ok (.goto 4, 3) := by decide +kernel
theorem dX11_doAct_198 : decode cX11_doAct 198 = .ok (.iconst 0, 1) := by decide +kernel
theorem dX11_doAct_199 : decode cX11_doAct 199 = .ok (.invokevirtual 380, 3) := by decide +kernel
theorem dX11_doAct_202 : decode cX11_doAct 202 = .ok (.goto 333, 3) := by decide +kernel
theorem dX11_doAct_205 : decode cX11_doAct 205 = .ok (.aload_n 0, 1) := by decide +kernel
theorem dX11_doAct_206 : decode cX11_doAct 206 = .ok (.getfield 103, 3) := by decide +kernel
theorem dX11_doAct_209 : decode cX11_doAct 209 = .ok (.iload_n 2, 1) := by decide +kernel
theorem dX11_doAct_210 : decode cX11_doAct 210 = .ok (.iaload, 1) := by decide +kernel
theorem dX11_doAct_211 : decode cX11_doAct 211 = .ok (.bipush 8, 2) := by decide +kernel
theorem dX11_doAct_213 : decode cX11_doAct 213 = .ok (.aload_n 0, 1) := by decide +kernel
theorem dX11_doAct_214 : decode cX11_doAct 214 = .ok (.getfield 334, 3) := by decide +kernel
theorem dX11_doAct_217 : decode cX11_doAct 217 = .ok (.imul, 1) := by decide +kernel
theorem dX11_doAct_218 : decode cX11_doAct 218 = .ok (.isub, 1) := by decide +kernel
theorem dX11_doAct_219 : decode cX11_doAct 219 = .ok (.istore 6, 2) := by decide +kernel
theorem dX11_doAct_221 : decode cX11_doAct 221 = .ok (.aload_n 0, 1) := by decide +kernel
theorem dX11_doAct_222 : decode cX11_doAct 222 = .ok (.getfield 138, 3) := by decide +kernel
theorem dX11_doAct_225 : decode cX11_doAct 225 = .ok (.iload 6, 2) := by decide +kernel
theorem dX11_doAct_227 : decode cX11_doAct 227 = .ok (.iaload, 1) := by decide +kernel
theorem dX11_doAct_228 : decode cX11_doAct 228 = .ok (.ifCond .ne 10, 3) := by decide +kernel
theorem dX11_doAct_231 : decode cX11_doAct 231 = .ok (.aload_n 0, 1) := by decide +kernel
theorem dX11_doAct_232 : decode cX11_doAct 232 = .ok (.iload 6, 2) := by decide +kernel
theorem dX11_doAct_234 : decode cX11_doAct 234 = .ok (.invokevirtual 383, 3) := by decide +kernel
theorem dX11_doAct_237 : decode cX11_doAct 237 = .ok (.return_, 1) := by decide +kernel
theorem dX11_doAct_238 : decode cX11_doAct 238 = .ok (.aload_n 0, 1) := by decide +kernel
theorem dX11_doAct_239 : decode cX11_doAct 239 = .ok (.getfield 138, 3) := by decide +kernel
theorem dX11_doAct_242 : decode cX11_doAct 242 = .ok (.iload 6, 2) := by decide +kernel
theorem dX11_doAct_244 : decode cX11_doAct 244 = .ok (.iaload, 1) := by decide +kernel
theorem dX11_doAct_245 : decode cX11_doAct 245 = .ok (.iconst 2, 1) := by decide +kernel
theorem dX11_doAct_246 : decode cX11_doAct 246 = .ok (.if_icmp .ne 10, 3) := by decide +kernel
theorem dX11_doAct_249 : decode cX11_doAct 249 = .ok (.aload_n 0, 1) := by decide +kernel
theorem dX11_doAct_250 : decode cX11_doAct 250 = .ok (.bipush 6, 2) := by decide +kernel
theorem dX11_doAct_252 : decode cX11_doAct 252 = .ok (.invokevirtual 386, 3) := by decide +kernel
theorem dX11_doAct_255 : decode cX11_doAct 255 = .ok (.return_, 1) := by decide +kernel
theorem dX11_doAct_256 : decode cX11_doAct 256 = .ok (.aload_n 0, 1) := by decide +kernel
theorem dX11_doAct_257 : decode cX11_doAct 257 = .ok (.getfield 138, 3) := by decide +kernel
theorem dX11_doAct_260 : decode cX11_doAct 260 = .ok (.iload 6, 2) := by decide +kernel
theorem dX11_doAct_262 : decode cX11_doAct 262 = .ok (.iaload, 1) := by decide +kernel
theorem dX11_doAct_263 : decode cX11_doAct 263 = .ok (.iconst 3, 1) := by decide +kernel
theorem dX11_doAct_264 : decode cX11_doAct 264 = .ok (.if_icmp .ne 25, 3) := by decide +kernel
theorem dX11_doAct_267 : decode cX11_doAct 267 = .ok (.aload_n 0, 1) := by decide +kernel
theorem dX11_doAct_268 : decode cX11_doAct 268 = .ok (.getfield 147, 3) := by decide +kernel
theorem dX11_doAct_271 : decode cX11_doAct 271 = .ok (.iload 6, 2) := by decide +kernel
theorem dX11_doAct_273 : decode cX11_doAct 273 = .ok (.iaload, 1) := by decide +kernel
theorem dX11_doAct_274 : decode cX11_doAct 274 = .ok (.aload_n 0, 1) := by decide +kernel
theorem dX11_doAct_275 : decode cX11_doAct 275 = .ok (.getfield 106, 3) := by decide +kernel
theorem dX11_doAct_278 : decode cX11_doAct 278 = .ok (.iload_n 2, 1) := by decide +kernel
theorem dX11_doAct_279 : decode cX11_doAct 279 = .ok (.iaload, 1) := by decide +kernel
theorem dX11_doAct_280 : decode cX11_doAct 280 = .ok (.if_icmp .gt 9, 3) := by decide +kernel
theorem dX11_doAct_283 : decode cX11_doAct 283 = .ok (.aload_n 0, 1) := by decide +kernel
theorem dX11_doAct_284 : decode cX11_doAct 284 = .ok (.iconst 1, 1) := by decide +kernel
theorem dX11_doAct_285 : decode cX11_doAct 285 = .ok (.invokevirtual 386, 3) := by decide +kernel
theorem dX11_doAct_288 : decode cX11_doAct 288 = .ok (.return_, 1) := by decide +kernel
theorem dX11_doAct_289 : decode cX11_doAct 289 = .ok (.aload_n 0, 1) := by decide +kernel
theorem dX11_doAct_290 : decode cX11_doAct 290 = .ok (.aload_n 0, 1) := by decide +kernel
theorem dX11_doAct_291 : decode cX11_doAct 291 = .ok (.getfield 141, 3) := by decide +kernel
theorem dX11_doAct_294 : decode cX11_doAct 294 = .ok (.bipush 12, 2) := by decide +kernel
theorem dX11_doAct_296 : decode cX11_doAct 296 = .ok (.iload 6, 2) := by decide +kernel
theorem dX11_doAct_298 : decode cX11_doAct 298 = .ok (.imul, 1) := by decide +kernel
theorem dX11_doAct_299 : decode cX11_doAct 299 = .ok (.aload_n 0, 1) := by decide +kernel
theorem dX11_doAct_300 : decode cX11_doAct 300 = .ok (.getfield 106, 3) := by decide +kernel
theorem dX11_doAct_303 : decode cX11_doAct 303 = .ok (.iload_n 2, 1) := by decide +kernel
theorem dX11_doAct_304 : decode cX11_doAct 304 = .ok (.iaload, 1) := by decide +kernel
theorem dX11_doAct_305 : decode cX11_doAct 305 = .ok (.iadd, 1) := by decide +kernel
theorem dX11_doAct_306 : decode cX11_doAct 306 = .ok (.iaload, 1) := by decide +kernel
theorem dX11_doAct_307 : decode cX11_doAct 307 = .ok (.invokevirtual 380, 3) := by decide +kernel
theorem dX11_doAct_310 : decode cX11_doAct 310 = .ok (.goto 225, 3) := by decide +kernel
theorem dX11_doAct_313 : decode cX11_doAct 313 = .ok (.aload_n 0, 1) := by decide +kernel
theorem dX11_doAct_314 : decode cX11_doAct 314 = .ok (.aload_n 0, 1) := by decide +kernel
theorem dX11_doAct_315 : decode cX11_doAct 315 = .ok (.getfield 46, 3) := by decide +kernel
theorem dX11_doAct_318 : decode cX11_doAct 318 = .ok (.bipush 12, 2) := by decide +kernel
theorem dX11_doAct_320 : decode cX11_doAct 320 = .ok (.bipush 8, 2) := by decide +kernel
theorem dX11_doAct_322 : decode cX11_doAct 322 = .ok (.aload_n 0, 1) := by decide +kernel
theorem dX11_doAct_323 : decode cX11_doAct 323 = .ok (.getfield 334, 3) := by decide +kernel
theorem dX11_doAct_326 : decode cX11_doAct 326 = .ok (.imul, 1) := by decide +kernel
theorem dX11_doAct_327 : decode cX11_doAct 327 = .ok (.iload_n 3, 1) := by decide +kernel
theorem dX11_doAct_328 : decode cX11_doAct 328 = .ok (.iadd, 1) := by decide +kernel
theorem dX11_doAct_329 : decode cX11_doAct 329 = .ok (.imul, 1) := by decide +kernel
theorem dX11_doAct_330 : decode cX11_doAct 330 = .ok (.aload_n 0, 1) := by decide +kernel
theorem dX11_doAct_331 : decode cX11_doAct 331 = .ok (.getfield 156, 3) := by decide +kernel
theorem dX11_doAct_334 : decode cX11_doAct 334 = .ok (.iload_n 1, 1) := by decide +kernel
theorem dX11_doAct_335 : decode cX11_doAct 335 = .ok (.iaload, 1) := by decide +kernel
theorem dX11_doAct_336 : decode cX11_doAct 336 = .ok (.iadd, 1) := by decide +kernel
theorem dX11_doAct_337 : decode cX11_doAct 337 = .ok (.iaload, 1) := by decide +kernel
theorem dX11_doAct_338 : decode cX11_doAct 338 = .ok (.invokevirtual 380, 3) := by decide +kernel
theorem dX11_doAct_341 : decode cX11_doAct 341 = .ok (.goto 194, 3) := by decide +kernel
theorem dX11_doAct_344 : decode cX11_doAct 344 = .ok (.aload_n 0, 1) := by decide +kernel
theorem dX11_doAct_345 : decode cX11_doAct 345 = .ok (.aload_n 0, 1) := by decide +kernel
theorem dX11_doAct_346 : decode cX11_doAct 346 = .ok (.getfield 141, 3) := by decide +kernel
theorem dX11_doAct_349 : decode cX11_doAct 349 = .ok (.bipush 12, 2) := by decide +kernel
theorem dX11_doAct_351 : decode cX11_doAct 351 = .ok (.iload_n 3, 1) := by decide +kernel
theorem dX11_doAct_352 : decode cX11_doAct 352 = .ok (.imul, 1) := by decide +kernel
theorem dX11_doAct_353 : decode cX11_doAct 353 = .ok (.aload_n 0, 1) := by decide +kernel
theorem dX11_doAct_354 : decode cX11_doAct 354 = .ok (.getfield 156, 3) := by decide +kernel
theorem dX11_doAct_357 : decode cX11_doAct 357 = .ok (.iload_n 1, 1) := by decide +kernel
theorem dX11_doAct_358 : decode cX11_doAct 358 = .ok (.iaload, 1) := by decide +kernel
theorem dX11_doAct_359 : decode cX11_doAct 359 = .ok (.iadd, 1) := by decide +kernel
theorem dX11_doAct_360 : decode cX11_doAct 360 = .ok (.iaload, 1) := by decide +kernel
theorem dX11_doAct_361 : decode cX11_doAct 361 = .ok (.invokevirtual 380, 3) := by decide +kernel
theorem dX11_doAct_364 : decode cX11_doAct 364 = .ok (.goto 171, 3) := by decide +kernel
theorem dX11_doAct_367 : decode cX11_doAct 367 = .ok (.aload_n 0, 1) := by decide +kernel
theorem dX11_doAct_368 : decode cX11_doAct 368 = .ok (.aload_n 0, 1) := by decide +kernel
theorem dX11_doAct_369 : decode cX11_doAct 369 = .ok (.getfield 156, 3) := by decide +kernel
theorem dX11_doAct_372 : decode cX11_doAct 372 = .ok (.iload_n 1, 1) := by decide +kernel
theorem dX11_doAct_373 : decode cX11_doAct 373 = .ok (.iaload, 1) := by decide +kernel
theorem dX11_doAct_374 : decode cX11_doAct 374 = .ok (.invokevirtual 380, 3) := by decide +kernel
theorem dX11_doAct_377 : decode cX11_doAct 377 = .ok (.goto 158, 3) := by decide +kernel
theorem dX11_doAct_380 : decode cX11_doAct 380 = .ok (.aload_n 0, 1) := by decide +kernel
theorem dX11_doAct_381 : decode cX11_doAct 381 = .ok (.getfield 165, 3) := by decide +kernel
theorem dX11_doAct_384 : decode cX11_doAct 384 = .ok (.aload_n 0, 1) := by decide +kernel
theorem dX11_doAct_385 : decode cX11_doAct 385 = .ok (.getfield 368, 3) := by decide +kernel
theorem dX11_doAct_388 : decode cX11_doAct 388 = .ok (.iconst 1, 1) := by decide +kernel
theorem dX11_doAct_389 : decode cX11_doAct 389 = .ok (.isub, 1) := by decide +kernel
theorem dX11_doAct_390 : decode cX11_doAct 390 = .ok (.aload_n 0, 1) := by decide +kernel
theorem dX11_doAct_391 : decode cX11_doAct 391 = .ok (.getfield 165, 3) := by decide +kernel
theorem dX11_doAct_394 : decode cX11_doAct 394 = .ok (.aload_n 0, 1) := by decide +kernel
theorem dX11_doAct_395 : decode cX11_doAct 395 = .ok (.getfield 368, 3) := by decide +kernel
theorem dX11_doAct_398 : decode cX11_doAct 398 = .ok (.iconst 1, 1) := by decide +kernel
theorem dX11_doAct_399 : decode cX11_doAct 399 = .ok (.isub, 1) := by decide +kernel
theorem dX11_doAct_400 : decode cX11_doAct 400 = .ok (.iaload, 1) := by decide +kernel
theorem dX11_doAct_401 : decode cX11_doAct 401 = .ok (.ineg, 1) := by decide +kernel
theorem dX11_doAct_402 : decode cX11_doAct 402 = .ok (.iastore, 1) := by decide +kernel
theorem dX11_doAct_403 : decode cX11_doAct 403 = .ok (.goto 132, 3) := by decide +kernel
theorem dX11_doAct_406 : decode cX11_doAct 406 = .ok (.aload_n 0, 1) := by decide +kernel
theorem dX11_doAct_407 : decode cX11_doAct 407 = .ok (.dup, 1) := by decide +kernel
theorem dX11_doAct_408 : decode cX11_doAct 408 = .ok (.getfield 368, 3) := by decide +kernel
theorem dX11_doAct_411 : decode cX11_doAct 411 = .ok (.iconst 1, 1) := by decide +kernel
theorem dX11_doAct_412 : decode cX11_doAct 412 = .ok (.isub, 1) := by decide +kernel
theorem dX11_doAct_413 : decode cX11_doAct 413 = .ok (.putfield 368, 3) := by decide +kernel
theorem dX11_doAct_416 : decode cX11_doAct 416 = .ok (.aload_n 0, 1) := by decide +kernel
theorem dX11_doAct_417 : decode cX11_doAct 417 = .ok (.getfield 165, 3) := by decide +kernel
theorem dX11_doAct_420 : decode cX11_doAct 420 = .ok (.aload_n 0, 1) := by decide +kernel
theorem dX11_doAct_421 : decode cX11_doAct 421 = .ok (.getfield 368, 3) := by decide +kernel
theorem dX11_doAct_424 : decode cX11_doAct 424 = .ok (.iaload, 1) := by decide +kernel
theorem dX11_doAct_425 : decode cX11_doAct 425 = .ok (.istore 7, 2) := by decide +kernel
theorem dX11_doAct_427 : decode cX11_doAct 427 = .ok (.aload_n 0, 1) := by decide +kernel
theorem dX11_doAct_428 : decode cX11_doAct 428 = .ok (.getfield 165, 3) := by decide +kernel
theorem dX11_doAct_431 : decode cX11_doAct 431 = .ok (.aload_n 0, 1) := by decide +kernel
theorem dX11_doAct_432 : decode cX11_doAct 432 = .ok (.getfield 368, 3) := by decide +kernel
theorem dX11_doAct_435 : decode cX11_doAct 435 = .ok (.iconst 1, 1) := by decide +kernel
theorem dX11_doAct_436 : decode cX11_doAct 436 = .ok (.isub, 1) := by decide +kernel
theorem dX11_doAct_437 : decode cX11_doAct 437 = .ok (.iaload, 1) := by decide +kernel
theorem dX11_doAct_438 : decode cX11_doAct 438 = .ok (.istore 8, 2) := by decide +kernel
theorem dX11_doAct_440 : decode cX11_doAct 440 = .ok (.aload_n 0, 1) := by decide +kernel
theorem dX11_doAct_441 : decode cX11_doAct 441 = .ok (.getfield 100, 3) := by decide +kernel
theorem dX11_doAct_444 : decode cX11_doAct 444 = .ok (.iload_n 2, 1) := by decide +kernel
theorem dX11_doAct_445 : decode cX11_doAct 445 = .ok (.iaload, 1) := by decide +kernel
theorem dX11_doAct_446 : decode cX11_doAct 446 = .ok (.bipush 10, 2) := by decide +kernel
theorem dX11_doAct_448 : decode cX11_doAct 448 = .ok (.if_icmp .ne 14, 3) := by decide +kernel
theorem dX11_doAct_451 : decode cX11_doAct 451 = .ok (.iload 7, 2) := by decide +kernel
theorem dX11_doAct_453 : decode cX11_doAct 453 = .ok (.ifCond .ne 9, 3) := by decide +kernel
theorem dX11_doAct_456 : decode cX11_doAct 456 = .ok (.aload_n 0, 1) := by decide +kernel
theorem dX11_doAct_457 : decode cX11_doAct 457 = .ok (.iconst 2, 1) := by decide +kernel
theorem dX11_doAct_458 : decode cX11_doAct 458 = .ok (.invokevirtual 386, 3) := by decide +kernel
theorem dX11_doAct_461 : decode cX11_doAct 461 = .ok (.return_, 1) := by decide +kernel
theorem dX11_doAct_462 : decode cX11_doAct 462 = .ok (.aload_n 0, 1) := by decide +kernel
theorem dX11_doAct_463 : decode cX11_doAct 463 = .ok (.getfield 165, 3) := by decide +kernel
theorem dX11_doAct_466 : decode cX11_doAct 466 = .ok (.aload_n 0, 1) := by decide +kernel
theorem dX11_doAct_467 : decode cX11_doAct 467 = .ok (.getfield 368, 3) := by decide +kernel
theorem dX11_doAct_470 : decode cX11_doAct 470 = .ok (.iconst 1, 1) := by decide +kernel
theorem dX11_doAct_471 : decode cX11_doAct 471 = .ok (.isub, 1) := by decide +kernel
theorem dX11_doAct_472 : decode cX11_doAct 472 = .ok (.aload_n 0, 1) := by decide +kernel
theorem dX11_doAct_473 : decode cX11_doAct 473 = .ok (.getfield 100, 3) := by decide +kernel
theorem dX11_doAct_476 : decode cX11_doAct 476 = .ok (.iload_n 2, 1) := by decide +kernel
theorem dX11_doAct_477 : decode cX11_doAct 477 = .ok (.iaload, 1) := by decide +kernel
theorem dX11_doAct_478 : decode cX11_doAct 478 = .ok (.bipush 7, 2) := by decide +kernel
theorem dX11_doAct_480 : decode cX11_doAct 480 = .ok (.if_icmp .ne 11, 3) := by decide +kernel
theorem dX11_doAct_483 : decode cX11_doAct 483 = .ok (.iload 8, 2) := by decide +kernel
theorem dX11_doAct_485 : decode cX11_doAct 485 = .ok (.iload 7, 2) := by decide +kernel
theorem dX11_doAct_487 : decode cX11_doAct 487 = .ok (.iadd, 1) := by decide +kernel
theorem dX11_doAct_488 : decode cX11_doAct 488 = .ok (.goto 46, 3) := by decide +kernel
theorem dX11_doAct_491 : decode cX11_doAct 491 = .ok (.aload_n 0, 1) := by decide +kernel
theorem dX11_doAct_492 : decode cX11_doAct 492 = .ok (.getfield 100, 3) := by decide +kernel
theorem dX11_doAct_495 : decode cX11_doAct 495 = .ok (.iload_n 2, 1) := by decide +kernel
theorem dX11_doAct_496 : decode cX11_doAct 496 = .ok (.iaload, 1) := by decide +kernel
theorem dX11_doAct_497 : decode cX11_doAct 497 = .ok (.bipush 8, 2) := by decide +kernel
theorem dX11_doAct_499 : decode cX11_doAct 499 = .ok (.if_icmp .ne 11, 3) := by decide +kernel
theorem dX11_doAct_502 : decode cX11_doAct 502 = .ok (.iload 8, 2) := by decide +kernel
theorem dX11_doAct_504 : decode cX11_doAct 504 = .ok (.iload 7, 2) := by decide +kernel
theorem dX11_doAct_506 : decode cX11_doAct 506 = .ok (.isub, 1) := by decide +kernel
theorem dX11_doAct_507 : decode cX11_doAct 507 = .ok (.goto 27, 3) := by decide +kernel
theorem dX11_doAct_510 : decode cX11_doAct 510 = .ok (.aload_n 0, 1) := by decide +kernel
theorem dX11_doAct_511 : decode cX11_doAct 511 = .ok (.getfield 100, 3) := by decide +kernel
theorem dX11_doAct_514 : decode cX11_doAct 514 = .ok (.iload_n 2, 1) := by decide +kernel
theorem dX11_doAct_515 : decode cX11_doAct 515 = .ok (.iaload, 1) := by decide +kernel
theorem dX11_doAct_516 : decode cX11_doAct 516 = .ok (.bipush 9, 2) := by decide +kernel
theorem dX11_doAct_518 : decode cX11_doAct 518 = .ok (.if_icmp .ne 11, 3) := by decide +kernel
theorem dX11_doAct_521 : decode cX11_doAct 521 = .ok (.iload 8, 2) := by decide +kernel
theorem dX11_doAct_523 : decode cX11_doAct 523 = .ok (.iload 7, 2) := by decide +kernel
theorem dX11_doAct_525 : decode cX11_doAct 525 = .ok (.imul, 1) := by decide +kernel
theorem dX11_doAct_526 : decode cX11_doAct 526 = .ok (.goto 8, 3) := by decide +kernel
theorem dX11_doAct_529 : decode cX11_doAct 529 = .ok (.iload 8, 2) := by decide +kernel
theorem dX11_doAct_531 : decode cX11_doAct 531 = .ok (.iload 7, 2) := by decide +kernel
theorem dX11_doAct_533 : decode cX11_doAct 533 = .ok (.idiv, 1) := by decide +kernel
theorem dX11_doAct_534 : decode cX11_doAct 534 = .ok (.iastore, 1) := by decide +kernel
theorem dX11_doAct_535 : decode cX11_doAct 535 = .ok (.aload_n 0, 1) := by decide +kernel
theorem dX11_doAct_536 : decode cX11_doAct 536 = .ok (.getfield 159, 3) := by decide +kernel
theorem dX11_doAct_539 : decode cX11_doAct 539 = .ok (.iload_n 1, 1) := by decide +kernel
theorem dX11_doAct_540 : decode cX11_doAct 540 = .ok (.dup2, 1) := by decide +kernel
theorem dX11_doAct_541 : decode cX11_doAct 541 = .ok (.iaload, 1) := by decide +kernel
theorem dX11_doAct_542 : decode cX11_doAct 542 = .ok (.iconst 1, 1) := by decide +kernel
theorem dX11_doAct_543 : decode cX11_doAct 543 = .ok (.iadd, 1) := by decide +kernel
theorem dX11_doAct_544 : decode cX11_doAct 544 = .ok (.iastore, 1) := by decide +kernel
theorem dX11_doAct_545 : decode cX11_doAct 545 = .ok (.return_, 1) := by decide +kernel
theorem dX11_want_0 : decode cX11_want 0 = .ok (.aload_n 0, 1) := by decide +kernel
theorem dX11_want_1 : decode cX11_want 1 = .ok (.iconst 0, 1) := by decide +kernel
theorem dX11_want_2 : decode cX11_want 2 = .ok (.putfield 352, 3) := by decide +kernel
theorem dX11_want_5 : decode cX11_want 5 = .ok (.aload_n 0, 1) := by decide +kernel
theorem dX11_want_6 : decode cX11_want 6 = .ok (.iconst 0, 1) := by decide +kernel
theorem dX11_want_7 : decode cX11_want 7 = .ok (.putfield 368, 3) := by decide +kernel
theorem dX11_want_10 : decode cX11_want 10 = .ok (.aload_n 0, 1) := by decide +kernel
theorem dX11_want_11 : decode cX11_want 11 = .ok (.getfield 138, 3) := by decide +kernel
theorem dX11_want_14 : decode cX11_want 14 = .ok (.iload_n 1, 1) := by decide +kernel
theorem dX11_want_15 : decode cX11_want 15 = .ok (.iaload, 1) := by decide +kernel
theorem dX11_want_16 : decode cX11_want 16 = .ok (.ifCond .ne 25, 3) := by decide +kernel
theorem dX11_want_19 : decode cX11_want 19 = .ok (.aload_n 0, 1) := by decide +kernel
theorem dX11_want_20 : decode cX11_want 20 = .ok (.iload_n 1, 1) := by decide +kernel
theorem dX11_want_21 : decode cX11_want 21 = .ok (.invokevirtual 383, 3) := by decide +kernel
theorem dX11_want_24 : decode cX11_want 24 = .ok (.aload_n 0, 1) := by decide +kernel
theorem dX11_want_25 : decode cX11_want 25 = .ok (.invokevirtual 389, 3) := by decide +kernel
theorem dX11_want_28 : decode cX11_want 28 = .ok (.aload_n 0, 1) := by decide +kernel
theorem dX11_want_29 : decode cX11_want 29 = .ok (.getfield 362, 3) := by decide +kernel
theorem dX11_want_32 : decode cX11_want 32 = .ok (.ifCond .ne 7, 3) := by decide +kernel
theorem dX11_want_35 : decode cX11_want 35 = .ok (.iconst 1, 1) := by decide +kernel
theorem dX11_want_36 : decode cX11_want 36 = .ok (.goto 4, 3) := by decide +kernel
theorem dX11_want_39 : decode cX11_want 39 = .ok (.iconst 0, 1) := by decide +kernel
theorem dX11_want_40 : decode cX11_want 40 = .ok (.ireturn, 1) := by decide +kernel
theorem dX11_want_41 : decode cX11_want 41 = .ok (.aload_n 0, 1) := by decide +kernel
theorem dX11_want_42 : decode cX11_want 42 = .ok (.getfield 138, 3) := by decide +kernel
theorem dX11_want_45 : decode cX11_want 45 = .ok (.iload_n 1, 1) := by decide +kernel
theorem dX11_want_46 : decode cX11_want 46 = .ok (.iaload, 1) := by decide +kernel
theorem dX11_want_47 : decode cX11_want 47 = .ok (.iconst 2, 1) := by decide +kernel
theorem dX11_want_48 : decode cX11_want 48 = .ok (.if_icmp .ne 9, 3) := by decide +kernel
theorem dX11_want_51 : decode cX11_want 51 = .ok (.aload_n 0, 1) := by decide +kernel
theorem dX11_want_52 : decode cX11_want 52 = .ok (.bipush 6, 2) := by decide +kernel
theorem dX11_want_54 : decode cX11_want 54 = .ok (.invokevirtual 386, 3) := by decide +kernel
theorem dX11_want_57 : decode cX11_want 57 = .ok (.aload_n 0, 1) := by decide +kernel
theorem dX11_want_58 : decode cX11_want 58 = .ok (.getfield 362, 3) := by decide +kernel
theorem dX11_want_61 : decode cX11_want 61 = .ok (.ifCond .ne 7, 3) := by decide +kernel
theorem dX11_want_64 : decode cX11_want 64 = .ok (.iconst 1, 1) := by decide +kernel
theorem dX11_want_65 : decode cX11_want 65 = .ok (.goto 4, 3) := by decide +kernel
theorem dX11_want_68 : decode cX11_want 68 = .ok (.iconst 0, 1) := by decide +kernel
theorem dX11_want_69 : decode cX11_want 69 = .ok (.ireturn, 1) := by decide +kernel
theorem dX11_isEnum_0 : decode cX11_isEnum 0 = .ok (.iload_n 1, 1) := by decide +kernel
theorem dX11_isEnum_1 : decode cX11_isEnum 1 = .ok (.iconst 0, 1) := by decide +kernel
theorem dX11_isEnum_2 : decode cX11_isEnum 2 = .ok (.aload_n 0, 1) := by decide +kernel
theorem dX11_isEnum_3 : decode cX11_isEnum 3 = .ok (.getfield 16, 3) := by decide +kernel
theorem dX11_isEnum_6 : decode cX11_isEnum 6 = .ok (.aload_n 0, 1) := by decide +kernel
theorem dX11_isEnum_7 : decode cX11_isEnum 7 = .ok (.getfield 334, 3) := by decide +kernel
theorem dX11_isEnum_10 : decode cX11_isEnum 10 = .ok (.iaload, 1) := by decide +kernel
theorem dX11_isEnum_11 : decode cX11_isEnum 11 = .ok (.iconst 1, 1) := by decide +kernel
theorem dX11_isEnum_12 : decode cX11_isEnum 12 = .ok (.isub, 1) := by decide +kernel
theorem dX11_isEnum_13 : decode cX11_isEnum 13 = .ok (.invokestatic 175, 3) := by decide +kernel
theorem dX11_isEnum_16 : decode cX11_isEnum 16 = .ok (.ireturn, 1) := by decide +kernel
theorem dX11_isConst_0 : decode cX11_isConst 0 = .ok (.aload_n 0, 1) := by decide +kernel
theorem dX11_isConst_1 : decode cX11_isConst 1 = .ok (.iload_n 1, 1) := by decide +kernel
theorem dX11_isConst_2 : decode cX11_isConst 2 = .ok (.invokevirtual 392, 3) := by decide +kernel
theorem dX11_isConst_5 : decode cX11_isConst 5 = .ok (.ifCond .eq 31, 3) := by decide +kernel
theorem dX11_isConst_8 : decode cX11_isConst 8 = .ok (.iload_n 2, 1) := by decide +kernel
theorem dX11_isConst_9 : decode cX11_isConst 9 = .ok (.iconst 0, 1) := by decide +kernel
theorem dX11_isConst_10 : decode cX11_isConst 10 = .ok (.aload_n 0, 1) := by decide +kernel
theorem dX11_isConst_11 : decode cX11_isConst 11 = .ok (.getfield 25, 3) := by decide +kernel
theorem dX11_isConst_14 : decode cX11_isConst 14 = .ok (.bipush 8, 2) := by decide +kernel
theorem dX11_isConst_16 : decode cX11_isConst 16 = .ok (.aload_n 0, 1) := by decide +kernel
theorem dX11_isConst_17 : decode cX11_isConst 17 = .ok (.getfield 334, 3) := by decide +kernel
theorem dX11_isConst_20 : decode cX11_isConst 20 = .ok (.imul, 1) := by decide +kernel
theorem dX11_isConst_21 : decode cX11_isConst 21 = .ok (.iload_n 1, 1) := by decide +kernel
theorem dX11_isConst_22 : decode cX11_isConst 22 = .ok (.iadd, 1) := by decide +kernel
theorem dX11_isConst_23 : decode cX11_isConst 23 = .ok (.iaload, 1) := by decide +kernel
theorem dX11_isConst_24 : decode cX11_isConst 24 = .ok (.iconst 1, 1) := by decide +kernel
theorem dX11_isConst_25 : decode cX11_isConst 25 = .ok (.isub, 1) := by decide +kernel
theorem dX11_isConst_26 : decode cX11_isConst 26 = .ok (.invokestatic 175, 3) := by decide +kernel
theorem dX11_isConst_29 : decode cX11_isConst 29 = .ok (.ifCond .eq 7, 3) := by decide +kernel
theorem dX11_isConst_32 : decode cX11_isConst 32 = .ok (.iconst 1, 1) := by decide +kernel
theorem dX11_isConst_33 : decode cX11_isConst 33 = .ok (.goto 4, 3) := by decide +kernel
theorem dX11_isConst_36 : decode cX11_isConst 36 = .ok (.iconst 0, 1) := by decide +kernel
theorem dX11_isConst_37 : decode cX11_isConst 37 = .ok (.ireturn, 1) := by decide +kernel
theorem dX11_cause_0 : decode cX11_cause 0 = .ok (.aload_n 0, 1) := by decide +kernel
theorem dX11_cause_1 : decode cX11_cause 1 = .ok (.getfield 362, 3) := by decide +kernel
theorem dX11_cause_4 : decode cX11_cause 4 = .ok (.ireturn, 1) := by decide +kernel
theorem dX11_told_0 : decode cX11_told 0 = .ok (.aload_n 0, 1) := by decide +kernel
theorem dX11_told_1 : decode cX11_told 1 = .ok (.iload_n 1, 1) := by decide +kernel
theorem dX11_told_2 : decode cX11_told 2 = .ok (.invokevirtual 392, 3) := by decide +kernel
theorem dX11_told_5 : decode cX11_told 5 = .ok (.ifCond .ne 7, 3) := by decide +kernel
theorem dX11_told_8 : decode cX11_told 8 = .ok (.ldc_w 395, 3) := by decide +kernel
theorem dX11_told_11 : decode cX11_told 11 = .ok (.ireturn, 1) := by decide +kernel
theorem dX11_told_12 : decode cX11_told 12 = .ok (.iconst 0, 1) := by decide +kernel
theorem dX11_told_13 : decode cX11_told 13 = .ok (.istore_n 3, 1) := by decide +kernel
theorem dX11_told_14 : decode cX11_told 14 = .ok (.iconst 0, 1) := by decide +kernel
theorem dX11_told_15 : decode cX11_told 15 = .ok (.istore 4, 2) := by decide +kernel
theorem dX11_told_17 : decode cX11_told 17 = .ok (.iload 4, 2) := by decide +kernel
theorem dX11_told_19 : decode cX11_told 19 = .ok (.aload_n 0, 1) := by decide +kernel
theorem dX11_told_20 : decode cX11_told 20 = .ok (.getfield 31, 3) := by decide +kernel
theorem dX11_told_23 : decode cX11_told 23 = .ok (.bipush 8, 2) := by decide +kernel
theorem dX11_told_25 : decode cX11_told 25 = .ok (.aload_n 0, 1) := by decide +kernel
theorem dX11_told_26 : decode cX11_told 26 = .ok (.getfield 334, 3) := by decide +kernel
theorem dX11_told_29 : decode cX11_told 29 = .ok (.imul, 1) := by decide +kernel
theorem dX11_told_30 : decode cX11_told 30 = .ok (.iload_n 1, 1) := by decide +kernel
theorem dX11_told_31 : decode cX11_told 31 = .ok (.iadd, 1) := by decide +kernel
theorem dX11_told_32 : decode cX11_told 32 = .ok (.iaload, 1) := by decide +kernel
theorem dX11_told_33 : decode cX11_told 33 = .ok (.if_icmp .ge 40, 3) := by decide +kernel
theorem dX11_told_36 : decode cX11_told 36 = .ok (.iload_n 3, 1) := by decide +kernel
theorem dX11_told_37 : decode cX11_told 37 = .ok (.aload_n 0, 1) := by decide +kernel
theorem dX11_told_38 : decode cX11_told 38 = .ok (.getfield 73, 3) := by decide +kernel
theorem dX11_told_41 : decode cX11_told 41 = .ok (.bipush 6, 2) := by decide +kernel
theorem dX11_told_43 : decode cX11_told 43 = .ok (.bipush 8, 2) := by decide +kernel
theorem dX11_told_45 : decode cX11_told 45 = .ok (.aload_n 0, 1) := by decide +kernel
theorem dX11_told_46 : decode cX11_told 46 = .ok (.getfield 334, 3) := by decide +kernel
theorem dX11_told_49 : decode cX11_told 49 = .ok (.imul, 1) := by decide +kernel
theorem dX11_told_50 : decode cX11_told 50 = .ok (.iload_n 1, 1) := by decide +kernel
theorem dX11_told_51 : decode cX11_told 51 = .ok (.iadd, 1) := by decide +kernel
theorem dX11_told_52 : decode cX11_told 52 = .ok (.imul, 1) := by decide +kernel
theorem dX11_told_53 : decode cX11_told 53 = .ok (.iload 4, 2) := by decide +kernel
theorem dX11_told_55 : decode cX11_told 55 = .ok (.iadd, 1) := by decide +kernel
theorem dX11_told_56 : decode cX11_told 56 = .ok (.iaload, 1) := by decide +kernel
theorem dX11_told_57 : decode cX11_told 57 = .ok (.ifCond .ge 7, 3) := by decide +kernel
theorem dX11_told_60 : decode cX11_told 60 = .ok (.iconst 1, 1) := by decide +kernel
theorem dX11_told_61 : decode cX11_told 61 = .ok (.goto 4, 3) := by decide +kernel
theorem dX11_told_64 : decode cX11_told 64 = .ok (.iconst 0, 1) := by decide +kernel
theorem dX11_told_65 : decode cX11_told 65 = .ok (.iadd, 1) := by decide +kernel
theorem dX11_told_66 : decode cX11_told 66 = .ok (.istore_n 3, 1) := by decide +kernel
theorem dX11_told_67 : decode cX11_told 67 = .ok (.iinc 4 1, 3) := by decide +kernel
theorem dX11_told_70 : decode cX11_told 70 = .ok (.goto (-53), 3) := by decide +kernel
theorem dX11_told_73 : decode cX11_told 73 = .ok (.iload_n 2, 1) := by decide +kernel
theorem dX11_told_74 : decode cX11_told 74 = .ok (.tableswitch 90 0 4 #[34, 49, 64, 81, 83], 34) := by decide +kernel
theorem dX11_told_108 : decode cX11_told 108 = .ok (.aload_n 0, 1) := by decide +kernel
theorem dX11_told_109 : decode cX11_told 109 = .ok (.getfield 25, 3) := by decide +kernel
theorem dX11_told_112 : decode cX11_told 112 = .ok (.bipush 8, 2) := by decide +kernel
theorem dX11_told_114 : decode cX11_told 114 = .ok (.aload_n 0, 1) := by decide +kernel
theorem dX11_told_115 : decode cX11_told 115 = .ok (.getfield 334, 3) := by decide +kernel
theorem dX11_told_118 : decode cX11_told 118 = .ok (.imul, 1) := by decide +kernel
theorem dX11_told_119 : decode cX11_told 119 = .ok (.iload_n 1, 1) := by decide +kernel
theorem dX11_told_120 : decode cX11_told 120 = .ok (.iadd, 1) := by decide +kernel
theorem dX11_told_121 : decode cX11_told 121 = .ok (.iaload, 1) := by decide +kernel
theorem dX11_told_122 : decode cX11_told 122 = .ok (.ireturn, 1) := by decide +kernel
theorem dX11_told_123 : decode cX11_told 123 = .ok (.aload_n 0, 1) := by decide +kernel
theorem dX11_told_124 : decode cX11_told 124 = .ok (.getfield 28, 3) := by decide +kernel
theorem dX11_told_127 : decode cX11_told 127 = .ok (.bipush 8, 2) := by decide +kernel
theorem dX11_told_129 : decode cX11_told 129 = .ok (.aload_n 0, 1) := by decide +kernel
theorem dX11_told_130 : decode cX11_told 130 = .ok (.getfield 334, 3) := by decide +kernel
theorem dX11_told_133 : decode cX11_told 133 = .ok (.imul, 1) := by decide +kernel
theorem dX11_told_134 : decode cX11_told 134 = .ok (.iload_n 1, 1) := by decide +kernel
theorem dX11_told_135 : decode cX11_told 135 = .ok (.iadd, 1) := by decide +kernel
theorem dX11_told_136 : decode cX11_told 136 = .ok (.iaload, 1) := by decide +kernel
theorem dX11_told_137 : decode cX11_told 137 = .ok (.ireturn, 1) := by decide +kernel
theorem dX11_told_138 : decode cX11_told 138 = .ok (.aload_n 0, 1) := by decide +kernel
theorem dX11_told_139 : decode cX11_told 139 = .ok (.getfield 31, 3) := by decide +kernel
theorem dX11_told_142 : decode cX11_told 142 = .ok (.bipush 8, 2) := by decide +kernel
theorem dX11_told_144 : decode cX11_told 144 = .ok (.aload_n 0, 1) := by decide +kernel
theorem dX11_told_145 : decode cX11_told 145 = .ok (.getfield 334, 3) := by decide +kernel
theorem dX11_told_148 : decode cX11_told 148 = .ok (.imul, 1) := by decide +kernel
theorem dX11_told_149 : decode cX11_told 149 = .ok (.iload_n 1, 1) := by decide +kernel
theorem dX11_told_150 : decode cX11_told 150 = .ok (.iadd, 1) := by decide +kernel
theorem dX11_told_151 : decode cX11_told 151 = .ok (.iaload, 1) := by decide +kernel
theorem dX11_told_152 : decode cX11_told 152 = .ok (.iload_n 3, 1) := by decide +kernel
theorem dX11_told_153 : decode cX11_told 153 = .ok (.isub, 1) := by decide +kernel
theorem dX11_told_154 : decode cX11_told 154 = .ok (.ireturn, 1) := by decide +kernel
theorem dX11_told_155 : decode cX11_told 155 = .ok (.iload_n 3, 1) := by decide +kernel
theorem dX11_told_156 : decode cX11_told 156 = .ok (.ireturn, 1) := by decide +kernel
theorem dX11_told_157 : decode cX11_told 157 = .ok (.aload_n 0, 1) := by decide +kernel
theorem dX11_told_158 : decode cX11_told 158 = .ok (.getfield 138, 3) := by decide +kernel
theorem dX11_told_161 : decode cX11_told 161 = .ok (.iload_n 1, 1) := by decide +kernel
theorem dX11_told_162 : decode cX11_told 162 = .ok (.iaload, 1) := by decide +kernel
theorem dX11_told_163 : decode cX11_told 163 = .ok (.ireturn, 1) := by decide +kernel
theorem dX11_told_164 : decode cX11_told 164 = .ok (.ldc 179, 2) := by decide +kernel
theorem dX11_told_166 : decode cX11_told 166 = .ok (.ireturn, 1) := by decide +kernel
theorem dX11_hasBody_0 : decode cX11_hasBody 0 = .ok (.aload_n 0, 1) := by decide +kernel
theorem dX11_hasBody_1 : decode cX11_hasBody 1 = .ok (.iload_n 1, 1) := by decide +kernel
theorem dX11_hasBody_2 : decode cX11_hasBody 2 = .ok (.iload_n 2, 1) := by decide +kernel
theorem dX11_hasBody_3 : decode cX11_hasBody 3 = .ok (.invokevirtual 396, 3) := by decide +kernel
theorem dX11_hasBody_6 : decode cX11_hasBody 6 = .ok (.ifCond .eq 25, 3) := by decide +kernel
theorem dX11_hasBody_9 : decode cX11_hasBody 9 = .ok (.aload_n 0, 1) := by decide +kernel
theorem dX11_hasBody_10 : decode cX11_hasBody 10 = .ok (.getfield 49, 3) := by decide +kernel
theorem dX11_hasBody_13 : decode cX11_hasBody 13 = .ok (.bipush 12, 2) := by decide +kernel
theorem dX11_hasBody_15 : decode cX11_hasBody 15 = .ok (.bipush 8, 2) := by decide +kernel
theorem dX11_hasBody_17 : decode cX11_hasBody 17 = .ok (.aload_n 0, 1) := by decide +kernel
theorem dX11_hasBody_18 : decode cX11_hasBody 18 = .ok (.getfield 334, 3) := by decide +kernel
theorem dX11_hasBody_21 : decode cX11_hasBody 21 = .ok (.imul, 1) := by decide +kernel
theorem dX11_hasBody_22 : decode cX11_hasBody 22 = .ok (.iload_n 1, 1) := by decide +kernel
theorem dX11_hasBody_23 : decode cX11_hasBody 23 = .ok (.iadd, 1) := by decide +kernel
theorem dX11_hasBody_24 : decode cX11_hasBody 24 = .ok (.imul, 1) := by decide +kernel
theorem dX11_hasBody_25 : decode cX11_hasBody 25 = .ok (.iload_n 2, 1) := by decide +kernel
theorem dX11_hasBody_26 : decode cX11_hasBody 26 = .ok (.iadd, 1) := by decide +kernel
theorem dX11_hasBody_27 : decode cX11_hasBody 27 = .ok (.iaload, 1) := by decide +kernel
theorem dX11_hasBody_28 : decode cX11_hasBody 28 = .ok (.goto 6, 3) := by decide +kernel
theorem dX11_hasBody_31 : decode cX11_hasBody 31 = .ok (.ldc_w 395, 3) := by decide +kernel
theorem dX11_hasBody_34 : decode cX11_hasBody 34 = .ok (.ireturn, 1) := by decide +kernel
theorem dX11_value_0 : decode cX11_value 0 = .ok (.aload_n 0, 1) := by decide +kernel
theorem dX11_value_1 : decode cX11_value 1 = .ok (.iload_n 1, 1) := by decide +kernel
theorem dX11_value_2 : decode cX11_value 2 = .ok (.iload_n 2, 1) := by decide +kernel
theorem dX11_value_3 : decode cX11_value 3 = .ok (.invokevirtual 396, 3) := by decide +kernel
theorem dX11_value_6 : decode cX11_value 6 = .ok (.ifCond .ne 7, 3) := by decide +kernel
theorem dX11_value_9 : decode cX11_value 9 = .ok (.ldc_w 395, 3) := by decide +kernel
theorem dX11_value_12 : decode cX11_value 12 = .ok (.ireturn, 1) := by decide +kernel
theorem dX11_value_13 : decode cX11_value 13 = .ok (.aload_n 0, 1) := by decide +kernel
theorem dX11_value_14 : decode cX11_value 14 = .ok (.iconst 0, 1) := by decide +kernel
theorem dX11_value_15 : decode cX11_value 15 = .ok (.putfield 362, 3) := by decide +kernel
theorem dX11_value_18 : decode cX11_value 18 = .ok (.aload_n 0, 1) := by decide +kernel
theorem dX11_value_19 : decode cX11_value 19 = .ok (.iload_n 1, 1) := by decide +kernel
theorem dX11_value_20 : decode cX11_value 20 = .ok (.invokevirtual 400, 3) := by decide +kernel
theorem dX11_value_23 : decode cX11_value 23 = .ok (.ifCond .eq 17, 3) := by decide +kernel
theorem dX11_value_26 : decode cX11_value 26 = .ok (.aload_n 0, 1) := by decide +kernel
theorem dX11_value_27 : decode cX11_value 27 = .ok (.getfield 141, 3) := by decide +kernel
theorem dX11_value_30 : decode cX11_value 30 = .ok (.bipush 12, 2) := by decide +kernel
theorem dX11_value_32 : decode cX11_value 32 = .ok (.iload_n 1, 1) := by decide +kernel
theorem dX11_value_33 : decode cX11_value 33 = .ok (.imul, 1) := by decide +kernel
theorem dX11_value_34 : decode cX11_value 34 = .ok (.iload_n 2, 1) := by decide +kernel
theorem dX11_value_35 : decode cX11_value 35 = .ok (.iadd, 1) := by decide +kernel
theorem dX11_value_36 : decode cX11_value 36 = .ok (.iaload, 1) := by decide +kernel
theorem dX11_value_37 : decode cX11_value 37 = .ok (.goto 4, 3) := by decide +kernel
theorem dX11_value_40 : decode cX11_value 40 = .ok (.iconst 0, 1) := by decide +kernel
theorem dX11_value_41 : decode cX11_value 41 = .ok (.ireturn, 1) := by decide +kernel
theorem dX11_call_0 : decode cX11_call 0 = .ok (.aload_n 0, 1) := by decide +kernel
theorem dX11_call_1 : decode cX11_call 1 = .ok (.iload_n 1, 1) := by decide +kernel
theorem dX11_call_2 : decode cX11_call 2 = .ok (.iload_n 2, 1) := by decide +kernel
theorem dX11_call_3 : decode cX11_call 3 = .ok (.invokevirtual 396, 3) := by decide +kernel
theorem dX11_call_6 : decode cX11_call 6 = .ok (.ifCond .eq 27, 3) := by decide +kernel
theorem dX11_call_9 : decode cX11_call 9 = .ok (.iload_n 3, 1) := by decide +kernel
theorem dX11_call_10 : decode cX11_call 10 = .ok (.iconst 0, 1) := by decide +kernel
theorem dX11_call_11 : decode cX11_call 11 = .ok (.aload_n 0, 1) := by decide +kernel
theorem dX11_call_12 : decode cX11_call 12 = .ok (.getfield 28, 3) := by decide +kernel
theorem dX11_call_15 : decode cX11_call 15 = .ok (.bipush 8, 2) := by decide +kernel
theorem dX11_call_17 : decode cX11_call 17 = .ok (.aload_n 0, 1) := by decide +kernel
theorem dX11_call_18 : decode cX11_call 18 = .ok (.getfield 334, 3) := by decide +kernel
theorem dX11_call_21 : decode cX11_call 21 = .ok (.imul, 1) := by decide +kernel
theorem dX11_call_22 : decode cX11_call 22 = .ok (.iload_n 1, 1) := by decide +kernel
theorem dX11_call_23 : decode cX11_call 23 = .ok (.iadd, 1) := by decide +kernel
theorem dX11_call_24 : decode cX11_call 24 = .ok (.iaload, 1) := by decide +kernel
theorem dX11_call_25 : decode cX11_call 25 = .ok (.iconst 1, 1) := by decide +kernel
theorem dX11_call_26 : decode cX11_call 26 = .ok (.isub, 1) := by decide +kernel
theorem dX11_call_27 : decode cX11_call 27 = .ok (.invokestatic 175, 3) := by decide +kernel
theorem dX11_call_30 : decode cX11_call 30 = .ok (.ifCond .ne 7, 3) := by decide +kernel
theorem dX11_call_33 : decode cX11_call 33 = .ok (.ldc_w 395, 3) := by decide +kernel
theorem dX11_call_36 : decode cX11_call 36 = .ok (.ireturn, 1) := by decide +kernel
theorem dX11_call_37 : decode cX11_call 37 = .ok (.aload_n 0, 1) := by decide +kernel
theorem dX11_call_38 : decode cX11_call 38 = .ok (.iconst 0, 1) := by decide +kernel
theorem dX11_call_39 : decode cX11_call 39 = .ok (.putfield 362, 3) := by decide +kernel
theorem dX11_call_42 : decode cX11_call 42 = .ok (.aload_n 0, 1) := by decide +kernel
theorem dX11_call_43 : decode cX11_call 43 = .ok (.iload_n 1, 1) := by decide +kernel
theorem dX11_call_44 : decode cX11_call 44 = .ok (.invokevirtual 400, 3) := by decide +kernel
theorem dX11_call_47 : decode cX11_call 47 = .ok (.ifCond .ne 5, 3) := by decide +kernel
theorem dX11_call_50 : decode cX11_call 50 = .ok (.iconst 0, 1) := by decide +kernel
theorem dX11_call_51 : decode cX11_call 51 = .ok (.ireturn, 1) := by decide +kernel
theorem dX11_call_52 : decode cX11_call 52 = .ok (.aload_n 0, 1) := by decide +kernel
theorem dX11_call_53 : decode cX11_call 53 = .ok (.aload_n 0, 1) := by decide +kernel
theorem dX11_call_54 : decode cX11_call 54 = .ok (.getfield 334, 3) := by decide +kernel
theorem dX11_call_57 : decode cX11_call 57 = .ok (.putfield 183, 3) := by decide +kernel
theorem dX11_call_60 : decode cX11_call 60 = .ok (.bipush 8, 2) := by decide +kernel
theorem dX11_call_62 : decode cX11_call 62 = .ok (.bipush 8, 2) := by decide +kernel
theorem dX11_call_64 : decode cX11_call 64 = .ok (.aload_n 0, 1) := by decide +kernel
theorem dX11_call_65 : decode cX11_call 65 = .ok (.getfield 334, 3) := by decide +kernel
theorem dX11_call_68 : decode cX11_call 68 = .ok (.imul, 1) := by decide +kernel
theorem dX11_call_69 : decode cX11_call 69 = .ok (.iload_n 1, 1) := by decide +kernel
theorem dX11_call_70 : decode cX11_call 70 = .ok (.iadd, 1) := by decide +kernel
theorem dX11_call_71 : decode cX11_call 71 = .ok (.imul, 1) := by decide +kernel
theorem dX11_call_72 : decode cX11_call 72 = .ok (.iload_n 3, 1) := by decide +kernel
theorem dX11_call_73 : decode cX11_call 73 = .ok (.iadd, 1) := by decide +kernel
theorem dX11_call_74 : decode cX11_call 74 = .ok (.istore 4, 2) := by decide +kernel
theorem dX11_call_76 : decode cX11_call 76 = .ok (.aload_n 0, 1) := by decide +kernel
theorem dX11_call_77 : decode cX11_call 77 = .ok (.bipush 12, 2) := by decide +kernel
theorem dX11_call_79 : decode cX11_call 79 = .ok (.bipush 8, 2) := by decide +kernel
theorem dX11_call_81 : decode cX11_call 81 = .ok (.aload_n 0, 1) := by decide +kernel
theorem dX11_call_82 : decode cX11_call 82 = .ok (.getfield 334, 3) := by decide +kernel
theorem dX11_call_85 : decode cX11_call 85 = .ok (.imul, 1) := by decide +kernel
theorem dX11_call_86 : decode cX11_call 86 = .ok (.iload_n 1, 1) := by decide +kernel
theorem dX11_call_87 : decode cX11_call 87 = .ok (.iadd, 1) := by decide +kernel
theorem dX11_call_88 : decode cX11_call 88 = .ok (.imul, 1) := by decide +kernel
theorem dX11_call_89 : decode cX11_call 89 = .ok (.iload_n 2, 1) := by decide +kernel
theorem dX11_call_90 : decode cX11_call 90 = .ok (.iadd, 1) := by decide +kernel
theorem dX11_call_91 : decode cX11_call 91 = .ok (.aload_n 0, 1) := by decide +kernel
theorem dX11_call_92 : decode cX11_call 92 = .ok (.getfield 52, 3) := by decide +kernel
theorem dX11_call_95 : decode cX11_call 95 = .ok (.iload 4, 2) := by decide +kernel
theorem dX11_call_97 : decode cX11_call 97 = .ok (.iaload, 1) := by decide +kernel
theorem dX11_call_98 : decode cX11_call 98 = .ok (.aload_n 0, 1) := by decide +kernel
theorem dX11_call_99 : decode cX11_call 99 = .ok (.getfield 55, 3) := by decide +kernel
theorem dX11_call_102 : decode cX11_call 102 = .ok (.iload 4, 2) := by decide +kernel
theorem dX11_call_104 : decode cX11_call 104 = .ok (.iaload, 1) := by decide +kernel
theorem dX11_call_105 : decode cX11_call 105 = .ok (.invokevirtual 315, 3) := by decide +kernel
theorem dX11_call_108 : decode cX11_call 108 = .ok (.istore 5, 2) := by decide +kernel
theorem dX11_call_110 : decode cX11_call 110 = .ok (.aload_n 0, 1) := by decide +kernel
theorem dX11_call_111 : decode cX11_call 111 = .ok (.iload_n 1, 1) := by decide +kernel
theorem dX11_call_112 : decode cX11_call 112 = .ok (.iload_n 2, 1) := by decide +kernel
theorem dX11_call_113 : decode cX11_call 113 = .ok (.iload 5, 2) := by decide +kernel
theorem dX11_call_115 : decode cX11_call 115 = .ok (.ifCond .ge 13, 3) := by decide +kernel
theorem dX11_call_118 : decode cX11_call 118 = .ok (.aload_n 0, 1) := by decide +kernel
theorem dX11_call_119 : decode cX11_call 119 = .ok (.getfield 58, 3) := by decide +kernel
theorem dX11_call_122 : decode cX11_call 122 = .ok (.iload 4, 2) := by decide +kernel
theorem dX11_call_124 : decode cX11_call 124 = .ok (.iaload, 1) := by decide +kernel
theorem dX11_call_125 : decode cX11_call 125 = .ok (.goto 10, 3) := by decide +kernel
theorem dX11_call_128 : decode cX11_call 128 = .ok (.aload_n 0, 1) := by decide +kernel
theorem dX11_call_129 : decode cX11_call 129 = .ok (.getfield 91, 3) := by decide +kernel
theorem dX11_call_132 : decode cX11_call 132 = .ok (.iload 5, 2) := by decide +kernel
theorem dX11_call_134 : decode cX11_call 134 = .ok (.iaload, 1) := by decide +kernel
theorem dX11_call_135 : decode cX11_call 135 = .ok (.iload 5, 2) := by decide +kernel
theorem dX11_call_137 : decode cX11_call 137 = .ok (.ifCond .ge 13, 3) := by decide +kernel
theorem dX11_call_140 : decode cX11_call 140 = .ok (.aload_n 0, 1) := by decide +kernel
theorem dX11_call_141 : decode cX11_call 141 = .ok (.getfield 61, 3) := by decide +kernel
theorem dX11_call_144 : decode cX11_call 144 = .ok (.iload 4, 2) := by decide +kernel
theorem dX11_call_146 : decode cX11_call 146 = .ok (.iaload, 1) := by decide +kernel
theorem dX11_call_147 : decode cX11_call 147 = .ok (.goto 10, 3) := by decide +kernel
theorem dX11_call_150 : decode cX11_call 150 = .ok (.aload_n 0, 1) := by decide +kernel
theorem dX11_call_151 : decode cX11_call 151 = .ok (.getfield 94, 3) := by decide +kernel
theorem dX11_call_154 : decode cX11_call 154 = .ok (.iload 5, 2) := by decide +kernel
theorem dX11_call_156 : decode cX11_call 156 = .ok (.iaload, 1) := by decide +kernel
theorem dX11_call_157 : decode cX11_call 157 = .ok (.invokevirtual 358, 3) := by decide +kernel
theorem dX11_call_160 : decode cX11_call 160 = .ok (.aload_n 0, 1) := by decide +kernel
theorem dX11_call_161 : decode cX11_call 161 = .ok (.invokevirtual 389, 3) := by decide +kernel
theorem dX11_call_164 : decode cX11_call 164 = .ok (.aload_n 0, 1) := by decide +kernel
theorem dX11_call_165 : decode cX11_call 165 = .ok (.getfield 362, 3) := by decide +kernel
theorem dX11_call_168 : decode cX11_call 168 = .ok (.ifCond .ne 12, 3) := by decide +kernel
theorem dX11_call_171 : decode cX11_call 171 = .ok (.aload_n 0, 1) := by decide +kernel
theorem dX11_call_172 : decode cX11_call 172 = .ok (.getfield 165, 3) := by decide +kernel
theorem dX11_call_175 : decode cX11_call 175 = .ok (.iconst 0, 1) := by decide +kernel
theorem dX11_call_176 : decode cX11_call 176 = .ok (.iaload, 1) := by decide +kernel
theorem dX11_call_177 : decode cX11_call 177 = .ok (.goto 4, 3) := by decide +kernel
theorem dX11_call_180 : decode cX11_call 180 = .ok (.iconst 0, 1) := by decide +kernel
theorem dX11_call_181 : decode cX11_call 181 = .ok (.ireturn, 1) := by decide +kernel
theorem dX11_field_0 : decode cX11_field 0 = .ok (.aload_n 0, 1) := by decide +kernel
theorem dX11_field_1 : decode cX11_field 1 = .ok (.iload_n 1, 1) := by decide +kernel
theorem dX11_field_2 : decode cX11_field 2 = .ok (.invokevirtual 392, 3) := by decide +kernel
theorem dX11_field_5 : decode cX11_field 5 = .ok (.ifCond .eq 27, 3) := by decide +kernel
theorem dX11_field_8 : decode cX11_field 8 = .ok (.iload_n 2, 1) := by decide +kernel
theorem dX11_field_9 : decode cX11_field 9 = .ok (.iconst 0, 1) := by decide +kernel
theorem dX11_field_10 : decode cX11_field 10 = .ok (.aload_n 0, 1) := by decide +kernel
theorem dX11_field_11 : decode cX11_field 11 = .ok (.getfield 31, 3) := by decide +kernel
theorem dX11_field_14 : decode cX11_field 14 = .ok (.bipush 8, 2) := by decide +kernel
theorem dX11_field_16 : decode cX11_field 16 = .ok (.aload_n 0, 1) := by decide +kernel
theorem dX11_field_17 : decode cX11_field 17 = .ok (.getfield 334, 3) := by decide +kernel
theorem dX11_field_20 : decode cX11_field 20 = .ok (.imul, 1) := by decide +kernel
theorem dX11_field_21 : decode cX11_field 21 = .ok (.iload_n 1, 1) := by decide +kernel
theorem dX11_field_22 : decode cX11_field 22 = .ok (.iadd, 1) := by decide +kernel
theorem dX11_field_23 : decode cX11_field 23 = .ok (.iaload, 1) := by decide +kernel
theorem dX11_field_24 : decode cX11_field 24 = .ok (.iconst 1, 1) := by decide +kernel
theorem dX11_field_25 : decode cX11_field 25 = .ok (.isub, 1) := by decide +kernel
theorem dX11_field_26 : decode cX11_field 26 = .ok (.invokestatic 175, 3) := by decide +kernel
theorem dX11_field_29 : decode cX11_field 29 = .ok (.ifCond .ne 7, 3) := by decide +kernel
theorem dX11_field_32 : decode cX11_field 32 = .ok (.ldc_w 395, 3) := by decide +kernel
theorem dX11_field_35 : decode cX11_field 35 = .ok (.ireturn, 1) := by decide +kernel
theorem dX11_field_36 : decode cX11_field 36 = .ok (.aload_n 0, 1) := by decide +kernel
theorem dX11_field_37 : decode cX11_field 37 = .ok (.iconst 0, 1) := by decide +kernel
theorem dX11_field_38 : decode cX11_field 38 = .ok (.putfield 362, 3) := by decide +kernel
theorem dX11_field_41 : decode cX11_field 41 = .ok (.bipush 6, 2) := by decide +kernel
theorem dX11_field_43 : decode cX11_field 43 = .ok (.bipush 8, 2) := by decide +kernel
theorem dX11_field_45 : decode cX11_field 45 = .ok (.aload_n 0, 1) := by decide +kernel
theorem dX11_field_46 : decode cX11_field 46 = .ok (.getfield 334, 3) := by decide +kernel
theorem dX11_field_49 : decode cX11_field 49 = .ok (.imul, 1) := by decide +kernel
theorem dX11_field_50 : decode cX11_field 50 = .ok (.iload_n 1, 1) := by decide +kernel
theorem dX11_field_51 : decode cX11_field 51 = .ok (.iadd, 1) := by decide +kernel
theorem dX11_field_52 : decode cX11_field 52 = .ok (.imul, 1) := by decide +kernel
theorem dX11_field_53 : decode cX11_field 53 = .ok (.iload_n 2, 1) := by decide +kernel
theorem dX11_field_54 : decode cX11_field 54 = .ok (.iadd, 1) := by decide +kernel
theorem dX11_field_55 : decode cX11_field 55 = .ok (.istore_n 3, 1) := by decide +kernel
theorem dX11_field_56 : decode cX11_field 56 = .ok (.aload_n 0, 1) := by decide +kernel
theorem dX11_field_57 : decode cX11_field 57 = .ok (.getfield 73, 3) := by decide +kernel
theorem dX11_field_60 : decode cX11_field 60 = .ok (.iload_n 3, 1) := by decide +kernel
theorem dX11_field_61 : decode cX11_field 61 = .ok (.iaload, 1) := by decide +kernel
theorem dX11_field_62 : decode cX11_field 62 = .ok (.ifCond .ge 10, 3) := by decide +kernel
theorem dX11_field_65 : decode cX11_field 65 = .ok (.aload_n 0, 1) := by decide +kernel
theorem dX11_field_66 : decode cX11_field 66 = .ok (.getfield 70, 3) := by decide +kernel
theorem dX11_field_69 : decode cX11_field 69 = .ok (.iload_n 3, 1) := by decide +kernel
theorem dX11_field_70 : decode cX11_field 70 = .ok (.iaload, 1) := by decide +kernel
theorem dX11_field_71 : decode cX11_field 71 = .ok (.ireturn, 1) := by decide +kernel
theorem dX11_field_72 : decode cX11_field 72 = .ok (.aload_n 0, 1) := by decide +kernel
theorem dX11_field_73 : decode cX11_field 73 = .ok (.iload_n 1, 1) := by decide +kernel
theorem dX11_field_74 : decode cX11_field 74 = .ok (.invokevirtual 400, 3) := by decide +kernel
theorem dX11_field_77 : decode cX11_field 77 = .ok (.ifCond .eq 17, 3) := by decide +kernel
theorem dX11_field_80 : decode cX11_field 80 = .ok (.aload_n 0, 1) := by decide +kernel
theorem dX11_field_81 : decode cX11_field 81 = .ok (.getfield 144, 3) := by decide +kernel
theorem dX11_field_84 : decode cX11_field 84 = .ok (.bipush 6, 2) := by decide +kernel
theorem dX11_field_86 : decode cX11_field 86 = .ok (.iload_n 1, 1) := by decide +kernel
theorem dX11_field_87 : decode cX11_field 87 = .ok (.imul, 1) := by decide +kernel
theorem dX11_field_88 : decode cX11_field 88 = .ok (.iload_n 2, 1) := by decide +kernel
theorem dX11_field_89 : decode cX11_field 89 = .ok (.iadd, 1) := by decide +kernel
theorem dX11_field_90 : decode cX11_field 90 = .ok (.iaload, 1) := by decide +kernel
theorem dX11_field_91 : decode cX11_field 91 = .ok (.goto 4, 3) := by decide +kernel
theorem dX11_field_94 : decode cX11_field 94 = .ok (.iconst 0, 1) := by decide +kernel
theorem dX11_field_95 : decode cX11_field 95 = .ok (.ireturn, 1) := by decide +kernel
theorem dX11_compare_0 : decode cX11_compare 0 = .ok (.aload_n 0, 1) := by decide +kernel
theorem dX11_compare_1 : decode cX11_compare 1 = .ok (.iload_n 1, 1) := by decide +kernel
theorem dX11_compare_2 : decode cX11_compare 2 = .ok (.iload_n 2, 1) := by decide +kernel
theorem dX11_compare_3 : decode cX11_compare 3 = .ok (.invokevirtual 396, 3) := by decide +kernel
theorem dX11_compare_6 : decode cX11_compare 6 = .ok (.ifCond .eq 13, 3) := by decide +kernel
theorem dX11_compare_9 : decode cX11_compare 9 = .ok (.aload_n 0, 1) := by decide +kernel
theorem dX11_compare_10 : decode cX11_compare 10 = .ok (.iload_n 3, 1) := by decide +kernel
theorem dX11_compare_11 : decode cX11_compare 11 = .ok (.iload 4, 2) := by decide +kernel
theorem dX11_compare_13 : decode cX11_compare 13 = .ok (.invokevirtual 396, 3) := by decide +kernel
theorem dX11_compare_16 : decode cX11_compare 16 = .ok (.ifCond .ne 7, 3) := by decide +kernel
theorem dX11_compare_19 : decode cX11_compare 19 = .ok (.ldc_w 395, 3) := by decide +kernel
theorem dX11_compare_22 : decode cX11_compare 22 = .ok (.ireturn, 1) := by decide +kernel
theorem dX11_compare_23 : decode cX11_compare 23 = .ok (.aload_n 0, 1) := by decide +kernel
theorem dX11_compare_24 : decode cX11_compare 24 = .ok (.iconst 0, 1) := by decide +kernel
theorem dX11_compare_25 : decode cX11_compare 25 = .ok (.putfield 362, 3) := by decide +kernel
theorem dX11_compare_28 : decode cX11_compare 28 = .ok (.aload_n 0, 1) := by decide +kernel
theorem dX11_compare_29 : decode cX11_compare 29 = .ok (.iload_n 1, 1) := by decide +kernel
theorem dX11_compare_30 : decode cX11_compare 30 = .ok (.invokevirtual 400, 3) := by decide +kernel
theorem dX11_compare_33 : decode cX11_compare 33 = .ok (.ifCond .eq 11, 3) := by decide +kernel
theorem dX11_compare_36 : decode cX11_compare 36 = .ok (.aload_n 0, 1) := by decide +kernel
theorem dX11_compare_37 : decode cX11_compare 37 = .ok (.iload_n 3, 1) := by decide +kernel
theorem dX11_compare_38 : decode cX11_compare 38 = .ok (.invokevirtual 400, 3) := by decide +kernel
theorem dX11_compare_41 : decode cX11_compare 41 = .ok (.ifCond .ne 5, 3) := by decide +kernel
theorem dX11_compare_44 : decode cX11_compare 44 = .ok (.iconst 0, 1) := by decide +kernel
theorem dX11_compare_45 : decode cX11_compare 45 = .ok (.ireturn, 1) := by decide +kernel
theorem dX11_compare_46 : decode cX11_compare 46 = .ok (.iload_n 1, 1) := by decide +kernel
theorem dX11_compare_47 : decode cX11_compare 47 = .ok (.iload_n 3, 1) := by decide +kernel
theorem dX11_compare_48 : decode cX11_compare 48 = .ok (.if_icmp .eq 10, 3) := by decide +kernel
theorem dX11_compare_51 : decode cX11_compare 51 = .ok (.aload_n 0, 1) := by decide +kernel
theorem dX11_compare_52 : decode cX11_compare 52 = .ok (.iconst 5, 1) := by decide +kernel
theorem dX11_compare_53 : decode cX11_compare 53 = .ok (.invokevirtual 386, 3) := by decide +kernel
theorem dX11_compare_56 : decode cX11_compare 56 = .ok (.iconst 0, 1) := by decide +kernel
theorem dX11_compare_57 : decode cX11_compare 57 = .ok (.ireturn, 1) := by decide +kernel
theorem dX11_compare_58 : decode cX11_compare 58 = .ok (.iload_n 2, 1) := by decide +kernel
theorem dX11_compare_59 : decode cX11_compare 59 = .ok (.iload 4, 2) := by decide +kernel
theorem dX11_compare_61 : decode cX11_compare 61 = .ok (.if_icmp .ge 7, 3) := by decide +kernel
theorem dX11_compare_64 : decode cX11_compare 64 = .ok (.iconst 1, 1) := by decide +kernel
theorem dX11_compare_65 : decode cX11_compare 65 = .ok (.goto 14, 3) := by decide +kernel
theorem dX11_compare_68 : decode cX11_compare 68 = .ok (.iload_n 2, 1) := by decide +kernel
theorem dX11_compare_69 : decode cX11_compare 69 = .ok (.iload 4, 2) := by decide +kernel
theorem dX11_compare_71 : decode cX11_compare 71 = .ok (.if_icmp .ne 7, 3) := by decide +kernel
theorem dX11_compare_74 : decode cX11_compare 74 = .ok (.iconst 2, 1) := by decide +kernel
theorem dX11_compare_75 : decode cX11_compare 75 = .ok (.goto 4, 3) := by decide +kernel
theorem dX11_compare_78 : decode cX11_compare 78 = .ok (.iconst 3, 1) := by decide +kernel
theorem dX11_compare_79 : decode cX11_compare 79 = .ok (.ireturn, 1) := by decide +kernel
theorem dX11_values_0 : decode cX11_values 0 = .ok (.aload_n 0, 1) := by decide +kernel
theorem dX11_values_1 : decode cX11_values 1 = .ok (.iload_n 1, 1) := by decide +kernel
theorem dX11_values_2 : decode cX11_values 2 = .ok (.invokevirtual 392, 3) := by decide +kernel
theorem dX11_values_5 : decode cX11_values 5 = .ok (.ifCond .ne 7, 3) := by decide +kernel
theorem dX11_values_8 : decode cX11_values 8 = .ok (.ldc_w 395, 3) := by decide +kernel
theorem dX11_values_11 : decode cX11_values 11 = .ok (.ireturn, 1) := by decide +kernel
theorem dX11_values_12 : decode cX11_values 12 = .ok (.aload_n 0, 1) := by decide +kernel
theorem dX11_values_13 : decode cX11_values 13 = .ok (.iconst 0, 1) := by decide +kernel
theorem dX11_values_14 : decode cX11_values 14 = .ok (.putfield 362, 3) := by decide +kernel
theorem dX11_values_17 : decode cX11_values 17 = .ok (.aload_n 0, 1) := by decide +kernel
theorem dX11_values_18 : decode cX11_values 18 = .ok (.iload_n 1, 1) := by decide +kernel
theorem dX11_values_19 : decode cX11_values 19 = .ok (.invokevirtual 400, 3) := by decide +kernel
theorem dX11_values_22 : decode cX11_values 22 = .ok (.ifCond .ne 5, 3) := by decide +kernel
theorem dX11_values_25 : decode cX11_values 25 = .ok (.iconst 0, 1) := by decide +kernel
theorem dX11_values_26 : decode cX11_values 26 = .ok (.ireturn, 1) := by decide +kernel
theorem dX11_values_27 : decode cX11_values 27 = .ok (.aload_n 0, 1) := by decide +kernel
theorem dX11_values_28 : decode cX11_values 28 = .ok (.iload_n 1, 1) := by decide +kernel
theorem dX11_values_29 : decode cX11_values 29 = .ok (.putfield 403, 3) := by decide +kernel
theorem dX11_values_32 : decode cX11_values 32 = .ok (.aload_n 0, 1) := by decide +kernel
theorem dX11_values_33 : decode cX11_values 33 = .ok (.aload_n 0, 1) := by decide +kernel
theorem dX11_values_34 : decode cX11_values 34 = .ok (.getfield 25, 3) := by decide +kernel
theorem dX11_values_37 : decode cX11_values 37 = .ok (.bipush 8, 2) := by decide +kernel
theorem dX11_values_39 : decode cX11_values 39 = .ok (.aload_n 0, 1) := by decide +kernel
theorem dX11_values_40 : decode cX11_values 40 = .ok (.getfield 334, 3) := by decide +kernel
theorem dX11_values_43 : decode cX11_values 43 = .ok (.imul, 1) := by decide +kernel
theorem dX11_values_44 : decode cX11_values 44 = .ok (.iload_n 1, 1) := by decide +kernel
theorem dX11_values_45 : decode cX11_values 45 = .ok (.iadd, 1) := by decide +kernel
theorem dX11_values_46 : decode cX11_values 46 = .ok (.iaload, 1) := by decide +kernel
theorem dX11_values_47 : decode cX11_values 47 = .ok (.putfield 349, 3) := by decide +kernel
theorem dX11_values_50 : decode cX11_values 50 = .ok (.iconst 0, 1) := by decide +kernel
theorem dX11_values_51 : decode cX11_values 51 = .ok (.istore_n 2, 1) := by decide +kernel
theorem dX11_values_52 : decode cX11_values 52 = .ok (.iload_n 2, 1) := by decide +kernel
theorem dX11_values_53 : decode cX11_values 53 = .ok (.aload_n 0, 1) := by decide +kernel
theorem dX11_values_54 : decode cX11_values 54 = .ok (.getfield 349, 3) := by decide +kernel
theorem dX11_values_57 : decode cX11_values 57 = .ok (.if_icmp .ge 16, 3) := by decide +kernel
theorem dX11_values_60 : decode cX11_values 60 = .ok (.aload_n 0, 1) := by decide +kernel
theorem dX11_values_61 : decode cX11_values 61 = .ok (.getfield 168, 3) := by decide +kernel
theorem dX11_values_64 : decode cX11_values 64 = .ok (.iload_n 2, 1) := by decide +kernel
theorem dX11_values_65 : decode cX11_values 65 = .ok (.iload_n 2, 1) := by decide +kernel
theorem dX11_values_66 : decode cX11_values 66 = .ok (.iastore, 1) := by decide +kernel
theorem dX11_values_67 : decode cX11_values 67 = .ok (.iinc 2 1, 3) := by decide +kernel
theorem dX11_values_70 : decode cX11_values 70 = .ok (.goto (-18), 3) := by decide +kernel
theorem dX11_values_73 : decode cX11_values 73 = .ok (.aload_n 0, 1) := by decide +kernel
theorem dX11_values_74 : decode cX11_values 74 = .ok (.getfield 349, 3) := by decide +kernel
theorem dX11_values_77 : decode cX11_values 77 = .ok (.ireturn, 1) := by decide +kernel
theorem dX11_swap_0 : decode cX11_swap 0 = .ok (.iload_n 1, 1) := by decide +kernel
theorem dX11_swap_1 : decode cX11_swap 1 = .ok (.iconst 0, 1) := by decide +kernel
theorem dX11_swap_2 : decode cX11_swap 2 = .ok (.aload_n 0, 1) := by decide +kernel
theorem dX11_swap_3 : decode cX11_swap 3 = .ok (.getfield 349, 3) := by decide +kernel
theorem dX11_swap_6 : decode cX11_swap 6 = .ok (.iconst 1, 1) := by decide +kernel
theorem dX11_swap_7 : decode cX11_swap 7 = .ok (.isub, 1) := by decide +kernel
theorem dX11_swap_8 : decode cX11_swap 8 = .ok (.invokestatic 175, 3) := by decide +kernel
theorem dX11_swap_11 : decode cX11_swap 11 = .ok (.ifCond .eq 17, 3) := by decide +kernel
theorem dX11_swap_14 : decode cX11_swap 14 = .ok (.iload_n 2, 1) := by decide +kernel
theorem dX11_swap_15 : decode cX11_swap 15 = .ok (.iconst 0, 1) := by decide +kernel
theorem dX11_swap_16 : decode cX11_swap 16 = .ok (.aload_n 0, 1) := by decide +kernel
theorem dX11_swap_17 : decode cX11_swap 17 = .ok (.getfield 349, 3) := by decide +kernel
theorem dX11_swap_20 : decode cX11_swap 20 = .ok (.iconst 1, 1) := by decide +kernel
theorem dX11_swap_21 : decode cX11_swap 21 = .ok (.isub, 1) := by decide +kernel
theorem dX11_swap_22 : decode cX11_swap 22 = .ok (.invokestatic 175, 3) := by decide +kernel
theorem dX11_swap_25 : decode cX11_swap 25 = .ok (.ifCond .ne 6, 3) := by decide +kernel
theorem dX11_swap_28 : decode cX11_swap 28 = .ok (.ldc 179, 2) := by decide +kernel
theorem dX11_swap_30 : decode cX11_swap 30 = .ok (.ireturn, 1) := by decide +kernel
theorem dX11_swap_31 : decode cX11_swap 31 = .ok (.aload_n 0, 1) := by decide +kernel
theorem dX11_swap_32 : decode cX11_swap 32 = .ok (.getfield 168, 3) := by decide +kernel
theorem dX11_swap_35 : decode cX11_swap 35 = .ok (.iload_n 1, 1) := by decide +kernel
theorem dX11_swap_36 : decode cX11_swap 36 = .ok (.iaload, 1) := by decide +kernel
theorem dX11_swap_37 : decode cX11_swap 37 = .ok (.istore_n 3, 1) := by decide +kernel
theorem dX11_swap_38 : decode cX11_swap 38 = .ok (.aload_n 0, 1) := by decide +kernel
theorem dX11_swap_39 : decode cX11_swap 39 = .ok (.getfield 168, 3) := by decide +kernel
theorem dX11_swap_42 : decode cX11_swap 42 = .ok (.iload_n 1, 1) := by decide +kernel
theorem dX11_swap_43 : decode cX11_swap 43 = .ok (.aload_n 0, 1) := by decide +kernel
theorem dX11_swap_44 : decode cX11_swap 44 = .ok (.getfield 168, 3) := by decide +kernel
theorem dX11_swap_47 : decode cX11_swap 47 = .ok (.iload_n 2, 1) := by decide +kernel
theorem dX11_swap_48 : decode cX11_swap 48 = .ok (.iaload, 1) := by decide +kernel
theorem dX11_swap_49 : decode cX11_swap 49 = .ok (.iastore, 1) := by decide +kernel
theorem dX11_swap_50 : decode cX11_swap 50 = .ok (.aload_n 0, 1) := by decide +kernel
theorem dX11_swap_51 : decode cX11_swap 51 = .ok (.getfield 168, 3) := by decide +kernel
theorem dX11_swap_54 : decode cX11_swap 54 = .ok (.iload_n 2, 1) := by decide +kernel
theorem dX11_swap_55 : decode cX11_swap 55 = .ok (.iload_n 3, 1) := by decide +kernel
theorem dX11_swap_56 : decode cX11_swap 56 = .ok (.iastore, 1) := by decide +kernel
theorem dX11_swap_57 : decode cX11_swap 57 = .ok (.iconst 1, 1) := by decide +kernel
theorem dX11_swap_58 : decode cX11_swap 58 = .ok (.ireturn, 1) := by decide +kernel
theorem dX11_hand_0 : decode cX11_hand 0 = .ok (.aload_n 0, 1) := by decide +kernel
theorem dX11_hand_1 : decode cX11_hand 1 = .ok (.iconst 0, 1) := by decide +kernel
theorem dX11_hand_2 : decode cX11_hand 2 = .ok (.putfield 362, 3) := by decide +kernel
theorem dX11_hand_5 : decode cX11_hand 5 = .ok (.aload_n 0, 1) := by decide +kernel
theorem dX11_hand_6 : decode cX11_hand 6 = .ok (.iconst 0, 1) := by decide +kernel
theorem dX11_hand_7 : decode cX11_hand 7 = .ok (.putfield 352, 3) := by decide +kernel
theorem dX11_hand_10 : decode cX11_hand 10 = .ok (.iload_n 1, 1) := by decide +kernel
theorem dX11_hand_11 : decode cX11_hand 11 = .ok (.iconst 0, 1) := by decide +kernel
theorem dX11_hand_12 : decode cX11_hand 12 = .ok (.aload_n 0, 1) := by decide +kernel
theorem dX11_hand_13 : decode cX11_hand 13 = .ok (.getfield 349, 3) := by decide +kernel
theorem dX11_hand_16 : decode cX11_hand 16 = .ok (.iconst 1, 1) := by decide +kernel
theorem dX11_hand_17 : decode cX11_hand 17 = .ok (.isub, 1) := by decide +kernel
theorem dX11_hand_18 : decode cX11_hand 18 = .ok (.invokestatic 175, 3) := by decide +kernel
theorem dX11_hand_21 : decode cX11_hand 21 = .ok (.ifCond .ne 10, 3) := by decide +kernel
theorem dX11_hand_24 : decode cX11_hand 24 = .ok (.aload_n 0, 1) := by decide +kernel
theorem dX11_hand_25 : decode cX11_hand 25 = .ok (.iconst 4, 1) := by decide +kernel
theorem dX11_hand_26 : decode cX11_hand 26 = .ok (.invokevirtual 386, 3) := by decide +kernel
theorem dX11_hand_29 : decode cX11_hand 29 = .ok (.iconst 0, 1) := by decide +kernel
theorem dX11_hand_30 : decode cX11_hand 30 = .ok (.ireturn, 1) := by decide +kernel
theorem dX11_hand_31 : decode cX11_hand 31 = .ok (.aload_n 0, 1) := by decide +kernel
theorem dX11_hand_32 : decode cX11_hand 32 = .ok (.getfield 141, 3) := by decide +kernel
theorem dX11_hand_35 : decode cX11_hand 35 = .ok (.bipush 12, 2) := by decide +kernel
theorem dX11_hand_37 : decode cX11_hand 37 = .ok (.aload_n 0, 1) := by decide +kernel
theorem dX11_hand_38 : decode cX11_hand 38 = .ok (.getfield 403, 3) := by decide +kernel
theorem dX11_hand_41 : decode cX11_hand 41 = .ok (.imul, 1) := by decide +kernel
theorem dX11_hand_42 : decode cX11_hand 42 = .ok (.aload_n 0, 1) := by decide +kernel
theorem dX11_hand_43 : decode cX11_hand 43 = .ok (.getfield 168, 3) := by decide +kernel
theorem dX11_hand_46 : decode cX11_hand 46 = .ok (.iload_n 1, 1) := by decide +kernel
theorem dX11_hand_47 : decode cX11_hand 47 = .ok (.iaload, 1) := by decide +kernel
theorem dX11_hand_48 : decode cX11_hand 48 = .ok (.iadd, 1) := by decide +kernel
theorem dX11_hand_49 : decode cX11_hand 49 = .ok (.iaload, 1) := by decide +kernel
theorem dX11_hand_50 : decode cX11_hand 50 = .ok (.ireturn, 1) := by decide +kernel
theorem dX11_named_0 : decode cX11_named 0 = .ok (.aload_n 0, 1) := by decide +kernel
theorem dX11_named_1 : decode cX11_named 1 = .ok (.iload_n 1, 1) := by decide +kernel
theorem dX11_named_2 : decode cX11_named 2 = .ok (.invokevirtual 392, 3) := by decide +kernel
theorem dX11_named_5 : decode cX11_named 5 = .ok (.ifCond .ne 7, 3) := by decide +kernel
theorem dX11_named_8 : decode cX11_named 8 = .ok (.ldc_w 395, 3) := by decide +kernel
theorem dX11_named_11 : decode cX11_named 11 = .ok (.ireturn, 1) := by decide +kernel
theorem dX11_named_12 : decode cX11_named 12 = .ok (.aload_n 0, 1) := by decide +kernel
theorem dX11_named_13 : decode cX11_named 13 = .ok (.iconst 0, 1) := by decide +kernel
theorem dX11_named_14 : decode cX11_named 14 = .ok (.putfield 362, 3) := by decide +kernel
theorem dX11_named_17 : decode cX11_named 17 = .ok (.aload_n 0, 1) := by decide +kernel
theorem dX11_named_18 : decode cX11_named 18 = .ok (.getfield 171, 3) := by decide +kernel
theorem dX11_named_21 : decode cX11_named 21 = .ok (.istore_n 2, 1) := by decide +kernel
theorem dX11_named_22 : decode cX11_named 22 = .ok (.aload_n 0, 1) := by decide +kernel
theorem dX11_named_23 : decode cX11_named 23 = .ok (.iconst 0, 1) := by decide +kernel
theorem dX11_named_24 : decode cX11_named 24 = .ok (.putfield 171, 3) := by decide +kernel
theorem dX11_named_27 : decode cX11_named 27 = .ok (.aload_n 0, 1) := by decide +kernel
theorem dX11_named_28 : decode cX11_named 28 = .ok (.iload_n 1, 1) := by decide +kernel
theorem dX11_named_29 : decode cX11_named 29 = .ok (.invokevirtual 400, 3) := by decide +kernel
theorem dX11_named_32 : decode cX11_named 32 = .ok (.ifCond .ne 5, 3) := by decide +kernel
theorem dX11_named_35 : decode cX11_named 35 = .ok (.iconst 0, 1) := by decide +kernel
theorem dX11_named_36 : decode cX11_named 36 = .ok (.ireturn, 1) := by decide +kernel
theorem dX11_named_37 : decode cX11_named 37 = .ok (.iload_n 2, 1) := by decide +kernel
theorem dX11_named_38 : decode cX11_named 38 = .ok (.ifCond .ne 10, 3) := by decide +kernel
theorem dX11_named_41 : decode cX11_named 41 = .ok (.aload_n 0, 1) := by decide +kernel
theorem dX11_named_42 : decode cX11_named 42 = .ok (.iconst 1, 1) := by decide +kernel
theorem dX11_named_43 : decode cX11_named 43 = .ok (.invokevirtual 386, 3) := by decide +kernel
theorem dX11_named_46 : decode cX11_named 46 = .ok (.iconst 0, 1) := by decide +kernel
theorem dX11_named_47 : decode cX11_named 47 = .ok (.ireturn, 1) := by decide +kernel
theorem dX11_named_48 : decode cX11_named 48 = .ok (.iconst 0, 1) := by decide +kernel
theorem dX11_named_49 : decode cX11_named 49 = .ok (.istore_n 3, 1) := by decide +kernel
theorem dX11_named_50 : decode cX11_named 50 = .ok (.iload_n 3, 1) := by decide +kernel
theorem dX11_named_51 : decode cX11_named 51 = .ok (.aload_n 0, 1) := by decide +kernel
theorem dX11_named_52 : decode cX11_named 52 = .ok (.getfield 25, 3) := by decide +kernel
theorem dX11_named_55 : decode cX11_named 55 = .ok (.bipush 8, 2) := by decide +kernel
theorem dX11_named_57 : decode cX11_named 57 = .ok (.aload_n 0, 1) := by decide +kernel
theorem dX11_named_58 : decode cX11_named 58 = .ok (.getfield 334, 3) := by decide +kernel
theorem dX11_named_61 : decode cX11_named 61 = .ok (.imul, 1) := by decide +kernel
theorem dX11_named_62 : decode cX11_named 62 = .ok (.iload_n 1, 1) := by decide +kernel
theorem dX11_named_63 : decode cX11_named 63 = .ok (.iadd, 1) := by decide +kernel
theorem dX11_named_64 : decode cX11_named 64 = .ok (.iaload, 1) := by decide +kernel
theorem dX11_named_65 : decode cX11_named 65 = .ok (.if_icmp .ge 111, 3) := by decide +kernel
theorem dX11_named_68 : decode cX11_named 68 = .ok (.bipush 12, 2) := by decide +kernel
theorem dX11_named_70 : decode cX11_named 70 = .ok (.bipush 8, 2) := by decide +kernel
theorem dX11_named_72 : decode cX11_named 72 = .ok (.aload_n 0, 1) := by decide +kernel
theorem dX11_named_73 : decode cX11_named 73 = .ok (.getfield 334, 3) := by decide +kernel
theorem dX11_named_76 : decode cX11_named 76 = .ok (.imul, 1) := by decide +kernel
theorem dX11_named_77 : decode cX11_named 77 = .ok (.iload_n 1, 1) := by decide +kernel
theorem dX11_named_78 : decode cX11_named 78 = .ok (.iadd, 1) := by decide +kernel
theorem dX11_named_79 : decode cX11_named 79 = .ok (.imul, 1) := by decide +kernel
theorem dX11_named_80 : decode cX11_named 80 = .ok (.iload_n 3, 1) := by decide +kernel
theorem dX11_named_81 : decode cX11_named 81 = .ok (.iadd, 1) := by decide +kernel
theorem dX11_named_82 : decode cX11_named 82 = .ok (.istore 4, 2) := by decide +kernel
theorem dX11_named_84 : decode cX11_named 84 = .ok (.aload_n 0, 1) := by decide +kernel
theorem dX11_named_85 : decode cX11_named 85 = .ok (.getfield 43, 3) := by decide +kernel
theorem dX11_named_88 : decode cX11_named 88 = .ok (.iload 4, 2) := by decide +kernel
theorem dX11_named_90 : decode cX11_named 90 = .ok (.iaload, 1) := by decide +kernel
theorem dX11_named_91 : decode cX11_named 91 = .ok (.iload_n 2, 1) := by decide +kernel
theorem dX11_named_92 : decode cX11_named 92 = .ok (.if_icmp .ne 7, 3) := by decide +kernel
theorem dX11_named_95 : decode cX11_named 95 = .ok (.iconst 1, 1) := by decide +kernel
theorem dX11_named_96 : decode cX11_named 96 = .ok (.goto 4, 3) := by decide +kernel
theorem dX11_named_99 : decode cX11_named 99 = .ok (.iconst 0, 1) := by decide +kernel
theorem dX11_named_100 : decode cX11_named 100 = .ok (.istore 5, 2) := by decide +kernel
theorem dX11_named_102 : decode cX11_named 102 = .ok (.iconst 0, 1) := by decide +kernel
theorem dX11_named_103 : decode cX11_named 103 = .ok (.istore 6, 2) := by decide +kernel
theorem dX11_named_105 : decode cX11_named 105 = .ok (.iload 6, 2) := by decide +kernel
theorem dX11_named_107 : decode cX11_named 107 = .ok (.iload_n 2, 1) := by decide +kernel
theorem dX11_named_108 : decode cX11_named 108 = .ok (.if_icmp .ge 55, 3) := by decide +kernel
theorem dX11_named_111 : decode cX11_named 111 = .ok (.iload 5, 2) := by decide +kernel
theorem dX11_named_113 : decode cX11_named 113 = .ok (.ifCond .eq 50, 3) := by decide +kernel
theorem dX11_named_116 : decode cX11_named 116 = .ok (.aload_n 0, 1) := by decide +kernel
theorem dX11_named_117 : decode cX11_named 117 = .ok (.getfield 13, 3) := by decide +kernel
theorem dX11_named_120 : decode cX11_named 120 = .ok (.sipush 2000, 3) := by decide +kernel
theorem dX11_named_123 : decode cX11_named 123 = .ok (.aload_n 0, 1) := by decide +kernel
theorem dX11_named_124 : decode cX11_named 124 = .ok (.getfield 334, 3) := by decide +kernel
theorem dX11_named_127 : decode cX11_named 127 = .ok (.imul, 1) := by decide +kernel
theorem dX11_named_128 : decode cX11_named 128 = .ok (.aload_n 0, 1) := by decide +kernel
theorem dX11_named_129 : decode cX11_named 129 = .ok (.getfield 40, 3) := by decide +kernel
theorem dX11_named_132 : decode cX11_named 132 = .ok (.iload 4, 2) := by decide +kernel
theorem dX11_named_134 : decode cX11_named 134 = .ok (.iaload, 1) := by decide +kernel
theorem dX11_named_135 : decode cX11_named 135 = .ok (.iadd, 1) := by decide +kernel
theorem dX11_named_136 : decode cX11_named 136 = .ok (.iload 6, 2) := by decide +kernel
theorem dX11_named_138 : decode cX11_named 138 = .ok (.iadd, 1) := by decide +kernel
theorem dX11_named_139 : decode cX11_named 139 = .ok (.iaload, 1) := by decide +kernel
theorem dX11_named_140 : decode cX11_named 140 = .ok (.aload_n 0, 1) := by decide +kernel
theorem dX11_named_141 : decode cX11_named 141 = .ok (.getfield 7, 3) := by decide +kernel
theorem dX11_named_144 : decode cX11_named 144 = .ok (.iload 6, 2) := by decide +kernel
theorem dX11_named_146 : decode cX11_named 146 = .ok (.iaload, 1) := by decide +kernel
theorem dX11_named_147 : decode cX11_named 147 = .ok (.if_icmp .ne 7, 3) := by decide +kernel
theorem dX11_named_150 : decode cX11_named 150 = .ok (.iconst 1, 1) := by decide +kernel
theorem dX11_named_151 : decode cX11_named 151 = .ok (.goto 4, 3) := by decide +kernel
theorem dX11_named_154 : decode cX11_named 154 = .ok (.iconst 0, 1) := by decide +kernel
theorem dX11_named_155 : decode cX11_named 155 = .ok (.istore 5, 2) := by decide +kernel
theorem dX11_named_157 : decode cX11_named 157 = .ok (.iinc 6 1, 3) := by decide +kernel
theorem dX11_named_160 : decode cX11_named 160 = .ok (.goto (-55), 3) := by decide +kernel
theorem dX11_named_163 : decode cX11_named 163 = .ok (.iload 5, 2) := by decide +kernel
theorem dX11_named_165 : decode cX11_named 165 = .ok (.ifCond .eq 5, 3) := by decide +kernel
theorem dX11_named_168 : decode cX11_named 168 = .ok (.iload_n 3, 1) := by decide +kernel
theorem dX11_named_169 : decode cX11_named 169 = .ok (.ireturn, 1) := by decide +kernel
theorem dX11_named_170 : decode cX11_named 170 = .ok (.iinc 3 1, 3) := by decide +kernel
theorem dX11_named_173 : decode cX11_named 173 = .ok (.goto (-123), 3) := by decide +kernel
theorem dX11_named_176 : decode cX11_named 176 = .ok (.aload_n 0, 1) := by decide +kernel
theorem dX11_named_177 : decode cX11_named 177 = .ok (.iconst 3, 1) := by decide +kernel
theorem dX11_named_178 : decode cX11_named 178 = .ok (.invokevirtual 386, 3) := by decide +kernel
theorem dX11_named_181 : decode cX11_named 181 = .ok (.iconst 0, 1) := by decide +kernel
theorem dX11_named_182 : decode cX11_named 182 = .ok (.ireturn, 1) := by decide +kernel
theorem dX11_trace_0 : decode cX11_trace 0 = .ok (.iload_n 1, 1) := by decide +kernel
theorem dX11_trace_1 : decode cX11_trace 1 = .ok (.iconst 0, 1) := by decide +kernel
theorem dX11_trace_2 : decode cX11_trace 2 = .ok (.aload_n 0, 1) := by decide +kernel
theorem dX11_trace_3 : decode cX11_trace 3 = .ok (.getfield 346, 3) := by decide +kernel
theorem dX11_trace_6 : decode cX11_trace 6 = .ok (.iconst 1, 1) := by decide +kernel
theorem dX11_trace_7 : decode cX11_trace 7 = .ok (.isub, 1) := by decide +kernel
theorem dX11_trace_8 : decode cX11_trace 8 = .ok (.invokestatic 175, 3) := by decide +kernel
theorem dX11_trace_11 : decode cX11_trace 11 = .ok (.ifCond .eq 12, 3) := by decide +kernel
theorem dX11_trace_14 : decode cX11_trace 14 = .ok (.aload_n 0, 1) := by decide +kernel
theorem dX11_trace_15 : decode cX11_trace 15 = .ok (.getfield 150, 3) := by decide +kernel
theorem dX11_trace_18 : decode cX11_trace 18 = .ok (.iload_n 1, 1) := by decide +kernel
theorem dX11_trace_19 : decode cX11_trace 19 = .ok (.iaload, 1) := by decide +kernel
theorem dX11_trace_20 : decode cX11_trace 20 = .ok (.goto 5, 3) := by decide +kernel
theorem dX11_trace_23 : decode cX11_trace 23 = .ok (.ldc 133, 2) := by decide +kernel
theorem dX11_trace_25 : decode cX11_trace 25 = .ok (.ireturn, 1) := by decide +kernel
theorem dX11_count_0 : decode cX11_count 0 = .ok (.iload_n 1, 1) := by decide +kernel
theorem dX11_count_1 : decode cX11_count 1 = .ok (.tableswitch 65 0 4 #[35, 45, 50, 55, 60], 35) := by decide +kernel
theorem dX11_count_36 : decode cX11_count 36 = .ok (.aload_n 0, 1) := by decide +kernel
theorem dX11_count_37 : decode cX11_count 37 = .ok (.getfield 16, 3) := by decide +kernel
theorem dX11_count_40 : decode cX11_count 40 = .ok (.aload_n 0, 1) := by decide +kernel
theorem dX11_count_41 : decode cX11_count 41 = .ok (.getfield 334, 3) := by decide +kernel
theorem dX11_count_44 : decode cX11_count 44 = .ok (.iaload, 1) := by decide +kernel
theorem dX11_count_45 : decode cX11_count 45 = .ok (.ireturn, 1) := by decide +kernel
theorem dX11_count_46 : decode cX11_count 46 = .ok (.aload_n 0, 1) := by decide +kernel
theorem dX11_count_47 : decode cX11_count 47 = .ok (.getfield 346, 3) := by decide +kernel
theorem dX11_count_50 : decode cX11_count 50 = .ok (.ireturn, 1) := by decide +kernel
theorem dX11_count_51 : decode cX11_count 51 = .ok (.aload_n 0, 1) := by decide +kernel
theorem dX11_count_52 : decode cX11_count 52 = .ok (.getfield 349, 3) := by decide +kernel
theorem dX11_count_55 : decode cX11_count 55 = .ok (.ireturn, 1) := by decide +kernel
theorem dX11_count_56 : decode cX11_count 56 = .ok (.aload_n 0, 1) := by decide +kernel
theorem dX11_count_57 : decode cX11_count 57 = .ok (.getfield 171, 3) := by decide +kernel
theorem dX11_count_60 : decode cX11_count 60 = .ok (.ireturn, 1) := by decide +kernel
theorem dX11_count_61 : decode cX11_count 61 = .ok (.aload_n 0, 1) := by decide +kernel
theorem dX11_count_62 : decode cX11_count 62 = .ok (.getfield 365, 3) := by decide +kernel
theorem dX11_count_65 : decode cX11_count 65 = .ok (.ireturn, 1) := by decide +kernel
theorem dX11_count_66 : decode cX11_count 66 = .ok (.ldc 179, 2) := by decide +kernel
theorem dX11_count_68 : decode cX11_count 68 = .ok (.ireturn, 1) := by decide +kernel
theorem dX11_clear_0 : decode cX11_clear 0 = .ok (.aload_n 0, 1) := by decide +kernel
theorem dX11_clear_1 : decode cX11_clear 1 = .ok (.getfield 16, 3) := by decide +kernel
theorem dX11_clear_4 : decode cX11_clear 4 = .ok (.aload_n 0, 1) := by decide +kernel
theorem dX11_clear_5 : decode cX11_clear 5 = .ok (.getfield 334, 3) := by decide +kernel
theorem dX11_clear_8 : decode cX11_clear 8 = .ok (.iaload, 1) := by decide +kernel
theorem dX11_clear_9 : decode cX11_clear 9 = .ok (.istore_n 1, 1) := by decide +kernel
theorem dX11_clear_10 : decode cX11_clear 10 = .ok (.aload_n 0, 1) := by decide +kernel
theorem dX11_clear_11 : decode cX11_clear 11 = .ok (.getfield 16, 3) := by decide +kernel
theorem dX11_clear_14 : decode cX11_clear 14 = .ok (.aload_n 0, 1) := by decide +kernel
theorem dX11_clear_15 : decode cX11_clear 15 = .ok (.getfield 334, 3) := by decide +kernel
theorem dX11_clear_18 : decode cX11_clear 18 = .ok (.iconst 0, 1) := by decide +kernel
theorem dX11_clear_19 : decode cX11_clear 19 = .ok (.iastore, 1) := by decide +kernel
theorem dX11_clear_20 : decode cX11_clear 20 = .ok (.aload_n 0, 1) := by decide +kernel
theorem dX11_clear_21 : decode cX11_clear 21 = .ok (.iconst 0, 1) := by decide +kernel
theorem dX11_clear_22 : decode cX11_clear 22 = .ok (.putfield 171, 3) := by decide +kernel
theorem dX11_clear_25 : decode cX11_clear 25 = .ok (.aload_n 0, 1) := by decide +kernel
theorem dX11_clear_26 : decode cX11_clear 26 = .ok (.iconst 0, 1) := by decide +kernel
theorem dX11_clear_27 : decode cX11_clear 27 = .ok (.putfield 343, 3) := by decide +kernel
theorem dX11_clear_30 : decode cX11_clear 30 = .ok (.aload_n 0, 1) := by decide +kernel
theorem dX11_clear_31 : decode cX11_clear 31 = .ok (.ldc 133, 2) := by decide +kernel
theorem dX11_clear_33 : decode cX11_clear 33 = .ok (.putfield 134, 3) := by decide +kernel
theorem dX11_clear_36 : decode cX11_clear 36 = .ok (.aload_n 0, 1) := by decide +kernel
theorem dX11_clear_37 : decode cX11_clear 37 = .ok (.iconst 0, 1) := by decide +kernel
theorem dX11_clear_38 : decode cX11_clear 38 = .ok (.putfield 346, 3) := by decide +kernel
theorem dX11_clear_41 : decode cX11_clear 41 = .ok (.aload_n 0, 1) := by decide +kernel
theorem dX11_clear_42 : decode cX11_clear 42 = .ok (.iconst 0, 1) := by decide +kernel
theorem dX11_clear_43 : decode cX11_clear 43 = .ok (.putfield 349, 3) := by decide +kernel
theorem dX11_clear_46 : decode cX11_clear 46 = .ok (.aload_n 0, 1) := by decide +kernel
theorem dX11_clear_47 : decode cX11_clear 47 = .ok (.iconst 0, 1) := by decide +kernel
theorem dX11_clear_48 : decode cX11_clear 48 = .ok (.putfield 362, 3) := by decide +kernel
theorem dX11_clear_51 : decode cX11_clear 51 = .ok (.aload_n 0, 1) := by decide +kernel
theorem dX11_clear_52 : decode cX11_clear 52 = .ok (.iconst 0, 1) := by decide +kernel
theorem dX11_clear_53 : decode cX11_clear 53 = .ok (.putfield 365, 3) := by decide +kernel
theorem dX11_clear_56 : decode cX11_clear 56 = .ok (.iload_n 1, 1) := by decide +kernel
theorem dX11_clear_57 : decode cX11_clear 57 = .ok (.ireturn, 1) := by decide +kernel
