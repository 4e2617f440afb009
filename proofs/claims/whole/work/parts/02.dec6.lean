theorem dX11_emit_26 : decode cX11_emit 26 = .ok (.aload_n 0, 1) := by decide +kernel
theorem dX11_emit_27 : decode cX11_emit 27 = .ok (.getfield 103, 3) := by decide +kernel
theorem dX11_emit_30 : decode cX11_emit 30 = .ok (.iload_n 3, 1) := by decide +kernel
theorem dX11_emit_31 : decode cX11_emit 31 = .ok (.iload_n 2, 1) := by decide +kernel
theorem dX11_emit_32 : decode cX11_emit 32 = .ok (.iastore, 1) := by decide +kernel
theorem dX11_emit_33 : decode cX11_emit 33 = .ok (.aload_n 0, 1) := by decide +kernel
theorem dX11_emit_34 : decode cX11_emit 34 = .ok (.getfield 109, 3) := by decide +kernel
theorem dX11_emit_37 : decode cX11_emit 37 = .ok (.iload_n 3, 1) := by decide +kernel
theorem dX11_emit_38 : decode cX11_emit 38 = .ok (.aload_n 0, 1) := by decide +kernel
theorem dX11_emit_39 : decode cX11_emit 39 = .ok (.getfield 193, 3) := by decide +kernel
theorem dX11_emit_42 : decode cX11_emit 42 = .ok (.iastore, 1) := by decide +kernel
theorem dX11_emit_43 : decode cX11_emit 43 = .ok (.aload_n 0, 1) := by decide +kernel
theorem dX11_emit_44 : decode cX11_emit 44 = .ok (.getfield 124, 3) := by decide +kernel
theorem dX11_emit_47 : decode cX11_emit 47 = .ok (.iload_n 3, 1) := by decide +kernel
theorem dX11_emit_48 : decode cX11_emit 48 = .ok (.iconst 0, 1) := by decide +kernel
theorem dX11_emit_49 : decode cX11_emit 49 = .ok (.iastore, 1) := by decide +kernel
theorem dX11_emit_50 : decode cX11_emit 50 = .ok (.aload_n 0, 1) := by decide +kernel
theorem dX11_emit_51 : decode cX11_emit 51 = .ok (.getfield 127, 3) := by decide +kernel
theorem dX11_emit_54 : decode cX11_emit 54 = .ok (.iload_n 3, 1) := by decide +kernel
theorem dX11_emit_55 : decode cX11_emit 55 = .ok (.aload_n 0, 1) := by decide +kernel
theorem dX11_emit_56 : decode cX11_emit 56 = .ok (.getfield 265, 3) := by decide +kernel
theorem dX11_emit_59 : decode cX11_emit 59 = .ok (.iastore, 1) := by decide +kernel
theorem dX11_emit_60 : decode cX11_emit 60 = .ok (.aload_n 0, 1) := by decide +kernel
theorem dX11_emit_61 : decode cX11_emit 61 = .ok (.getfield 97, 3) := by decide +kernel
theorem dX11_emit_64 : decode cX11_emit 64 = .ok (.aload_n 0, 1) := by decide +kernel
theorem dX11_emit_65 : decode cX11_emit 65 = .ok (.getfield 183, 3) := by decide +kernel
theorem dX11_emit_68 : decode cX11_emit 68 = .ok (.dup2, 1) := by decide +kernel
theorem dX11_emit_69 : decode cX11_emit 69 = .ok (.iaload, 1) := by decide +kernel
theorem dX11_emit_70 : decode cX11_emit 70 = .ok (.iconst 1, 1) := by decide +kernel
theorem dX11_emit_71 : decode cX11_emit 71 = .ok (.iadd, 1) := by decide +kernel
theorem dX11_emit_72 : decode cX11_emit 72 = .ok (.iastore, 1) := by decide +kernel
theorem dX11_emit_73 : decode cX11_emit 73 = .ok (.return_, 1) := by decide +kernel
theorem dX11_rank_0 : decode cX11_rank 0 = .ok (.iload_n 0, 1) := by decide +kernel
theorem dX11_rank_1 : decode cX11_rank 1 = .ok (.bipush 7, 2) := by decide +kernel
theorem dX11_rank_3 : decode cX11_rank 3 = .ok (.if_icmp .eq 9, 3) := by decide +kernel
theorem dX11_rank_6 : decode cX11_rank 6 = .ok (.iload_n 0, 1) := by decide +kernel
theorem dX11_rank_7 : decode cX11_rank 7 = .ok (.bipush 8, 2) := by decide +kernel
theorem dX11_rank_9 : decode cX11_rank 9 = .ok (.if_icmp .ne 7, 3) := by decide +kernel
theorem dX11_rank_12 : decode cX11_rank 12 = .ok (.iconst 1, 1) := by decide +kernel
theorem dX11_rank_13 : decode cX11_rank 13 = .ok (.goto 20, 3) := by decide +kernel
theorem dX11_rank_16 : decode cX11_rank 16 = .ok (.iload_n 0, 1) := by decide +kernel
theorem dX11_rank_17 : decode cX11_rank 17 = .ok (.bipush 9, 2) := by decide +kernel
theorem dX11_rank_19 : decode cX11_rank 19 = .ok (.if_icmp .eq 9, 3) := by decide +kernel
theorem dX11_rank_22 : decode cX11_rank 22 = .ok (.iload_n 0, 1) := by decide +kernel
theorem dX11_rank_23 : decode cX11_rank 23 = .ok (.bipush 10, 2) := by decide +kernel
theorem dX11_rank_25 : decode cX11_rank 25 = .ok (.if_icmp .ne 7, 3) := by decide +kernel
theorem dX11_rank_28 : decode cX11_rank 28 = .ok (.iconst 2, 1) := by decide +kernel
theorem dX11_rank_29 : decode cX11_rank 29 = .ok (.goto 4, 3) := by decide +kernel
theorem dX11_rank_32 : decode cX11_rank 32 = .ok (.iconst 0, 1) := by decide +kernel
theorem dX11_rank_33 : decode cX11_rank 33 = .ok (.ireturn, 1) := by decide +kernel
theorem dX11_readExp_0 : decode cX11_readExp 0 = .ok (.aload_n 0, 1) := by decide +kernel
theorem dX11_readExp_1 : decode cX11_readExp 1 = .ok (.getfield 281, 3) := by decide +kernel
theorem dX11_readExp_4 : decode cX11_readExp 4 = .ok (.istore_n 1, 1) := by decide +kernel
theorem dX11_readExp_5 : decode cX11_readExp 5 = .ok (.iconst 0, 1) := by decide +kernel
theorem dX11_readExp_6 : decode cX11_readExp 6 = .ok (.istore_n 2, 1) := by decide +kernel
theorem dX11_readExp_7 : decode cX11_readExp 7 = .ok (.iconst 0, 1) := by decide +kernel
theorem dX11_readExp_8 : decode cX11_readExp 8 = .ok (.istore_n 3, 1) := by decide +kernel
theorem dX11_readExp_9 : decode cX11_readExp 9 = .ok (.iconst 1, 1) := by decide +kernel
theorem dX11_readExp_10 : decode cX11_readExp 10 = .ok (.istore 4, 2) := by decide +kernel
theorem dX11_readExp_12 : decode cX11_readExp 12 = .ok (.aload_n 0, 1) := by decide +kernel
theorem dX11_readExp_13 : decode cX11_readExp 13 = .ok (.invokevirtual 249, 3) := by decide +kernel
theorem dX11_readExp_16 : decode cX11_readExp 16 = .ok (.istore 5, 2) := by decide +kernel
theorem dX11_readExp_18 : decode cX11_readExp 18 = .ok (.iload 5, 2) := by decide +kernel
theorem dX11_readExp_20 : decode cX11_readExp 20 = .ok (.ifCond .eq 386, 3) := by decide +kernel
theorem dX11_readExp_23 : decode cX11_readExp 23 = .ok (.aload_n 0, 1) := by decide +kernel
theorem dX11_readExp_24 : decode cX11_readExp 24 = .ok (.invokevirtual 249, 3) := by decide +kernel
theorem dX11_readExp_27 : decode cX11_readExp 27 = .ok (.ifCond .eq 379, 3) := by decide +kernel
theorem dX11_readExp_30 : decode cX11_readExp 30 = .ok (.iload 4, 2) := by decide +kernel
theorem dX11_readExp_32 : decode cX11_readExp 32 = .ok (.ifCond .eq 97, 3) := by decide +kernel
theorem dX11_readExp_35 : decode cX11_readExp 35 = .ok (.aload_n 0, 1) := by decide +kernel
theorem dX11_readExp_36 : decode cX11_readExp 36 = .ok (.bipush 40, 2) := by decide +kernel
theorem dX11_readExp_38 : decode cX11_readExp 38 = .ok (.invokevirtual 253, 3) := by decide +kernel
theorem dX11_readExp_41 : decode cX11_readExp 41 = .ok (.ifCond .ne 12, 3) := by decide +kernel
theorem dX11_readExp_44 : decode cX11_readExp 44 = .ok (.aload_n 0, 1) := by decide +kernel
theorem dX11_readExp_45 : decode cX11_readExp 45 = .ok (.bipush 45, 2) := by decide +kernel
theorem dX11_readExp_47 : decode cX11_readExp 47 = .ok (.invokevirtual 253, 3) := by decide +kernel
theorem dX11_readExp_50 : decode cX11_readExp 50 = .ok (.ifCond .eq 61, 3) := by decide +kernel
theorem dX11_readExp_53 : decode cX11_readExp 53 = .ok (.iload_n 2, 1) := by decide +kernel
theorem dX11_readExp_54 : decode cX11_readExp 54 = .ok (.bipush 8, 2) := by decide +kernel
theorem dX11_readExp_56 : decode cX11_readExp 56 = .ok (.if_icmp .ne 10, 3) := by decide +kernel
theorem dX11_readExp_59 : decode cX11_readExp 59 = .ok (.aload_n 0, 1) := by decide +kernel
theorem dX11_readExp_60 : decode cX11_readExp 60 = .ok (.invokevirtual 259, 3) := by decide +kernel
theorem dX11_readExp_63 : decode cX11_readExp 63 = .ok (.goto (-45), 3) := by decide +kernel
theorem dX11_readExp_66 : decode cX11_readExp 66 = .ok (.iinc 2 1, 3) := by decide +kernel
theorem dX11_readExp_69 : decode cX11_readExp 69 = .ok (.aload_n 0, 1) := by decide +kernel
theorem dX11_readExp_70 : decode cX11_readExp 70 = .ok (.getfield 130, 3) := by decide +kernel
theorem dX11_readExp_73 : decode cX11_readExp 73 = .ok (.aload_n 0, 1) := by decide +kernel
theorem dX11_readExp_74 : decode cX11_readExp 74 = .ok (.getfield 281, 3) := by decide +kernel
theorem dX11_readExp_77 : decode cX11_readExp 77 = .ok (.aload_n 0, 1) := by decide +kernel
theorem dX11_readExp_78 : decode cX11_readExp 78 = .ok (.bipush 40, 2) := by decide +kernel
theorem dX11_readExp_80 : decode cX11_readExp 80 = .ok (.invokevirtual 253, 3) := by decide +kernel
theorem dX11_readExp_83 : decode cX11_readExp 83 = .ok (.ifCond .eq 8, 3) := by decide +kernel
theorem dX11_readExp_86 : decode cX11_readExp 86 = .ok (.bipush 12, 2) := by decide +kernel
theorem dX11_readExp_88 : decode cX11_readExp 88 = .ok (.goto 5, 3) := by decide +kernel
theorem dX11_readExp_91 : decode cX11_readExp 91 = .ok (.bipush 11, 2) := by decide +kernel
theorem dX11_readExp_93 : decode cX11_readExp 93 = .ok (.iastore, 1) := by decide +kernel
theorem dX11_readExp_94 : decode cX11_readExp 94 = .ok (.aload_n 0, 1) := by decide +kernel
theorem dX11_readExp_95 : decode cX11_readExp 95 = .ok (.dup, 1) := by decide +kernel
theorem dX11_readExp_96 : decode cX11_readExp 96 = .ok (.getfield 281, 3) := by decide +kernel
theorem dX11_readExp_99 : decode cX11_readExp 99 = .ok (.iconst 1, 1) := by decide +kernel
theorem dX11_readExp_100 : decode cX11_readExp 100 = .ok (.iadd, 1) := by decide +kernel
theorem dX11_readExp_101 : decode cX11_readExp 101 = .ok (.putfield 281, 3) := by decide +kernel
theorem dX11_readExp_104 : decode cX11_readExp 104 = .ok (.aload_n 0, 1) := by decide +kernel
theorem dX11_readExp_105 : decode cX11_readExp 105 = .ok (.invokevirtual 256, 3) := by decide +kernel
theorem dX11_readExp_108 : decode cX11_readExp 108 = .ok (.goto (-90), 3) := by decide +kernel
theorem dX11_readExp_111 : decode cX11_readExp 111 = .ok (.aload_n 0, 1) := by decide +kernel
theorem dX11_readExp_112 : decode cX11_readExp 112 = .ok (.invokevirtual 284, 3) := by decide +kernel
theorem dX11_readExp_115 : decode cX11_readExp 115 = .ok (.iconst 0, 1) := by decide +kernel
theorem dX11_readExp_116 : decode cX11_readExp 116 = .ok (.istore 4, 2) := by decide +kernel
theorem dX11_readExp_118 : decode cX11_readExp 118 = .ok (.iload_n 2, 1) := by decide +kernel
theorem dX11_readExp_119 : decode cX11_readExp 119 = .ok (.aload_n 0, 1) := by decide +kernel
theorem dX11_readExp_120 : decode cX11_readExp 120 = .ok (.iload_n 1, 1) := by decide +kernel
theorem dX11_readExp_121 : decode cX11_readExp 121 = .ok (.invokevirtual 287, 3) := by decide +kernel
theorem dX11_readExp_124 : decode cX11_readExp 124 = .ok (.isub, 1) := by decide +kernel
theorem dX11_readExp_125 : decode cX11_readExp 125 = .ok (.istore_n 2, 1) := by decide +kernel
theorem dX11_readExp_126 : decode cX11_readExp 126 = .ok (.goto (-108), 3) := by decide +kernel
theorem dX11_readExp_129 : decode cX11_readExp 129 = .ok (.aload_n 0, 1) := by decide +kernel
theorem dX11_readExp_130 : decode cX11_readExp 130 = .ok (.bipush 43, 2) := by decide +kernel
theorem dX11_readExp_132 : decode cX11_readExp 132 = .ok (.invokevirtual 253, 3) := by decide +kernel
theorem dX11_readExp_135 : decode cX11_readExp 135 = .ok (.ifCond .ne 30, 3) := by decide +kernel
theorem dX11_readExp_138 : decode cX11_readExp 138 = .ok (.aload_n 0, 1) := by decide +kernel
theorem dX11_readExp_139 : decode cX11_readExp 139 = .ok (.bipush 45, 2) := by decide +kernel
theorem dX11_readExp_141 : decode cX11_readExp 141 = .ok (.invokevirtual 253, 3) := by decide +kernel
theorem dX11_readExp_144 : decode cX11_readExp 144 = .ok (.ifCond .ne 21, 3) := by decide +kernel
theorem dX11_readExp_147 : decode cX11_readExp 147 = .ok (.aload_n 0, 1) := by decide +kernel
theorem dX11_readExp_148 : decode cX11_readExp 148 = .ok (.bipush 42, 2) := by decide +kernel
theorem dX11_readExp_150 : decode cX11_readExp 150 = .ok (.invokevirtual 253, 3) := by decide +kernel
theorem dX11_readExp_153 : decode cX11_readExp 153 = .ok (.ifCond .ne 12, 3) := by decide +kernel
theorem dX11_readExp_156 : decode cX11_readExp 156 = .ok (.aload_n 0, 1) := by decide +kernel
theorem dX11_readExp_157 : decode cX11_readExp 157 = .ok (.bipush 47, 2) := by decide +kernel
theorem dX11_readExp_159 : decode cX11_readExp 159 = .ok (.invokevirtual 253, 3) := by decide +kernel
theorem dX11_readExp_162 : decode cX11_readExp 162 = .ok (.ifCond .eq 150, 3) := by decide +kernel
theorem dX11_readExp_165 : decode cX11_readExp 165 = .ok (.aload_n 0, 1) := by decide +kernel
theorem dX11_readExp_166 : decode cX11_readExp 166 = .ok (.bipush 43, 2) := by decide +kernel
theorem dX11_readExp_168 : decode cX11_readExp 168 = .ok (.invokevirtual 253, 3) := by decide +kernel
theorem dX11_readExp_171 : decode cX11_readExp 171 = .ok (.ifCond .eq 8, 3) := by decide +kernel
theorem dX11_readExp_174 : decode cX11_readExp 174 = .ok (.bipush 7, 2) := by decide +kernel
theorem dX11_readExp_176 : decode cX11_readExp 176 = .ok (.goto 33, 3) := by decide +kernel
theorem dX11_readExp_179 : decode cX11_readExp 179 = .ok (.aload_n 0, 1) := by decide +kernel
theorem dX11_readExp_180 : decode cX11_readExp 180 = .ok (.bipush 45, 2) := by decide +kernel
theorem dX11_readExp_182 : decode cX11_readExp 182 = .ok (.invokevirtual 253, 3) := by decide +kernel
theorem dX11_readExp_185 : decode cX11_readExp 185 = .ok (.ifCond .eq 8, 3) := by decide +kernel
theorem dX11_readExp_188 : decode cX11_readExp 188 = .ok (.bipush 8, 2) := by decide +kernel
theorem dX11_readExp_190 : decode cX11_readExp 190 = .ok (.goto 19, 3) := by decide +kernel
theorem dX11_readExp_193 : decode cX11_readExp 193 = .ok (.aload_n 0, 1) := by decide +kernel
theorem dX11_readExp_194 : decode cX11_readExp 194 = .ok (.bipush 42, 2) := by decide +kernel
theorem dX11_readExp_196 : decode cX11_readExp 196 = .ok (.invokevirtual 253, 3) := by decide +kernel
theorem dX11_readExp_199 : decode cX11_readExp 199 = .ok (.ifCond .eq 8, 3) := by decide +kernel
theorem dX11_readExp_202 : decode cX11_readExp 202 = .ok (.bipush 9, 2) := by decide +kernel
theorem dX11_readExp_204 : decode cX11_readExp 204 = .ok (.goto 5, 3) := by decide +kernel
theorem dX11_readExp_207 : decode cX11_readExp 207 = .ok (.bipush 10, 2) := by decide +kernel
theorem dX11_readExp_209 : decode cX11_readExp 209 = .ok (.istore 6, 2) := by decide +kernel
theorem dX11_readExp_211 : decode cX11_readExp 211 = .ok (.iinc 3 1, 3) := by decide +kernel
theorem dX11_readExp_214 : decode cX11_readExp 214 = .ok (.iload_n 3, 1) := by decide +kernel
theorem dX11_readExp_215 : decode cX11_readExp 215 = .ok (.bipush 20, 2) := by decide +kernel
theorem dX11_readExp_217 : decode cX11_readExp 217 = .ok (.if_icmp .le 7, 3) := by decide +kernel
theorem dX11_readExp_220 : decode cX11_readExp 220 = .ok (.aload_n 0, 1) := by decide +kernel
theorem dX11_readExp_221 : decode cX11_readExp 221 = .ok (.invokevirtual 259, 3) := by decide +kernel
theorem dX11_readExp_224 : decode cX11_readExp 224 = .ok (.aload_n 0, 1) := by decide +kernel
theorem dX11_readExp_225 : decode cX11_readExp 225 = .ok (.getfield 281, 3) := by decide +kernel
theorem dX11_readExp_228 : decode cX11_readExp 228 = .ok (.iload_n 1, 1) := by decide +kernel
theorem dX11_readExp_229 : decode cX11_readExp 229 = .ok (.if_icmp .le 52, 3) := by decide +kernel
theorem dX11_readExp_232 : decode cX11_readExp 232 = .ok (.aload_n 0, 1) := by decide +kernel
theorem dX11_readExp_233 : decode cX11_readExp 233 = .ok (.getfield 130, 3) := by decide +kernel
theorem dX11_readExp_236 : decode cX11_readExp 236 = .ok (.aload_n 0, 1) := by decide +kernel
theorem dX11_readExp_237 : decode cX11_readExp 237 = .ok (.getfield 281, 3) := by decide +kernel
theorem dX11_readExp_240 : decode cX11_readExp 240 = .ok (.iconst 1, 1) := by decide +kernel
theorem dX11_readExp_241 : decode cX11_readExp 241 = .ok (.isub, 1) := by decide +kernel
theorem dX11_readExp_242 : decode cX11_readExp 242 = .ok (.iaload, 1) := by decide +kernel
theorem dX11_readExp_243 : decode cX11_readExp 243 = .ok (.invokestatic 290, 3) := by decide +kernel
theorem dX11_readExp_246 : decode cX11_readExp 246 = .ok (.iload 6, 2) := by decide +kernel
theorem dX11_readExp_248 : decode cX11_readExp 248 = .ok (.invokestatic 290, 3) := by decide +kernel
theorem dX11_readExp_251 : decode cX11_readExp 251 = .ok (.if_icmp .lt 30, 3) := by decide +kernel
theorem dX11_readExp_254 : decode cX11_readExp 254 = .ok (.aload_n 0, 1) := by decide +kernel
theorem dX11_readExp_255 : decode cX11_readExp 255 = .ok (.dup, 1) := by decide +kernel
theorem dX11_readExp_256 : decode cX11_readExp 256 = .ok (.getfield 281, 3) := by decide +kernel
theorem dX11_readExp_259 : decode cX11_readExp 259 = .ok (.iconst 1, 1) := by decide +kernel
theorem dX11_readExp_260 : decode cX11_readExp 260 = .ok (.isub, 1) := by decide +kernel
theorem dX11_readExp_261 : decode cX11_readExp 261 = .ok (.putfield 281, 3) := by decide +kernel
theorem dX11_readExp_264 : decode cX11_readExp 264 = .ok (.aload_n 0, 1) := by decide +kernel
theorem dX11_readExp_265 : decode cX11_readExp 265 = .ok (.aload_n 0, 1) := by decide +kernel
theorem dX11_readExp_266 : decode cX11_readExp 266 = .ok (.getfield 130, 3) := by decide +kernel
theorem dX11_readExp_269 : decode cX11_readExp 269 = .ok (.aload_n 0, 1) := by decide +kernel
theorem dX11_readExp_270 : decode cX11_readExp 270 = .ok (.getfield 281, 3) := by decide +kernel
theorem dX11_readExp_273 : decode cX11_readExp 273 = .ok (.iaload, 1) := by decide +kernel
theorem dX11_readExp_274 : decode cX11_readExp 274 = .ok (.iconst 0, 1) := by decide +kernel
theorem dX11_readExp_275 : decode cX11_readExp 275 = .ok (.invokevirtual 293, 3) := by decide +kernel
theorem dX11_readExp_278 : decode cX11_readExp 278 = .ok (.goto (-54), 3) := by decide +kernel
theorem dX11_readExp_281 : decode cX11_readExp 281 = .ok (.aload_n 0, 1) := by decide +kernel
theorem dX11_readExp_282 : decode cX11_readExp 282 = .ok (.getfield 130, 3) := by decide +kernel
theorem dX11_readExp_285 : decode cX11_readExp 285 = .ok (.aload_n 0, 1) := by decide +kernel
theorem dX11_readExp_286 : decode cX11_readExp 286 = .ok (.getfield 281, 3) := by decide +kernel
theorem dX11_readExp_289 : decode cX11_readExp 289 = .ok (.iload 6, 2) := by decide +kernel
theorem dX11_readExp_291 : decode cX11_readExp 291 = .ok (.iastore, 1) := by decide +kernel
theorem dX11_readExp_292 : decode cX11_readExp 292 = .ok (.aload_n 0, 1) := by decide +kernel
theorem dX11_readExp_293 : decode cX11_readExp 293 = .ok (.dup, 1) := by decide +kernel
theorem dX11_readExp_294 : decode cX11_readExp 294 = .ok (.getfield 281, 3) := by decide +kernel
theorem dX11_readExp_297 : decode cX11_readExp 297 = .ok (.iconst 1, 1) := by decide +kernel
theorem dX11_readExp_298 : decode cX11_readExp 298 = .ok (.iadd, 1) := by decide +kernel
theorem dX11_readExp_299 : decode cX11_readExp 299 = .ok (.putfield 281, 3) := by decide +kernel
theorem dX11_readExp_302 : decode cX11_readExp 302 = .ok (.aload_n 0, 1) := by decide +kernel
theorem dX11_readExp_303 : decode cX11_readExp 303 = .ok (.invokevirtual 256, 3) := by decide +kernel
theorem dX11_readExp_306 : decode cX11_readExp 306 = .ok (.iconst 1, 1) := by decide +kernel
theorem dX11_readExp_307 : decode cX11_readExp 307 = .ok (.istore 4, 2) := by decide +kernel
theorem dX11_readExp_309 : decode cX11_readExp 309 = .ok (.goto (-291), 3) := by decide +kernel
theorem dX11_readExp_312 : decode cX11_readExp 312 = .ok (.aload_n 0, 1) := by decide +kernel
theorem dX11_readExp_313 : decode cX11_readExp 313 = .ok (.bipush 41, 2) := by decide +kernel
theorem dX11_readExp_315 : decode cX11_readExp 315 = .ok (.invokevirtual 253, 3) := by decide +kernel
theorem dX11_readExp_318 : decode cX11_readExp 318 = .ok (.ifCond .eq 82, 3) := by decide +kernel
theorem dX11_readExp_321 : decode cX11_readExp 321 = .ok (.aload_n 0, 1) := by decide +kernel
theorem dX11_readExp_322 : decode cX11_readExp 322 = .ok (.iload_n 1, 1) := by decide +kernel
theorem dX11_readExp_323 : decode cX11_readExp 323 = .ok (.invokevirtual 297, 3) := by decide +kernel
theorem dX11_readExp_326 : decode cX11_readExp 326 = .ok (.ifCond .eq 74, 3) := by decide +kernel
theorem dX11_readExp_329 : decode cX11_readExp 329 = .ok (.aload_n 0, 1) := by decide +kernel
theorem dX11_readExp_330 : decode cX11_readExp 330 = .ok (.getfield 130, 3) := by decide +kernel
theorem dX11_readExp_333 : decode cX11_readExp 333 = .ok (.aload_n 0, 1) := by decide +kernel
theorem dX11_readExp_334 : decode cX11_readExp 334 = .ok (.getfield 281, 3) := by decide +kernel
theorem dX11_readExp_337 : decode cX11_readExp 337 = .ok (.iconst 1, 1) := by decide +kernel
theorem dX11_readExp_338 : decode cX11_readExp 338 = .ok (.isub, 1) := by decide +kernel
theorem dX11_readExp_339 : decode cX11_readExp 339 = .ok (.iaload, 1) := by decide +kernel
theorem dX11_readExp_340 : decode cX11_readExp 340 = .ok (.bipush 12, 2) := by decide +kernel
theorem dX11_readExp_342 : decode cX11_readExp 342 = .ok (.if_icmp .eq 30, 3) := by decide +kernel
theorem dX11_readExp_345 : decode cX11_readExp 345 = .ok (.aload_n 0, 1) := by decide +kernel
theorem dX11_readExp_346 : decode cX11_readExp 346 = .ok (.dup, 1) := by decide +kernel
theorem dX11_readExp_347 : decode cX11_readExp 347 = .ok (.getfield 281, 3) := by decide +kernel
theorem dX11_readExp_350 : decode cX11_readExp 350 = .ok (.iconst 1, 1) := by decide +kernel
theorem dX11_readExp_351 : decode cX11_readExp 351 = .ok (.isub, 1) := by decide +kernel
theorem dX11_readExp_352 : decode cX11_readExp 352 = .ok (.putfield 281, 3) := by decide +kernel
theorem dX11_readExp_355 : decode cX11_readExp 355 = .ok (.aload_n 0, 1) := by decide +kernel
theorem dX11_readExp_356 : decode cX11_readExp 356 = .ok (.aload_n 0, 1) := by decide +kernel
theorem dX11_readExp_357 : decode cX11_readExp 357 = .ok (.getfield 130, 3) := by decide +kernel
theorem dX11_readExp_360 : decode cX11_readExp 360 = .ok (.aload_n 0, 1) := by decide +kernel
theorem dX11_readExp_361 : decode cX11_readExp 361 = .ok (.getfield 281, 3) := by decide +kernel
theorem dX11_readExp_364 : decode cX11_readExp 364 = .ok (.iaload, 1) := by decide +kernel
theorem dX11_readExp_365 : decode cX11_readExp 365 = .ok (.iconst 0, 1) := by decide +kernel
theorem dX11_readExp_366 : decode cX11_readExp 366 = .ok (.invokevirtual 293, 3) := by decide +kernel
theorem dX11_readExp_369 : decode cX11_readExp 369 = .ok (.goto (-40), 3) := by decide +kernel
theorem dX11_readExp_372 : decode cX11_readExp 372 = .ok (.aload_n 0, 1) := by decide +kernel
theorem dX11_readExp_373 : decode cX11_readExp 373 = .ok (.dup, 1) := by decide +kernel
theorem dX11_readExp_374 : decode cX11_readExp 374 = .ok (.getfield 281, 3) := by decide +kernel
theorem dX11_readExp_377 : decode cX11_readExp 377 = .ok (.iconst 1, 1) := by decide +kernel
theorem dX11_readExp_378 : decode cX11_readExp 378 = .ok (.isub, 1) := by decide +kernel
theorem dX11_readExp_379 : decode cX11_readExp 379 = .ok (.putfield 281, 3) := by decide +kernel
theorem dX11_readExp_382 : decode cX11_readExp 382 = .ok (.iinc 2 (-1), 3) := by decide +kernel
theorem dX11_readExp_385 : decode cX11_readExp 385 = .ok (.aload_n 0, 1) := by decide +kernel
theorem dX11_readExp_386 : decode cX11_readExp 386 = .ok (.invokevirtual 256, 3) := by decide +kernel
theorem dX11_readExp_389 : decode cX11_readExp 389 = .ok (.iload_n 2, 1) := by decide +kernel
theorem dX11_readExp_390 : decode cX11_readExp 390 = .ok (.aload_n 0, 1) := by decide +kernel
theorem dX11_readExp_391 : decode cX11_readExp 391 = .ok (.iload_n 1, 1) := by decide +kernel
theorem dX11_readExp_392 : decode cX11_readExp 392 = .ok (.invokevirtual 287, 3) := by decide +kernel
theorem dX11_readExp_395 : decode cX11_readExp 395 = .ok (.isub, 1) := by decide +kernel
theorem dX11_readExp_396 : decode cX11_readExp 396 = .ok (.istore_n 2, 1) := by decide +kernel
theorem dX11_readExp_397 : decode cX11_readExp 397 = .ok (.goto (-379), 3) := by decide +kernel
theorem dX11_readExp_400 : decode cX11_readExp 400 = .ok (.iconst 0, 1) := by decide +kernel
theorem dX11_readExp_401 : decode cX11_readExp 401 = .ok (.istore 5, 2) := by decide +kernel
theorem dX11_readExp_403 : decode cX11_readExp 403 = .ok (.goto (-385), 3) := by decide +kernel
theorem dX11_readExp_406 : decode cX11_readExp 406 = .ok (.aload_n 0, 1) := by decide +kernel
theorem dX11_readExp_407 : decode cX11_readExp 407 = .ok (.invokevirtual 249, 3) := by decide +kernel
theorem dX11_readExp_410 : decode cX11_readExp 410 = .ok (.ifCond .eq 15, 3) := by decide +kernel
theorem dX11_readExp_413 : decode cX11_readExp 413 = .ok (.aload_n 0, 1) := by decide +kernel
theorem dX11_readExp_414 : decode cX11_readExp 414 = .ok (.iload_n 1, 1) := by decide +kernel
theorem dX11_readExp_415 : decode cX11_readExp 415 = .ok (.invokevirtual 297, 3) := by decide +kernel
theorem dX11_readExp_418 : decode cX11_readExp 418 = .ok (.ifCond .eq 7, 3) := by decide +kernel
theorem dX11_readExp_421 : decode cX11_readExp 421 = .ok (.aload_n 0, 1) := by decide +kernel
theorem dX11_readExp_422 : decode cX11_readExp 422 = .ok (.invokevirtual 259, 3) := by decide +kernel
theorem dX11_readExp_425 : decode cX11_readExp 425 = .ok (.aload_n 0, 1) := by decide +kernel
theorem dX11_readExp_426 : decode cX11_readExp 426 = .ok (.getfield 281, 3) := by decide +kernel
theorem dX11_readExp_429 : decode cX11_readExp 429 = .ok (.iload_n 1, 1) := by decide +kernel
theorem dX11_readExp_430 : decode cX11_readExp 430 = .ok (.if_icmp .le 37, 3) := by decide +kernel
theorem dX11_readExp_433 : decode cX11_readExp 433 = .ok (.aload_n 0, 1) := by decide +kernel
theorem dX11_readExp_434 : decode cX11_readExp 434 = .ok (.dup, 1) := by decide +kernel
theorem dX11_readExp_435 : decode cX11_readExp 435 = .ok (.getfield 281, 3) := by decide +kernel
theorem dX11_readExp_438 : decode cX11_readExp 438 = .ok (.iconst 1, 1) := by decide +kernel
theorem dX11_readExp_439 : decode cX11_readExp 439 = .ok (.isub, 1) := by decide +kernel
theorem dX11_readExp_440 : decode cX11_readExp 440 = .ok (.putfield 281, 3) := by decide +kernel
theorem dX11_readExp_443 : decode cX11_readExp 443 = .ok (.aload_n 0, 1) := by decide +kernel
theorem dX11_readExp_444 : decode cX11_readExp 444 = .ok (.invokevirtual 249, 3) := by decide +kernel
theorem dX11_readExp_447 : decode cX11_readExp 447 = .ok (.ifCond .eq (-22), 3) := by decide +kernel
theorem dX11_readExp_450 : decode cX11_readExp 450 = .ok (.aload_n 0, 1) := by decide +kernel
theorem dX11_readExp_451 : decode cX11_readExp 451 = .ok (.aload_n 0, 1) := by decide +kernel
theorem dX11_readExp_452 : decode cX11_readExp 452 = .ok (.getfield 130, 3) := by decide +kernel
theorem dX11_readExp_455 : decode cX11_readExp 455 = .ok (.aload_n 0, 1) := by decide +kernel
theorem dX11_readExp_456 : decode cX11_readExp 456 = .ok (.getfield 281, 3) := by decide +kernel
theorem dX11_readExp_459 : decode cX11_readExp 459 = .ok (.iaload, 1) := by decide +kernel
theorem dX11_readExp_460 : decode cX11_readExp 460 = .ok (.iconst 0, 1) := by decide +kernel
theorem dX11_readExp_461 : decode cX11_readExp 461 = .ok (.invokevirtual 293, 3) := by decide +kernel
theorem dX11_readExp_464 : decode cX11_readExp 464 = .ok (.goto (-39), 3) := by decide +kernel
theorem dX11_readExp_467 : decode cX11_readExp 467 = .ok (.return_, 1) := by decide +kernel
theorem dX11_hasOpen_0 : decode cX11_hasOpen 0 = .ok (.iconst 0, 1) := by decide +kernel
theorem dX11_hasOpen_1 : decode cX11_hasOpen 1 = .ok (.istore_n 2, 1) := by decide +kernel
theorem dX11_hasOpen_2 : decode cX11_hasOpen 2 = .ok (.iload_n 1, 1) := by decide +kernel
theorem dX11_hasOpen_3 : decode cX11_hasOpen 3 = .ok (.istore_n 3, 1) := by decide +kernel
theorem dX11_hasOpen_4 : decode cX11_hasOpen 4 = .ok (.iload_n 3, 1) := by decide +kernel
theorem dX11_hasOpen_5 : decode cX11_hasOpen 5 = .ok (.aload_n 0, 1) := by decide +kernel
theorem dX11_hasOpen_6 : decode cX11_hasOpen 6 = .ok (.getfield 281, 3) := by decide +kernel
theorem dX11_hasOpen_9 : decode cX11_hasOpen 9 = .ok (.if_icmp .ge 30, 3) := by decide +kernel
theorem dX11_hasOpen_12 : decode cX11_hasOpen 12 = .ok (.iload_n 2, 1) := by decide +kernel
theorem dX11_hasOpen_13 : decode cX11_hasOpen 13 = .ok (.ifCond .ne 14, 3) := by decide +kernel
theorem dX11_hasOpen_16 : decode cX11_hasOpen 16 = .ok (.aload_n 0, 1) := by decide +kernel
theorem dX11_hasOpen_17 : decode cX11_hasOpen 17 = .ok (.getfield 130, 3) := by decide +kernel
theorem dX11_hasOpen_20 : decode cX11_hasOpen 20 = .ok (.iload_n 3, 1) := by decide +kernel
theorem dX11_hasOpen_21 : decode cX11_hasOpen 21 = .ok (.iaload, 1) := by decide +kernel
theorem dX11_hasOpen_22 : decode cX11_hasOpen 22 = .ok (.bipush 12, 2) := by decide +kernel
theorem dX11_hasOpen_24 : decode cX11_hasOpen 24 = .ok (.if_icmp .ne 7, 3) := by decide +kernel
theorem dX11_hasOpen_27 : decode cX11_hasOpen 27 = .ok (.iconst 1, 1) := by decide +kernel
theorem dX11_hasOpen_28 : decode cX11_hasOpen 28 = .ok (.goto 4, 3) := by decide +kernel
theorem dX11_hasOpen_31 : decode cX11_hasOpen 31 = .ok (.iconst 0, 1) := by decide +kernel
theorem dX11_hasOpen_32 : decode cX11_hasOpen 32 = .ok (.istore_n 2, 1) := by decide +kernel
theorem dX11_hasOpen_33 : decode cX11_hasOpen 33 = .ok (.iinc 3 1, 3) := by decide +kernel
theorem dX11_hasOpen_36 : decode cX11_hasOpen 36 = .ok (.goto (-32), 3) := by decide +kernel
theorem dX11_hasOpen_39 : decode cX11_hasOpen 39 = .ok (.iload_n 2, 1) := by decide +kernel
theorem dX11_hasOpen_40 : decode cX11_hasOpen 40 = .ok (.ireturn, 1) := by decide +kernel
theorem dX11_closeMinus_0 : decode cX11_closeMinus 0 = .ok (.iconst 0, 1) := by decide +kernel
theorem dX11_closeMinus_1 : decode cX11_closeMinus 1 = .ok (.istore_n 2, 1) := by decide +kernel
theorem dX11_closeMinus_2 : decode cX11_closeMinus 2 = .ok (.aload_n 0, 1) := by decide +kernel
theorem dX11_closeMinus_3 : decode cX11_closeMinus 3 = .ok (.getfield 281, 3) := by decide +kernel
theorem dX11_closeMinus_6 : decode cX11_closeMinus 6 = .ok (.iload_n 1, 1) := by decide +kernel
theorem dX11_closeMinus_7 : decode cX11_closeMinus 7 = .ok (.if_icmp .le 42, 3) := by decide +kernel
theorem dX11_closeMinus_10 : decode cX11_closeMinus 10 = .ok (.aload_n 0, 1) := by decide +kernel
theorem dX11_closeMinus_11 : decode cX11_closeMinus 11 = .ok (.getfield 130, 3) := by decide +kernel
theorem dX11_closeMinus_14 : decode cX11_closeMinus 14 = .ok (.aload_n 0, 1) := by decide +kernel
theorem dX11_closeMinus_15 : decode cX11_closeMinus 15 = .ok (.getfield 281, 3) := by decide +kernel
theorem dX11_closeMinus_18 : decode cX11_closeMinus 18 = .ok (.iconst 1, 1) := by decide +kernel
theorem dX11_closeMinus_19 : decode cX11_closeMinus 19 = .ok (.isub, 1) := by decide +kernel
theorem dX11_closeMinus_20 : decode cX11_closeMinus 20 = .ok (.iaload, 1) := by decide +kernel
theorem dX11_closeMinus_21 : decode cX11_closeMinus 21 = .ok (.bipush 11, 2) := by decide +kernel
theorem dX11_closeMinus_23 : decode cX11_closeMinus 23 = .ok (.if_icmp .ne 26, 3) := by decide +kernel
theorem dX11_closeMinus_26 : decode cX11_closeMinus 26 = .ok (.aload_n 0, 1) := by decide +kernel
theorem dX11_closeMinus_27 : decode cX11_closeMinus 27 = .ok (.dup, 1) := by decide +kernel
theorem dX11_closeMinus_28 : decode cX11_closeMinus 28 = .ok (.getfield 281, 3) := by decide +kernel
theorem dX11_closeMinus_31 : decode cX11_closeMinus 31 = .ok (.iconst 1, 1) := by decide +kernel
theorem dX11_closeMinus_32 : decode cX11_closeMinus 32 = .ok (.isub, 1) := by decide +kernel
theorem dX11_closeMinus_33 : decode cX11_closeMinus 33 = .ok (.putfield 281, 3) := by decide +kernel
theorem dX11_closeMinus_36 : decode cX11_closeMinus 36 = .ok (.aload_n 0, 1) := by decide +kernel
theorem dX11_closeMinus_37 : decode cX11_closeMinus 37 = .ok (.bipush 11, 2) := by decide +kernel
theorem dX11_closeMinus_39 : decode cX11_closeMinus 39 = .ok (.iconst 0, 1) := by decide +kernel
theorem dX11_closeMinus_40 : decode cX11_closeMinus 40 = .ok (.invokevirtual 293, 3) := by decide +kernel
theorem dX11_closeMinus_43 : decode cX11_closeMinus 43 = .ok (.iinc 2 1, 3) := by decide +kernel
theorem dX11_closeMinus_46 : decode cX11_closeMinus 46 = .ok (.goto (-44), 3) := by decide +kernel
theorem dX11_closeMinus_49 : decode cX11_closeMinus 49 = .ok (.iload_n 2, 1) := by decide +kernel
theorem dX11_closeMinus_50 : decode cX11_closeMinus 50 = .ok (.ireturn, 1) := by decide +kernel
theorem dX11_readOne_0 : decode cX11_readOne 0 = .ok (.sipush 2100, 3) := by decide +kernel
theorem dX11_readOne_3 : decode cX11_readOne 3 = .ok (.aload_n 0, 1) := by decide +kernel
theorem dX11_readOne_4 : decode cX11_readOne 4 = .ok (.getfield 183, 3) := by decide +kernel
theorem dX11_readOne_7 : decode cX11_readOne 7 = .ok (.imul, 1) := by decide +kernel
theorem dX11_readOne_8 : decode cX11_readOne 8 = .ok (.aload_n 0, 1) := by decide +kernel
theorem dX11_readOne_9 : decode cX11_readOne 9 = .ok (.getfield 97, 3) := by decide +kernel
theorem dX11_readOne_12 : decode cX11_readOne 12 = .ok (.aload_n 0, 1) := by decide +kernel
theorem dX11_readOne_13 : decode cX11_readOne 13 = .ok (.getfield 183, 3) := by decide +kernel
theorem dX11_readOne_16 : decode cX11_readOne 16 = .ok (.iaload, 1) := by decide +kernel
theorem dX11_readOne_17 : decode cX11_readOne 17 = .ok (.iadd, 1) := by decide +kernel
theorem dX11_readOne_18 : decode cX11_readOne 18 = .ok (.istore_n 1, 1) := by decide +kernel
theorem dX11_readOne_19 : decode cX11_readOne 19 = .ok (.aload_n 0, 1) := by decide +kernel
theorem dX11_readOne_20 : decode cX11_readOne 20 = .ok (.getfield 196, 3) := by decide +kernel
theorem dX11_readOne_23 : decode cX11_readOne 23 = .ok (.iconst 2, 1) := by decide +kernel
theorem dX11_readOne_24 : decode cX11_readOne 24 = .ok (.if_icmp .ne 19, 3) := by decide +kernel
theorem dX11_readOne_27 : decode cX11_readOne 27 = .ok (.aload_n 0, 1) := by decide +kernel
theorem dX11_readOne_28 : decode cX11_readOne 28 = .ok (.iconst 1, 1) := by decide +kernel
theorem dX11_readOne_29 : decode cX11_readOne 29 = .ok (.aload_n 0, 1) := by decide +kernel
theorem dX11_readOne_30 : decode cX11_readOne 30 = .ok (.getfield 213, 3) := by decide +kernel
theorem dX11_readOne_33 : decode cX11_readOne 33 = .ok (.invokevirtual 293, 3) := by decide +kernel
theorem dX11_readOne_36 : decode cX11_readOne 36 = .ok (.aload_n 0, 1) := by decide +kernel
theorem dX11_readOne_37 : decode cX11_readOne 37 = .ok (.invokevirtual 256, 3) := by decide +kernel
theorem dX11_readOne_40 : decode cX11_readOne 40 = .ok (.goto 164, 3) := by decide +kernel
theorem dX11_readOne_43 : decode cX11_readOne 43 = .ok (.aload_n 0, 1) := by decide +kernel
theorem dX11_readOne_44 : decode cX11_readOne 44 = .ok (.getfield 196, 3) := by decide +kernel
theorem dX11_readOne_47 : decode cX11_readOne 47 = .ok (.bipush 26, 2) := by decide +kernel
theorem dX11_readOne_49 : decode cX11_readOne 49 = .ok (.if_icmp .eq 21, 3) := by decide +kernel
theorem dX11_readOne_52 : decode cX11_readOne 52 = .ok (.aload_n 0, 1) := by decide +kernel
theorem dX11_readOne_53 : decode cX11_readOne 53 = .ok (.getfield 196, 3) := by decide +kernel
theorem dX11_readOne_56 : decode cX11_readOne 56 = .ok (.bipush 27, 2) := by decide +kernel
theorem dX11_readOne_58 : decode cX11_readOne 58 = .ok (.if_icmp .eq 12, 3) := by decide +kernel
theorem dX11_readOne_61 : decode cX11_readOne 61 = .ok (.aload_n 0, 1) := by decide +kernel
theorem dX11_readOne_62 : decode cX11_readOne 62 = .ok (.getfield 196, 3) := by decide +kernel
theorem dX11_readOne_65 : decode cX11_readOne 65 = .ok (.bipush 28, 2) := by decide +kernel
theorem dX11_readOne_67 : decode cX11_readOne 67 = .ok (.if_icmp .ne 43, 3) := by decide +kernel
theorem dX11_readOne_70 : decode cX11_readOne 70 = .ok (.aload_n 0, 1) := by decide +kernel
theorem dX11_readOne_71 : decode cX11_readOne 71 = .ok (.aload_n 0, 1) := by decide +kernel
theorem dX11_readOne_72 : decode cX11_readOne 72 = .ok (.getfield 196, 3) := by decide +kernel
theorem dX11_readOne_75 : decode cX11_readOne 75 = .ok (.bipush 26, 2) := by decide +kernel
theorem dX11_readOne_77 : decode cX11_readOne 77 = .ok (.if_icmp .ne 7, 3) := by decide +kernel
theorem dX11_readOne_80 : decode cX11_readOne 80 = .ok (.iconst 4, 1) := by decide +kernel
theorem dX11_readOne_81 : decode cX11_readOne 81 = .ok (.goto 18, 3) := by decide +kernel
theorem dX11_readOne_84 : decode cX11_readOne 84 = .ok (.aload_n 0, 1) := by decide +kernel
theorem dX11_readOne_85 : decode cX11_readOne 85 = .ok (.getfield 196, 3) := by decide +kernel
theorem dX11_readOne_88 : decode cX11_readOne 88 = .ok (.bipush 27, 2) := by decide +kernel
theorem dX11_readOne_90 : decode cX11_readOne 90 = .ok (.if_icmp .ne 7, 3) := by decide +kernel
theorem dX11_readOne_93 : decode cX11_readOne 93 = .ok (.iconst 5, 1) := by decide +kernel
theorem dX11_readOne_94 : decode cX11_readOne 94 = .ok (.goto 5, 3) := by decide +kernel
theorem dX11_readOne_97 : decode cX11_readOne 97 = .ok (.bipush 6, 2) := by decide +kernel
theorem dX11_readOne_99 : decode cX11_readOne 99 = .ok (.iconst 0, 1) := by decide +kernel
theorem dX11_readOne_100 : decode cX11_readOne 100 = .ok (.invokevirtual 293, 3) := by decide +kernel
theorem dX11_readOne_103 : decode cX11_readOne 103 = .ok (.aload_n 0, 1) := by decide +kernel
theorem dX11_readOne_104 : decode cX11_readOne 104 = .ok (.invokevirtual 256, 3) := by decide +kernel
theorem dX11_readOne_107 : decode cX11_readOne 107 = .ok (.goto 97, 3) := by decide +kernel
theorem dX11_readOne_110 : decode cX11_readOne 110 = .ok (.aload_n 0, 1) := by decide +kernel
theorem dX11_readOne_111 : decode cX11_readOne 111 = .ok (.getfield 196, 3) := by decide +kernel
theorem dX11_readOne_114 : decode cX11_readOne 114 = .ok (.iconst 1, 1) := by decide +kernel
theorem dX11_readOne_115 : decode cX11_readOne 115 = .ok (.if_icmp .ne 85, 3) := by decide +kernel
theorem dX11_readOne_118 : decode cX11_readOne 118 = .ok (.aload_n 0, 1) := by decide +kernel
theorem dX11_readOne_119 : decode cX11_readOne 119 = .ok (.iconst 2, 1) := by decide +kernel
theorem dX11_readOne_120 : decode cX11_readOne 120 = .ok (.iconst 0, 1) := by decide +kernel
theorem dX11_readOne_121 : decode cX11_readOne 121 = .ok (.invokevirtual 293, 3) := by decide +kernel
theorem dX11_readOne_124 : decode cX11_readOne 124 = .ok (.aload_n 0, 1) := by decide +kernel
theorem dX11_readOne_125 : decode cX11_readOne 125 = .ok (.getfield 112, 3) := by decide +kernel
theorem dX11_readOne_128 : decode cX11_readOne 128 = .ok (.iload_n 1, 1) := by decide +kernel
theorem dX11_readOne_129 : decode cX11_readOne 129 = .ok (.aload_n 0, 1) := by decide +kernel
theorem dX11_readOne_130 : decode cX11_readOne 130 = .ok (.getfield 206, 3) := by decide +kernel
theorem dX11_readOne_133 : decode cX11_readOne 133 = .ok (.iastore, 1) := by decide +kernel
theorem dX11_readOne_134 : decode cX11_readOne 134 = .ok (.aload_n 0, 1) := by decide +kernel
theorem dX11_readOne_135 : decode cX11_readOne 135 = .ok (.invokevirtual 256, 3) := by decide +kernel
theorem dX11_readOne_138 : decode cX11_readOne 138 = .ok (.aload_n 0, 1) := by decide +kernel
theorem dX11_readOne_139 : decode cX11_readOne 139 = .ok (.bipush 46, 2) := by decide +kernel
theorem dX11_readOne_141 : decode cX11_readOne 141 = .ok (.invokevirtual 253, 3) := by decide +kernel
theorem dX11_readOne_144 : decode cX11_readOne 144 = .ok (.ifCond .eq 60, 3) := by decide +kernel
theorem dX11_readOne_147 : decode cX11_readOne 147 = .ok (.aload_n 0, 1) := by decide +kernel
theorem dX11_readOne_148 : decode cX11_readOne 148 = .ok (.invokevirtual 256, 3) := by decide +kernel
theorem dX11_readOne_151 : decode cX11_readOne 151 = .ok (.aload_n 0, 1) := by decide +kernel
theorem dX11_readOne_152 : decode cX11_readOne 152 = .ok (.getfield 100, 3) := by decide +kernel
theorem dX11_readOne_155 : decode cX11_readOne 155 = .ok (.iload_n 1, 1) := by decide +kernel
theorem dX11_readOne_156 : decode cX11_readOne 156 = .ok (.iconst 3, 1) := by decide +kernel
theorem dX11_readOne_157 : decode cX11_readOne 157 = .ok (.iastore, 1) := by decide +kernel
theorem dX11_readOne_158 : decode cX11_readOne 158 = .ok (.aload_n 0, 1) := by decide +kernel
theorem dX11_readOne_159 : decode cX11_readOne 159 = .ok (.getfield 115, 3) := by decide +kernel
theorem dX11_readOne_162 : decode cX11_readOne 162 = .ok (.iload_n 1, 1) := by decide +kernel
theorem dX11_readOne_163 : decode cX11_readOne 163 = .ok (.aload_n 0, 1) := by decide +kernel
theorem dX11_readOne_164 : decode cX11_readOne 164 = .ok (.getfield 193, 3) := by decide +kernel
theorem dX11_readOne_167 : decode cX11_readOne 167 = .ok (.iastore, 1) := by decide +kernel
theorem dX11_readOne_168 : decode cX11_readOne 168 = .ok (.aload_n 0, 1) := by decide +kernel
theorem dX11_readOne_169 : decode cX11_readOne 169 = .ok (.getfield 118, 3) := by decide +kernel
theorem dX11_readOne_172 : decode cX11_readOne 172 = .ok (.iload_n 1, 1) := by decide +kernel
theorem dX11_readOne_173 : decode cX11_readOne 173 = .ok (.aload_n 0, 1) := by decide +kernel
theorem dX11_readOne_174 : decode cX11_readOne 174 = .ok (.getfield 206, 3) := by decide +kernel
theorem dX11_readOne_177 : decode cX11_readOne 177 = .ok (.iastore, 1) := by decide +kernel
theorem dX11_readOne_178 : decode cX11_readOne 178 = .ok (.aload_n 0, 1) := by decide +kernel
theorem dX11_readOne_179 : decode cX11_readOne 179 = .ok (.getfield 196, 3) := by decide +kernel
theorem dX11_readOne_182 : decode cX11_readOne 182 = .ok (.iconst 1, 1) := by decide +kernel
theorem dX11_readOne_183 : decode cX11_readOne 183 = .ok (.if_icmp .ne 10, 3) := by decide +kernel
theorem dX11_readOne_186 : decode cX11_readOne 186 = .ok (.aload_n 0, 1) := by decide +kernel
theorem dX11_readOne_187 : decode cX11_readOne 187 = .ok (.invokevirtual 256, 3) := by decide +kernel
theorem dX11_readOne_190 : decode cX11_readOne 190 = .ok (.goto 14, 3) := by decide +kernel
theorem dX11_readOne_193 : decode cX11_readOne 193 = .ok (.aload_n 0, 1) := by decide +kernel
theorem dX11_readOne_194 : decode cX11_readOne 194 = .ok (.invokevirtual 259, 3) := by decide +kernel
theorem dX11_readOne_197 : decode cX11_readOne 197 = .ok (.goto 7, 3) := by decide +kernel
theorem dX11_readOne_200 : decode cX11_readOne 200 = .ok (.aload_n 0, 1) := by decide +kernel
theorem dX11_readOne_201 : decode cX11_readOne 201 = .ok (.invokevirtual 259, 3) := by decide +kernel
theorem dX11_readOne_204 : decode cX11_readOne 204 = .ok (.return_, 1) := by decide +kernel
theorem dX11_memberOf_0 : decode cX11_memberOf 0 = .ok (.iconst 0, 1) := by decide +kernel
theorem dX11_memberOf_1 : decode cX11_memberOf 1 = .ok (.istore 4, 2) := by decide +kernel
theorem dX11_memberOf_3 : decode cX11_memberOf 3 = .ok (.iload 4, 2) := by decide +kernel
theorem dX11_memberOf_5 : decode cX11_memberOf 5 = .ok (.aload_n 0, 1) := by decide +kernel
theorem dX11_memberOf_6 : decode cX11_memberOf 6 = .ok (.getfield 28, 3) := by decide +kernel
theorem dX11_memberOf_9 : decode cX11_memberOf 9 = .ok (.iload_n 1, 1) := by decide +kernel
theorem dX11_memberOf_10 : decode cX11_memberOf 10 = .ok (.iaload, 1) := by decide +kernel
theorem dX11_memberOf_11 : decode cX11_memberOf 11 = .ok (.if_icmp .ge 45, 3) := by decide +kernel
theorem dX11_memberOf_14 : decode cX11_memberOf 14 = .ok (.aload_n 0, 1) := by decide +kernel
theorem dX11_memberOf_15 : decode cX11_memberOf 15 = .ok (.aload_n 0, 1) := by decide +kernel
theorem dX11_memberOf_16 : decode cX11_memberOf 16 = .ok (.getfield 52, 3) := by decide +kernel
theorem dX11_memberOf_19 : decode cX11_memberOf 19 = .ok (.bipush 8, 2) := by decide +kernel
theorem dX11_memberOf_21 : decode cX11_memberOf 21 = .ok (.iload_n 1, 1) := by decide +kernel
theorem dX11_memberOf_22 : decode cX11_memberOf 22 = .ok (.imul, 1) := by decide +kernel
theorem dX11_memberOf_23 : decode cX11_memberOf 23 = .ok (.iload 4, 2) := by decide +kernel
theorem dX11_memberOf_25 : decode cX11_memberOf 25 = .ok (.iadd, 1) := by decide +kernel
theorem dX11_memberOf_26 : decode cX11_memberOf 26 = .ok (.iaload, 1) := by decide +kernel
theorem dX11_memberOf_27 : decode cX11_memberOf 27 = .ok (.aload_n 0, 1) := by decide +kernel
theorem dX11_memberOf_28 : decode cX11_memberOf 28 = .ok (.getfield 55, 3) := by decide +kernel
theorem dX11_memberOf_31 : decode cX11_memberOf 31 = .ok (.bipush 8, 2) := by decide +kernel
theorem dX11_memberOf_33 : decode cX11_memberOf 33 = .ok (.iload_n 1, 1) := by decide +kernel
theorem dX11_memberOf_34 : decode cX11_memberOf 34 = .ok (.imul, 1) := by decide +kernel
theorem dX11_memberOf_35 : decode cX11_memberOf 35 = .ok (.iload 4, 2) := by decide +kernel
theorem dX11_memberOf_37 : decode cX11_memberOf 37 = .ok (.iadd, 1) := by decide +kernel
theorem dX11_memberOf_38 : decode cX11_memberOf 38 = .ok (.iaload, 1) := by decide +kernel
theorem dX11_memberOf_39 : decode cX11_memberOf 39 = .ok (.iload_n 2, 1) := by decide +kernel
theorem dX11_memberOf_40 : decode cX11_memberOf 40 = .ok (.iload_n 3, 1) := by decide +kernel
theorem dX11_memberOf_41 : decode cX11_memberOf 41 = .ok (.invokevirtual 300, 3) := by decide +kernel
theorem dX11_memberOf_44 : decode cX11_memberOf 44 = .ok (.ifCond .eq 6, 3) := by decide +kernel
theorem dX11_memberOf_47 : decode cX11_memberOf 47 = .ok (.iload 4, 2) := by decide +kernel
theorem dX11_memberOf_49 : decode cX11_memberOf 49 = .ok (.ireturn, 1) := by decide +kernel
theorem dX11_memberOf_50 : decode cX11_memberOf 50 = .ok (.iinc 4 1, 3) := by decide +kernel
theorem dX11_memberOf_53 : decode cX11_memberOf 53 = .ok (.goto (-50), 3) := by decide +kernel
theorem dX11_memberOf_56 : decode cX11_memberOf 56 = .ok (.iconst (-1), 1) := by decide +kernel
theorem dX11_memberOf_57 : decode cX11_memberOf 57 = .ok (.ireturn, 1) := by decide +kernel
theorem dX11_fieldOf_0 : decode cX11_fieldOf 0 = .ok (.iconst 0, 1) := by decide +kernel
theorem dX11_fieldOf_1 : decode cX11_fieldOf 1 = .ok (.istore 4, 2) := by decide +kernel
theorem dX11_fieldOf_3 : decode cX11_fieldOf 3 = .ok (.iload 4, 2) := by decide +kernel
theorem dX11_fieldOf_5 : decode cX11_fieldOf 5 = .ok (.aload_n 0, 1) := by decide +kernel
theorem dX11_fieldOf_6 : decode cX11_fieldOf 6 = .ok (.getfield 31, 3) := by decide +kernel
theorem dX11_fieldOf_9 : decode cX11_fieldOf 9 = .ok (.iload_n 1, 1) := by decide +kernel
theorem dX11_fieldOf_10 : decode cX11_fieldOf 10 = .ok (.iaload, 1) := by decide +kernel
theorem dX11_fieldOf_11 : decode cX11_fieldOf 11 = .ok (.if_icmp .ge 45, 3) := by decide +kernel
theorem dX11_fieldOf_14 : decode cX11_fieldOf 14 = .ok (.aload_n 0, 1) := by decide +kernel
theorem dX11_fieldOf_15 : decode cX11_fieldOf 15 = .ok (.aload_n 0, 1) := by decide +kernel
theorem dX11_fieldOf_16 : decode cX11_fieldOf 16 = .ok (.getfield 64, 3) := by decide +kernel
theorem dX11_fieldOf_19 : decode cX11_fieldOf 19 = .ok (.bipush 6, 2) := by decide +kernel
theorem dX11_fieldOf_21 : decode cX11_fieldOf 21 = .ok (.iload_n 1, 1) := by decide +kernel
theorem dX11_fieldOf_22 : decode cX11_fieldOf 22 = .ok (.imul, 1) := by decide +kernel
theorem dX11_fieldOf_23 : decode cX11_fieldOf 23 = .ok (.iload 4, 2) := by decide +kernel
theorem dX11_fieldOf_25 : decode cX11_fieldOf 25 = .ok (.iadd, 1) := by decide +kernel
theorem dX11_fieldOf_26 : decode cX11_fieldOf 26 = .ok (.iaload, 1) := by decide +kernel
theorem dX11_fieldOf_27 : decode cX11_fieldOf 27 = .ok (.aload_n 0, 1) := by decide +kernel
theorem dX11_fieldOf_28 : decode cX11_fieldOf 28 = .ok (.getfield 67, 3) := by decide +kernel
theorem dX11_fieldOf_31 : decode cX11_fieldOf 31 = .ok (.bipush 6, 2) := by decide +kernel
theorem dX11_fieldOf_33 : decode cX11_fieldOf 33 = .ok (.iload_n 1, 1) := by decide +kernel
theorem dX11_fieldOf_34 : decode cX11_fieldOf 34 = .ok (.imul, 1) := by decide +kernel
theorem dX11_fieldOf_35 : decode cX11_fieldOf 35 = .ok (.iload 4, 2) := by decide +kernel
theorem dX11_fieldOf_37 : decode cX11_fieldOf 37 = .ok (.iadd, 1) := by decide +kernel
theorem dX11_fieldOf_38 : decode cX11_fieldOf 38 = .ok (.iaload, 1) := by decide +kernel
theorem dX11_fieldOf_39 : decode cX11_fieldOf 39 = .ok (.iload_n 2, 1) := by decide +kernel
theorem dX11_fieldOf_40 : decode cX11_fieldOf 40 = .ok (.iload_n 3, 1) := by decide +kernel
theorem dX11_fieldOf_41 : decode cX11_fieldOf 41 = .ok (.invokevirtual 300, 3) := by decide +kernel
theorem dX11_fieldOf_44 : decode cX11_fieldOf 44 = .ok (.ifCond .eq 6, 3) := by decide +kernel
theorem dX11_fieldOf_47 : decode cX11_fieldOf 47 = .ok (.iload 4, 2) := by decide +kernel
theorem dX11_fieldOf_49 : decode cX11_fieldOf 49 = .ok (.ireturn, 1) := by decide +kernel
theorem dX11_fieldOf_50 : decode cX11_fieldOf 50 = .ok (.iinc 4 1, 3) := by decide +kernel
theorem dX11_fieldOf_53 : decode cX11_fieldOf 53 = .ok (.goto (-50), 3) := by decide +kernel
theorem dX11_fieldOf_56 : decode cX11_fieldOf 56 = .ok (.iconst (-1), 1) := by decide +kernel
theorem dX11_fieldOf_57 : decode cX11_fieldOf 57 = .ok (.ireturn, 1) := by decide +kernel
theorem dX11_constOf_0 : decode cX11_constOf 0 = .ok (.iconst 0, 1) := by decide +kernel
theorem dX11_constOf_1 : decode cX11_constOf 1 = .ok (.istore 4, 2) := by decide +kernel
theorem dX11_constOf_3 : decode cX11_constOf 3 = .ok (.iload 4, 2) := by decide +kernel
theorem dX11_constOf_5 : decode cX11_constOf 5 = .ok (.aload_n 0, 1) := by decide +kernel
theorem dX11_constOf_6 : decode cX11_constOf 6 = .ok (.getfield 25, 3) := by decide +kernel
theorem dX11_constOf_9 : decode cX11_constOf 9 = .ok (.iload_n 1, 1) := by decide +kernel
theorem dX11_constOf_10 : decode cX11_constOf 10 = .ok (.iaload, 1) := by decide +kernel
theorem dX11_constOf_11 : decode cX11_constOf 11 = .ok (.if_icmp .ge 45, 3) := by decide +kernel
theorem dX11_constOf_14 : decode cX11_constOf 14 = .ok (.aload_n 0, 1) := by decide +kernel
theorem dX11_constOf_15 : decode cX11_constOf 15 = .ok (.aload_n 0, 1) := by decide +kernel
theorem dX11_constOf_16 : decode cX11_constOf 16 = .ok (.getfield 40, 3) := by decide +kernel
theorem dX11_constOf_19 : decode cX11_constOf 19 = .ok (.bipush 12, 2) := by decide +kernel
theorem dX11_constOf_21 : decode cX11_constOf 21 = .ok (.iload_n 1, 1) := by decide +kernel
theorem dX11_constOf_22 : decode cX11_constOf 22 = .ok (.imul, 1) := by decide +kernel
theorem dX11_constOf_23 : decode cX11_constOf 23 = .ok (.iload 4, 2) := by decide +kernel
theorem dX11_constOf_25 : decode cX11_constOf 25 = .ok (.iadd, 1) := by decide +kernel
theorem dX11_constOf_26 : decode cX11_constOf 26 = .ok (.iaload, 1) := by decide +kernel
theorem dX11_constOf_27 : decode cX11_constOf 27 = .ok (.aload_n 0, 1) := by decide +kernel
theorem dX11_constOf_28 : decode cX11_constOf 28 = .ok (.getfield 43, 3) := by decide +kernel
theorem dX11_constOf_31 : decode cX11_constOf 31 = .ok (.bipush 12, 2) := by decide +kernel
theorem dX11_constOf_33 : decode cX11_constOf 33 = .ok (.iload_n 1, 1) := by decide +kernel
theorem dX11_constOf_34 : decode cX11_constOf 34 = .ok (.imul, 1) := by decide +kernel
theorem dX11_constOf_35 : decode cX11_constOf 35 = .ok (.iload 4, 2) := by decide +kernel
theorem dX11_constOf_37 : decode cX11_constOf 37 = .ok (.iadd, 1) := by decide +kernel
theorem dX11_constOf_38 : decode cX11_constOf 38 = .ok (.iaload, 1) := by decide +kernel
theorem dX11_constOf_39 : decode cX11_constOf 39 = .ok (.iload_n 2, 1) := by decide +kernel
theorem dX11_constOf_40 : decode cX11_constOf 40 = .ok (.iload_n 3, 1) := by decide +kernel
theorem dX11_constOf_41 : decode cX11_constOf 41 = .ok (.invokevirtual 300, 3) := by decide +kernel
theorem dX11_constOf_44 : decode cX11_constOf 44 = .ok (.ifCond .eq 6, 3) := by decide +kernel
theorem dX11_constOf_47 : decode cX11_constOf 47 = .ok (.iload 4, 2) := by decide +kernel
theorem dX11_constOf_49 : decode cX11_constOf 49 = .ok (.ireturn, 1) := by decide +kernel
theorem dX11_constOf_50 : decode cX11_constOf 50 = .ok (.iinc 4 1, 3) := by decide +kernel
theorem dX11_constOf_53 : decode cX11_constOf 53 = .ok (.goto (-50), 3) := by decide +kernel
theorem dX11_constOf_56 : decode cX11_constOf 56 = .ok (.iconst (-1), 1) := by decide +kernel
theorem dX11_constOf_57 : decode cX11_constOf 57 = .ok (.ireturn, 1) := by decide +kernel
theorem dX11_enumOf_0 : decode cX11_enumOf 0 = .ok (.bipush 8, 2) := by decide +kernel
theorem dX11_enumOf_2 : decode cX11_enumOf 2 = .ok (.aload_n 0, 1) := by decide +kernel
theorem dX11_enumOf_3 : decode cX11_enumOf 3 = .ok (.getfield 183, 3) := by decide +kernel
theorem dX11_enumOf_6 : decode cX11_enumOf 6 = .ok (.imul, 1) := by decide +kernel
theorem dX11_enumOf_7 : decode cX11_enumOf 7 = .ok (.istore_n 3, 1) := by decide +kernel
theorem dX11_enumOf_8 : decode cX11_enumOf 8 = .ok (.iload_n 3, 1) := by decide +kernel
theorem dX11_enumOf_9 : decode cX11_enumOf 9 = .ok (.bipush 8, 2) := by decide +kernel
theorem dX11_enumOf_11 : decode cX11_enumOf 11 = .ok (.aload_n 0, 1) := by decide +kernel
theorem dX11_enumOf_12 : decode cX11_enumOf 12 = .ok (.getfield 183, 3) := by decide +kernel
theorem dX11_enumOf_15 : decode cX11_enumOf 15 = .ok (.imul, 1) := by decide +kernel
theorem dX11_enumOf_16 : decode cX11_enumOf 16 = .ok (.aload_n 0, 1) := by decide +kernel
theorem dX11_enumOf_17 : decode cX11_enumOf 17 = .ok (.getfield 16, 3) := by decide +kernel
theorem dX11_enumOf_20 : decode cX11_enumOf 20 = .ok (.aload_n 0, 1) := by decide +kernel
theorem dX11_enumOf_21 : decode cX11_enumOf 21 = .ok (.getfield 183, 3) := by decide +kernel
theorem dX11_enumOf_24 : decode cX11_enumOf 24 = .ok (.iaload, 1) := by decide +kernel
theorem dX11_enumOf_25 : decode cX11_enumOf 25 = .ok (.iadd, 1) := by decide +kernel
theorem dX11_enumOf_26 : decode cX11_enumOf 26 = .ok (.if_icmp .ge 32, 3) := by decide +kernel
theorem dX11_enumOf_29 : decode cX11_enumOf 29 = .ok (.aload_n 0, 1) := by decide +kernel
theorem dX11_enumOf_30 : decode cX11_enumOf 30 = .ok (.aload_n 0, 1) := by decide +kernel
theorem dX11_enumOf_31 : decode cX11_enumOf 31 = .ok (.getfield 19, 3) := by decide +kernel
theorem dX11_enumOf_34 : decode cX11_enumOf 34 = .ok (.iload_n 3, 1) := by decide +kernel
theorem dX11_enumOf_35 : decode cX11_enumOf 35 = .ok (.iaload, 1) := by decide +kernel
theorem dX11_enumOf_36 : decode cX11_enumOf 36 = .ok (.aload_n 0, 1) := by decide +kernel
theorem dX11_enumOf_37 : decode cX11_enumOf 37 = .ok (.getfield 22, 3) := by decide +kernel
theorem dX11_enumOf_40 : decode cX11_enumOf 40 = .ok (.iload_n 3, 1) := by decide +kernel
theorem dX11_enumOf_41 : decode cX11_enumOf 41 = .ok (.iaload, 1) := by decide +kernel
theorem dX11_enumOf_42 : decode cX11_enumOf 42 = .ok (.iload_n 1, 1) := by decide +kernel
theorem dX11_enumOf_43 : decode cX11_enumOf 43 = .ok (.iload_n 2, 1) := by decide +kernel
theorem dX11_enumOf_44 : decode cX11_enumOf 44 = .ok (.invokevirtual 300, 3) := by decide +kernel
theorem dX11_enumOf_47 : decode cX11_enumOf 47 = .ok (.ifCond .eq 5, 3) := by decide +kernel
theorem dX11_enumOf_50 : decode cX11_enumOf 50 = .ok (.iload_n 3, 1) := by decide +kernel
theorem dX11_enumOf_51 : decode cX11_enumOf 51 = .ok (.ireturn, 1) := by decide +kernel
theorem dX11_enumOf_52 : decode cX11_enumOf 52 = .ok (.iinc 3 1, 3) := by decide +kernel
theorem dX11_enumOf_55 : decode cX11_enumOf 55 = .ok (.goto (-47), 3) := by decide +kernel
theorem dX11_enumOf_58 : decode cX11_enumOf 58 = .ok (.iconst (-1), 1) := by decide +kernel
theorem dX11_enumOf_59 : decode cX11_enumOf 59 = .ok (.ireturn, 1) := by decide +kernel
theorem dX11_giveBy_0 : decode cX11_giveBy 0 = .ok (.sipush 520, 3) := by decide +kernel
theorem dX11_giveBy_3 : decode cX11_giveBy 3 = .ok (.aload_n 0, 1) := by decide +kernel
theorem dX11_giveBy_4 : decode cX11_giveBy 4 = .ok (.getfield 183, 3) := by decide +kernel
theorem dX11_giveBy_7 : decode cX11_giveBy 7 = .ok (.imul, 1) := by decide +kernel
theorem dX11_giveBy_8 : decode cX11_giveBy 8 = .ok (.istore 4, 2) := by decide +kernel
theorem dX11_giveBy_10 : decode cX11_giveBy 10 = .ok (.iload 4, 2) := by decide +kernel
theorem dX11_giveBy_12 : decode cX11_giveBy 12 = .ok (.sipush 520, 3) := by decide +kernel
theorem dX11_giveBy_15 : decode cX11_giveBy 15 = .ok (.aload_n 0, 1) := by decide +kernel
theorem dX11_giveBy_16 : decode cX11_giveBy 16 = .ok (.getfield 183, 3) := by decide +kernel
theorem dX11_giveBy_19 : decode cX11_giveBy 19 = .ok (.imul, 1) := by decide +kernel
theorem dX11_giveBy_20 : decode cX11_giveBy 20 = .ok (.aload_n 0, 1) := by decide +kernel
theorem dX11_giveBy_21 : decode cX11_giveBy 21 = .ok (.getfield 79, 3) := by decide +kernel
theorem dX11_giveBy_24 : decode cX11_giveBy 24 = .ok (.aload_n 0, 1) := by decide +kernel
theorem dX11_giveBy_25 : decode cX11_giveBy 25 = .ok (.getfield 183, 3) := by decide +kernel
theorem dX11_giveBy_28 : decode cX11_giveBy 28 = .ok (.iaload, 1) := by decide +kernel
theorem dX11_giveBy_29 : decode cX11_giveBy 29 = .ok (.iadd, 1) := by decide +kernel
theorem dX11_giveBy_30 : decode cX11_giveBy 30 = .ok (.if_icmp .ge 46, 3) := by decide +kernel
theorem dX11_giveBy_33 : decode cX11_giveBy 33 = .ok (.aload_n 0, 1) := by decide +kernel
theorem dX11_giveBy_34 : decode cX11_giveBy 34 = .ok (.getfield 82, 3) := by decide +kernel
theorem dX11_giveBy_37 : decode cX11_giveBy 37 = .ok (.iload 4, 2) := by decide +kernel
theorem dX11_giveBy_39 : decode cX11_giveBy 39 = .ok (.iaload, 1) := by decide +kernel
theorem dX11_giveBy_40 : decode cX11_giveBy 40 = .ok (.iload_n 1, 1) := by decide +kernel
theorem dX11_giveBy_41 : decode cX11_giveBy 41 = .ok (.if_icmp .ne 29, 3) := by decide +kernel
theorem dX11_giveBy_44 : decode cX11_giveBy 44 = .ok (.aload_n 0, 1) := by decide +kernel
theorem dX11_giveBy_45 : decode cX11_giveBy 45 = .ok (.aload_n 0, 1) := by decide +kernel
theorem dX11_giveBy_46 : decode cX11_giveBy 46 = .ok (.getfield 85, 3) := by decide +kernel
theorem dX11_giveBy_49 : decode cX11_giveBy 49 = .ok (.iload 4, 2) := by decide +kernel
theorem dX11_giveBy_51 : decode cX11_giveBy 51 = .ok (.iaload, 1) := by decide +kernel
theorem dX11_giveBy_52 : decode cX11_giveBy 52 = .ok (.aload_n 0, 1) := by decide +kernel
theorem dX11_giveBy_53 : decode cX11_giveBy 53 = .ok (.getfield 88, 3) := by decide +kernel
theorem dX11_giveBy_56 : decode cX11_giveBy 56 = .ok (.iload 4, 2) := by decide +kernel
theorem dX11_giveBy_58 : decode cX11_giveBy 58 = .ok (.iaload, 1) := by decide +kernel
theorem dX11_giveBy_59 : decode cX11_giveBy 59 = .ok (.iload_n 2, 1) := by decide +kernel
theorem dX11_giveBy_60 : decode cX11_giveBy 60 = .ok (.iload_n 3, 1) := by decide +kernel
theorem dX11_giveBy_61 : decode cX11_giveBy 61 = .ok (.invokevirtual 300, 3) := by decide +kernel
theorem dX11_giveBy_64 : decode cX11_giveBy 64 = .ok (.ifCond .eq 6, 3) := by decide +kernel
theorem dX11_giveBy_67 : decode cX11_giveBy 67 = .ok (.iload 4, 2) := by decide +kernel
theorem dX11_giveBy_69 : decode cX11_giveBy 69 = .ok (.ireturn, 1) := by decide +kernel
theorem dX11_giveBy_70 : decode cX11_giveBy 70 = .ok (.iinc 4 1, 3) := by decide +kernel
theorem dX11_giveBy_73 : decode cX11_giveBy 73 = .ok (.goto (-63), 3) := by decide +kernel
theorem dX11_giveBy_76 : decode cX11_giveBy 76 = .ok (.iconst (-1), 1) := by decide +kernel
theorem dX11_giveBy_77 : decode cX11_giveBy 77 = .ok (.ireturn, 1) := by decide +kernel
theorem dX11_first_0 : decode cX11_first 0 = .ok (.iconst 0, 1) := by decide +kernel
theorem dX11_first_1 : decode cX11_first 1 = .ok (.istore 4, 2) := by decide +kernel
theorem dX11_first_3 : decode cX11_first 3 = .ok (.iconst 0, 1) := by decide +kernel
theorem dX11_first_4 : decode cX11_first 4 = .ok (.istore 5, 2) := by decide +kernel
theorem dX11_first_6 : decode cX11_first 6 = .ok (.iload 5, 2) := by decide +kernel
theorem dX11_first_8 : decode cX11_first 8 = .ok (.aload_n 0, 1) := by decide +kernel
theorem dX11_first_9 : decode cX11_first 9 = .ok (.getfield 28, 3) := by decide +kernel
theorem dX11_first_12 : decode cX11_first 12 = .ok (.iload_n 1, 1) := by decide +kernel
theorem dX11_first_13 : decode cX11_first 13 = .ok (.iaload, 1) := by decide +kernel
theorem dX11_first_14 : decode cX11_first 14 = .ok (.if_icmp .ge 64, 3) := by decide +kernel
theorem dX11_first_17 : decode cX11_first 17 = .ok (.aload_n 0, 1) := by decide +kernel
theorem dX11_first_18 : decode cX11_first 18 = .ok (.getfield 52, 3) := by decide +kernel
theorem dX11_first_21 : decode cX11_first 21 = .ok (.bipush 8, 2) := by decide +kernel
theorem dX11_first_23 : decode cX11_first 23 = .ok (.iload_n 1, 1) := by decide +kernel
theorem dX11_first_24 : decode cX11_first 24 = .ok (.imul, 1) := by decide +kernel
theorem dX11_first_25 : decode cX11_first 25 = .ok (.iload 5, 2) := by decide +kernel
theorem dX11_first_27 : decode cX11_first 27 = .ok (.iadd, 1) := by decide +kernel
theorem dX11_first_28 : decode cX11_first 28 = .ok (.iaload, 1) := by decide +kernel
theorem dX11_first_29 : decode cX11_first 29 = .ok (.istore 6, 2) := by decide +kernel
theorem dX11_first_31 : decode cX11_first 31 = .ok (.iload 4, 2) := by decide +kernel
theorem dX11_first_33 : decode cX11_first 33 = .ok (.ifCond .ne 32, 3) := by decide +kernel
theorem dX11_first_36 : decode cX11_first 36 = .ok (.iload 6, 2) := by decide +kernel
theorem dX11_first_38 : decode cX11_first 38 = .ok (.iload_n 2, 1) := by decide +kernel
theorem dX11_first_39 : decode cX11_first 39 = .ok (.if_icmp .ge 30, 3) := by decide +kernel
theorem dX11_first_42 : decode cX11_first 42 = .ok (.aload_n 0, 1) := by decide +kernel
theorem dX11_first_43 : decode cX11_first 43 = .ok (.iload 6, 2) := by decide +kernel
theorem dX11_first_45 : decode cX11_first 45 = .ok (.aload_n 0, 1) := by decide +kernel
theorem dX11_first_46 : decode cX11_first 46 = .ok (.getfield 55, 3) := by decide +kernel
theorem dX11_first_49 : decode cX11_first 49 = .ok (.bipush 8, 2) := by decide +kernel
theorem dX11_first_51 : decode cX11_first 51 = .ok (.iload_n 1, 1) := by decide +kernel
theorem dX11_first_52 : decode cX11_first 52 = .ok (.imul, 1) := by decide +kernel
theorem dX11_first_53 : decode cX11_first 53 = .ok (.iload 5, 2) := by decide +kernel
theorem dX11_first_55 : decode cX11_first 55 = .ok (.iadd, 1) := by decide +kernel
theorem dX11_first_56 : decode cX11_first 56 = .ok (.iaload, 1) := by decide +kernel
theorem dX11_first_57 : decode cX11_first 57 = .ok (.iload_n 2, 1) := by decide +kernel
theorem dX11_first_58 : decode cX11_first 58 = .ok (.iload_n 3, 1) := by decide +kernel
theorem dX11_first_59 : decode cX11_first 59 = .ok (.invokevirtual 300, 3) := by decide +kernel
theorem dX11_first_62 : decode cX11_first 62 = .ok (.ifCond .eq 7, 3) := by decide +kernel
theorem dX11_first_65 : decode cX11_first 65 = .ok (.iconst 1, 1) := by decide +kernel
theorem dX11_first_66 : decode cX11_first 66 = .ok (.goto 4, 3) := by decide +kernel
theorem dX11_first_69 : decode cX11_first 69 = .ok (.iconst 0, 1) := by decide +kernel
theorem dX11_first_70 : decode cX11_first 70 = .ok (.istore 4, 2) := by decide +kernel
theorem dX11_first_72 : decode cX11_first 72 = .ok (.iinc 5 1, 3) := by decide +kernel
theorem dX11_first_75 : decode cX11_first 75 = .ok (.goto (-69), 3) := by decide +kernel
theorem dX11_first_78 : decode cX11_first 78 = .ok (.iconst 0, 1) := by decide +kernel
theorem dX11_first_79 : decode cX11_first 79 = .ok (.istore 5, 2) := by decide +kernel
theorem dX11_first_81 : decode cX11_first 81 = .ok (.iload 5, 2) := by decide +kernel
theorem dX11_first_83 : decode cX11_first 83 = .ok (.aload_n 0, 1) := by decide +kernel
theorem dX11_first_84 : decode cX11_first 84 = .ok (.getfield 31, 3) := by decide +kernel
theorem dX11_first_87 : decode cX11_first 87 = .ok (.iload_n 1, 1) := by decide +kernel
theorem dX11_first_88 : decode cX11_first 88 = .ok (.iaload, 1) := by decide +kernel
theorem dX11_first_89 : decode cX11_first 89 = .ok (.if_icmp .ge 64, 3) := by decide +kernel
theorem dX11_first_92 : decode cX11_first 92 = .ok (.aload_n 0, 1) := by decide +kernel
theorem dX11_first_93 : decode cX11_first 93 = .ok (.getfield 64, 3) := by decide +kernel
theorem dX11_first_96 : decode cX11_first 96 = .ok (.bipush 6, 2) := by decide +kernel
theorem dX11_first_98 : decode cX11_first 98 = .ok (.iload_n 1, 1) := by decide +kernel
theorem dX11_first_99 : decode cX11_first 99 = .ok (.imul, 1) := by decide +kernel
theorem dX11_first_100 : decode cX11_first 100 = .ok (.iload 5, 2) := by decide +kernel
theorem dX11_first_102 : decode cX11_first 102 = .ok (.iadd, 1) := by decide +kernel
theorem dX11_first_103 : decode cX11_first 103 = .ok (.iaload, 1) := by decide +kernel
theorem dX11_first_104 : decode cX11_first 104 = .ok (.istore 6, 2) := by decide +kernel
theorem dX11_first_106 : decode cX11_first 106 = .ok (.iload 4, 2) := by decide +kernel
theorem dX11_first_108 : decode cX11_first 108 = .ok (.ifCond .ne 32, 3) := by decide +kernel
theorem dX11_first_111 : decode cX11_first 111 = .ok (.iload 6, 2) := by decide +kernel
theorem dX11_first_113 : decode cX11_first 113 = .ok (.iload_n 2, 1) := by decide +kernel
theorem dX11_first_114 : decode cX11_first 114 = .ok (.if_icmp .ge 30, 3) := by decide +kernel
theorem dX11_first_117 : decode cX11_first 117 = .ok (.aload_n 0, 1) := by decide +kernel
theorem dX11_first_118 : decode cX11_first 118 = .ok (.iload 6, 2) := by decide +kernel
theorem dX11_first_120 : decode cX11_first 120 = .ok (.aload_n 0, 1) := by decide +kernel
theorem dX11_first_121 : decode cX11_first 121 = .ok (.getfield 67, 3) := by decide +kernel
theorem dX11_first_124 : decode cX11_first 124 = .ok (.bipush 6, 2) := by decide +kernel
theorem dX11_first_126 : decode cX11_first 126 = .ok (.iload_n 1, 1) := by decide +kernel
theorem dX11_first_127 : decode cX11_first 127 = .ok (.imul, 1) := by decide +kernel
theorem dX11_first_128 : decode cX11_first 128 = .ok (.iload 5, 2) := by decide +kernel
theorem dX11_first_130 : decode cX11_first 130 = .ok (.iadd, 1) := by decide +kernel
theorem dX11_first_131 : decode cX11_first 131 = .ok (.iaload, 1) := by decide +kernel
theorem dX11_first_132 : decode cX11_first 132 = .ok (.iload_n 2, 1) := by decide +kernel
theorem dX11_first_133 : decode cX11_first 133 = .ok (.iload_n 3, 1) := by decide +kernel
theorem dX11_first_134 : decode cX11_first 134 = .ok (.invokevirtual 300, 3) := by decide +kernel
theorem dX11_first_137 : decode cX11_first 137 = .ok (.ifCond .eq 7, 3) := by decide +kernel
theorem dX11_first_140 : decode cX11_first 140 = .ok (.iconst 1, 1) := by decide +kernel
theorem dX11_first_141 : decode cX11_first 141 = .ok (.goto 4, 3) := by decide +kernel
theorem dX11_first_144 : decode cX11_first 144 = .ok (.iconst 0, 1) := by decide +kernel
theorem dX11_first_145 : decode cX11_first 145 = .ok (.istore 4, 2) := by decide +kernel
theorem dX11_first_147 : decode cX11_first 147 = .ok (.iinc 5 1, 3) := by decide +kernel
theorem dX11_first_150 : decode cX11_first 150 = .ok (.goto (-69), 3) := by decide +kernel
theorem dX11_first_153 : decode cX11_first 153 = .ok (.iconst 0, 1) := by decide +kernel
theorem dX11_first_154 : decode cX11_first 154 = .ok (.istore 5, 2) := by decide +kernel
theorem dX11_first_156 : decode cX11_first 156 = .ok (.iload 5, 2) := by decide +kernel
theorem dX11_first_158 : decode cX11_first 158 = .ok (.aload_n 0, 1) := by decide +kernel
theorem dX11_first_159 : decode cX11_first 159 = .ok (.getfield 25, 3) := by decide +kernel
theorem dX11_first_162 : decode cX11_first 162 = .ok (.iload_n 1, 1) := by decide +kernel
theorem dX11_first_163 : decode cX11_first 163 = .ok (.iaload, 1) := by decide +kernel
theorem dX11_first_164 : decode cX11_first 164 = .ok (.if_icmp .ge 64, 3) := by decide +kernel
theorem dX11_first_167 : decode cX11_first 167 = .ok (.aload_n 0, 1) := by decide +kernel
theorem dX11_first_168 : decode cX11_first 168 = .ok (.getfield 40, 3) := by decide +kernel
theorem dX11_first_171 : decode cX11_first 171 = .ok (.bipush 12, 2) := by decide +kernel
theorem dX11_first_173 : decode cX11_first 173 = .ok (.iload_n 1, 1) := by decide +kernel
theorem dX11_first_174 : decode cX11_first 174 = .ok (.imul, 1) := by decide +kernel
theorem dX11_first_175 : decode cX11_first 175 = .ok (.iload 5, 2) := by decide +kernel
theorem dX11_first_177 : decode cX11_first 177 = .ok (.iadd, 1) := by decide +kernel
theorem dX11_first_178 : decode cX11_first 178 = .ok (.iaload, 1) := by decide +kernel
theorem dX11_first_179 : decode cX11_first 179 = .ok (.istore 6, 2) := by decide +kernel
theorem dX11_first_181 : decode cX11_first 181 = .ok (.iload 4, 2) := by decide +kernel
theorem dX11_first_183 : decode cX11_first 183 = .ok (.ifCond .ne 32, 3) := by decide +kernel
theorem dX11_first_186 : decode cX11_first 186 = .ok (.iload 6, 2) := by decide +kernel
theorem dX11_first_188 : decode cX11_first 188 = .ok (.iload_n 2, 1) := by decide +kernel
theorem dX11_first_189 : decode cX11_first 189 = .ok (.if_icmp .ge 30, 3) := by decide +kernel
theorem dX11_first_192 : decode cX11_first 192 = .ok (.aload_n 0, 1) := by decide +kernel
theorem dX11_first_193 : decode cX11_first 193 = .ok (.iload 6, 2) := by decide +kernel
theorem dX11_first_195 : decode cX11_first 195 = .ok (.aload_n 0, 1) := by decide +kernel
theorem dX11_first_196 : decode cX11_first 196 = .ok (.getfield 43, 3) := by decide +kernel
theorem dX11_first_199 : decode cX11_first 199 = .ok (.bipush 12, 2) := by decide +kernel
theorem dX11_first_201 : decode cX11_first 201 = .ok (.iload_n 1, 1) := by decide +kernel
theorem dX11_first_202 : decode cX11_first 202 = .ok (.imul, 1) := by decide +kernel
theorem dX11_first_203 : decode cX11_first 203 = .ok (.iload 5, 2) := by decide +kernel
theorem dX11_first_205 : decode cX11_first 205 = .ok (.iadd, 1) := by decide +kernel
theorem dX11_first_206 : decode cX11_first 206 = .ok (.iaload, 1) := by decide +kernel
theorem dX11_first_207 : decode cX11_first 207 = .ok (.iload_n 2, 1) := by decide +kernel
theorem dX11_first_208 : decode cX11_first 208 = .ok (.iload_n 3, 1) := by decide +kernel
theorem dX11_first_209 : decode cX11_first 209 = .ok (.invokevirtual 300, 3) := by decide +kernel
theorem dX11_first_212 : decode cX11_first 212 = .ok (.ifCond .eq 7, 3) := by decide +kernel
theorem dX11_first_215 : decode cX11_first 215 = .ok (.iconst 1, 1) := by decide +kernel
theorem dX11_first_216 : decode cX11_first 216 = .ok (.goto 4, 3) := by decide +kernel
theorem dX11_first_219 : decode cX11_first 219 = .ok (.iconst 0, 1) := by decide +kernel
theorem dX11_first_220 : decode cX11_first 220 = .ok (.istore 4, 2) := by decide +kernel
theorem dX11_first_222 : decode cX11_first 222 = .ok (.iinc 5 1, 3) := by decide +kernel
theorem dX11_first_225 : decode cX11_first 225 = .ok (.goto (-69), 3) := by decide +kernel
theorem dX11_first_228 : decode cX11_first 228 = .ok (.iload 4, 2) := by decide +kernel
theorem dX11_first_230 : decode cX11_first 230 = .ok (.ifCond .eq 9, 3) := by decide +kernel
theorem dX11_first_233 : decode cX11_first 233 = .ok (.aload_n 0, 1) := by decide +kernel
theorem dX11_first_234 : decode cX11_first 234 = .ok (.iconst 2, 1) := by decide +kernel
theorem dX11_first_235 : decode cX11_first 235 = .ok (.iload_n 2, 1) := by decide +kernel
theorem dX11_first_236 : decode cX11_first 236 = .ok (.invokevirtual 304, 3) := by decide +kernel
theorem dX11_first_239 : decode cX11_first 239 = .ok (.return_, 1) := by decide +kernel
theorem dX11_lookAtEnum_0 : decode cX11_lookAtEnum 0 = .ok (.aload_n 0, 1) := by decide +kernel
theorem dX11_lookAtEnum_1 : decode cX11_lookAtEnum 1 = .ok (.aload_n 0, 1) := by decide +kernel
theorem dX11_lookAtEnum_2 : decode cX11_lookAtEnum 2 = .ok (.getfield 19, 3) := by decide +kernel
theorem dX11_lookAtEnum_5 : decode cX11_lookAtEnum 5 = .ok (.iload_n 1, 1) := by decide +kernel
theorem dX11_lookAtEnum_6 : decode cX11_lookAtEnum 6 = .ok (.iaload, 1) := by decide +kernel
theorem dX11_lookAtEnum_7 : decode cX11_lookAtEnum 7 = .ok (.aload_n 0, 1) := by decide +kernel
theorem dX11_lookAtEnum_8 : decode cX11_lookAtEnum 8 = .ok (.getfield 22, 3) := by decide +kernel
theorem dX11_lookAtEnum_11 : decode cX11_lookAtEnum 11 = .ok (.iload_n 1, 1) := by decide +kernel
theorem dX11_lookAtEnum_12 : decode cX11_lookAtEnum 12 = .ok (.iaload, 1) := by decide +kernel
theorem dX11_lookAtEnum_13 : decode cX11_lookAtEnum 13 = .ok (.invokevirtual 307, 3) := by decide +kernel
theorem dX11_lookAtEnum_16 : decode cX11_lookAtEnum 16 = .ok (.iload_n 1, 1) := by decide +kernel
theorem dX11_lookAtEnum_17 : decode cX11_lookAtEnum 17 = .ok (.if_icmp .ge 14, 3) := by decide +kernel
theorem dX11_lookAtEnum_20 : decode cX11_lookAtEnum 20 = .ok (.aload_n 0, 1) := by decide +kernel
theorem dX11_lookAtEnum_21 : decode cX11_lookAtEnum 21 = .ok (.iconst 2, 1) := by decide +kernel
theorem dX11_lookAtEnum_22 : decode cX11_lookAtEnum 22 = .ok (.aload_n 0, 1) := by decide +kernel
theorem dX11_lookAtEnum_23 : decode cX11_lookAtEnum 23 = .ok (.getfield 19, 3) := by decide +kernel
theorem dX11_lookAtEnum_26 : decode cX11_lookAtEnum 26 = .ok (.iload_n 1, 1) := by decide +kernel
theorem dX11_lookAtEnum_27 : decode cX11_lookAtEnum 27 = .ok (.iaload, 1) := by decide +kernel
theorem dX11_lookAtEnum_28 : decode cX11_lookAtEnum 28 = .ok (.invokevirtual 304, 3) := by decide +kernel
theorem dX11_lookAtEnum_31 : decode cX11_lookAtEnum 31 = .ok (.aload_n 0, 1) := by decide +kernel
theorem dX11_lookAtEnum_32 : decode cX11_lookAtEnum 32 = .ok (.getfield 121, 3) := by decide +kernel
theorem dX11_lookAtEnum_35 : decode cX11_lookAtEnum 35 = .ok (.iload_n 1, 1) := by decide +kernel
theorem dX11_lookAtEnum_36 : decode cX11_lookAtEnum 36 = .ok (.iaload, 1) := by decide +kernel
theorem dX11_lookAtEnum_37 : decode cX11_lookAtEnum 37 = .ok (.ifCond .lt 14, 3) := by decide +kernel
theorem dX11_lookAtEnum_40 : decode cX11_lookAtEnum 40 = .ok (.aload_n 0, 1) := by decide +kernel
theorem dX11_lookAtEnum_41 : decode cX11_lookAtEnum 41 = .ok (.iconst 2, 1) := by decide +kernel
theorem dX11_lookAtEnum_42 : decode cX11_lookAtEnum 42 = .ok (.aload_n 0, 1) := by decide +kernel
theorem dX11_lookAtEnum_43 : decode cX11_lookAtEnum 43 = .ok (.getfield 121, 3) := by decide +kernel
theorem dX11_lookAtEnum_46 : decode cX11_lookAtEnum 46 = .ok (.iload_n 1, 1) := by decide +kernel
theorem dX11_lookAtEnum_47 : decode cX11_lookAtEnum 47 = .ok (.iaload, 1) := by decide +kernel
theorem dX11_lookAtEnum_48 : decode cX11_lookAtEnum 48 = .ok (.invokevirtual 304, 3) := by decide +kernel
theorem dX11_lookAtEnum_51 : decode cX11_lookAtEnum 51 = .ok (.iconst 0, 1) := by decide +kernel
theorem dX11_lookAtEnum_52 : decode cX11_lookAtEnum 52 = .ok (.istore_n 2, 1) := by decide +kernel
theorem dX11_lookAtEnum_53 : decode cX11_lookAtEnum 53 = .ok (.iload_n 2, 1) := by decide +kernel
theorem dX11_lookAtEnum_54 : decode cX11_lookAtEnum 54 = .ok (.aload_n 0, 1) := by decide +kernel
theorem dX11_lookAtEnum_55 : decode cX11_lookAtEnum 55 = .ok (.getfield 28, 3) := by decide +kernel
theorem dX11_lookAtEnum_58 : decode cX11_lookAtEnum 58 = .ok (.iload_n 1, 1) := by decide +kernel
theorem dX11_lookAtEnum_59 : decode cX11_lookAtEnum 59 = .ok (.iaload, 1) := by decide +kernel
theorem dX11_lookAtEnum_60 : decode cX11_lookAtEnum 60 = .ok (.if_icmp .ge 36, 3) := by decide +kernel
theorem dX11_lookAtEnum_63 : decode cX11_lookAtEnum 63 = .ok (.aload_n 0, 1) := by decide +kernel
theorem dX11_lookAtEnum_64 : decode cX11_lookAtEnum 64 = .ok (.iload_n 1, 1) := by decide +kernel
theorem dX11_lookAtEnum_65 : decode cX11_lookAtEnum 65 = .ok (.aload_n 0, 1) := by decide +kernel
theorem dX11_lookAtEnum_66 : decode cX11_lookAtEnum 66 = .ok (.getfield 52, 3) := by decide +kernel
theorem dX11_lookAtEnum_69 : decode cX11_lookAtEnum 69 = .ok (.bipush 8, 2) := by decide +kernel
theorem dX11_lookAtEnum_71 : decode cX11_lookAtEnum 71 = .ok (.iload_n 1, 1) := by decide +kernel
theorem dX11_lookAtEnum_72 : decode cX11_lookAtEnum 72 = .ok (.imul, 1) := by decide +kernel
theorem dX11_lookAtEnum_73 : decode cX11_lookAtEnum 73 = .ok (.iload_n 2, 1) := by decide +kernel
theorem dX11_lookAtEnum_74 : decode cX11_lookAtEnum 74 = .ok (.iadd, 1) := by decide +kernel
theorem dX11_lookAtEnum_75 : decode cX11_lookAtEnum 75 = .ok (.iaload, 1) := by decide +kernel
theorem dX11_lookAtEnum_76 : decode cX11_lookAtEnum 76 = .ok (.aload_n 0, 1) := by decide +kernel
theorem dX11_lookAtEnum_77 : decode cX11_lookAtEnum 77 = .ok (.getfield 55, 3) := by decide +kernel
theorem dX11_lookAtEnum_80 : decode cX11_lookAtEnum 80 = .ok (.bipush 8, 2) := by decide +kernel
theorem dX11_lookAtEnum_82 : decode cX11_lookAtEnum 82 = .ok (.iload_n 1, 1) := by decide +kernel
theorem dX11_lookAtEnum_83 : decode cX11_lookAtEnum 83 = .ok (.imul, 1) := by decide +kernel
theorem dX11_lookAtEnum_84 : decode cX11_lookAtEnum 84 = .ok (.iload_n 2, 1) := by decide +kernel
theorem dX11_lookAtEnum_85 : decode cX11_lookAtEnum 85 = .ok (.iadd, 1) := by decide +kernel
theorem dX11_lookAtEnum_86 : decode cX11_lookAtEnum 86 = .ok (.iaload, 1) := by decide +kernel
theorem dX11_lookAtEnum_87 : decode cX11_lookAtEnum 87 = .ok (.invokevirtual 311, 3) := by decide +kernel
theorem dX11_lookAtEnum_90 : decode cX11_lookAtEnum 90 = .ok (.iinc 2 1, 3) := by decide +kernel
theorem dX11_lookAtEnum_93 : decode cX11_lookAtEnum 93 = .ok (.goto (-40), 3) := by decide +kernel
theorem dX11_lookAtEnum_96 : decode cX11_lookAtEnum 96 = .ok (.iconst 0, 1) := by decide +kernel
theorem dX11_lookAtEnum_97 : decode cX11_lookAtEnum 97 = .ok (.istore_n 2, 1) := by decide +kernel
theorem dX11_lookAtEnum_98 : decode cX11_lookAtEnum 98 = .ok (.iload_n 2, 1) := by decide +kernel
theorem dX11_lookAtEnum_99 : decode cX11_lookAtEnum 99 = .ok (.aload_n 0, 1) := by decide +kernel
theorem dX11_lookAtEnum_100 : decode cX11_lookAtEnum 100 = .ok (.getfield 31, 3) := by decide +kernel
theorem dX11_lookAtEnum_103 : decode cX11_lookAtEnum 103 = .ok (.iload_n 1, 1) := by decide +kernel
theorem dX11_lookAtEnum_104 : decode cX11_lookAtEnum 104 = .ok (.iaload, 1) := by decide +kernel
theorem dX11_lookAtEnum_105 : decode cX11_lookAtEnum 105 = .ok (.if_icmp .ge 36, 3) := by decide +kernel
theorem dX11_lookAtEnum_108 : decode cX11_lookAtEnum 108 = .ok (.aload_n 0, 1) := by decide +kernel
theorem dX11_lookAtEnum_109 : decode cX11_lookAtEnum 109 = .ok (.iload_n 1, 1) := by decide +kernel
theorem dX11_lookAtEnum_110 : decode cX11_lookAtEnum 110 = .ok (.aload_n 0, 1) := by decide +kernel
theorem dX11_lookAtEnum_111 : decode cX11_lookAtEnum 111 = .ok (.getfield 64, 3) := by decide +kernel
theorem dX11_lookAtEnum_114 : decode cX11_lookAtEnum 114 = .ok (.bipush 6, 2) := by decide +kernel
theorem dX11_lookAtEnum_116 : decode cX11_lookAtEnum 116 = .ok (.iload_n 1, 1) := by decide +kernel
theorem dX11_lookAtEnum_117 : decode cX11_lookAtEnum 117 = .ok (.imul, 1) := by decide +kernel
theorem dX11_lookAtEnum_118 : decode cX11_lookAtEnum 118 = .ok (.iload_n 2, 1) := by decide +kernel
theorem dX11_lookAtEnum_119 : decode cX11_lookAtEnum 119 = .ok (.iadd, 1) := by decide +kernel
theorem dX11_lookAtEnum_120 : decode cX11_lookAtEnum 120 = .ok (.iaload, 1) := by decide +kernel
theorem dX11_lookAtEnum_121 : decode cX11_lookAtEnum 121 = .ok (.aload_n 0, 1) := by decide +kernel
theorem dX11_lookAtEnum_122 : decode cX11_lookAtEnum 122 = .ok (.getfield 67, 3) := by decide +kernel
theorem dX11_lookAtEnum_125 : decode cX11_lookAtEnum 125 = .ok (.bipush 6, 2) := by decide +kernel
theorem dX11_lookAtEnum_127 : decode cX11_lookAtEnum 127 = .ok (.iload_n 1, 1) := by decide +kernel
theorem dX11_lookAtEnum_128 : decode cX11_lookAtEnum 128 = .ok (.imul, 1) := by decide +kernel
theorem dX11_lookAtEnum_129 : decode cX11_lookAtEnum 129 = .ok (.iload_n 2, 1) := by decide +kernel
theorem dX11_lookAtEnum_130 : decode cX11_lookAtEnum 130 = .ok (.iadd, 1) := by decide +kernel
theorem dX11_lookAtEnum_131 : decode cX11_lookAtEnum 131 = .ok (.iaload, 1) := by decide +kernel
theorem dX11_lookAtEnum_132 : decode cX11_lookAtEnum 132 = .ok (.invokevirtual 311, 3) := by decide +kernel
theorem dX11_lookAtEnum_135 : decode cX11_lookAtEnum 135 = .ok (.iinc 2 1, 3) := by decide +kernel
theorem dX11_lookAtEnum_138 : decode cX11_lookAtEnum 138 = .ok (.goto (-40), 3) := by decide +kernel
theorem dX11_lookAtEnum_141 : decode cX11_lookAtEnum 141 = .ok (.iconst 0, 1) := by decide +kernel
theorem dX11_lookAtEnum_142 : decode cX11_lookAtEnum 142 = .ok (.istore_n 2, 1) := by decide +kernel
theorem dX11_lookAtEnum_143 : decode cX11_lookAtEnum 143 = .ok (.iload_n 2, 1) := by decide +kernel
theorem dX11_lookAtEnum_144 : decode cX11_lookAtEnum 144 = .ok (.aload_n 0, 1) := by decide +kernel
theorem dX11_lookAtEnum_145 : decode cX11_lookAtEnum 145 = .ok (.getfield 25, 3) := by decide +kernel
theorem dX11_lookAtEnum_148 : decode cX11_lookAtEnum 148 = .ok (.iload_n 1, 1) := by decide +kernel
theorem dX11_lookAtEnum_149 : decode cX11_lookAtEnum 149 = .ok (.iaload, 1) := by decide +kernel
theorem dX11_lookAtEnum_150 : decode cX11_lookAtEnum 150 = .ok (.if_icmp .ge 111, 3) := by decide +kernel
theorem dX11_lookAtEnum_153 : decode cX11_lookAtEnum 153 = .ok (.bipush 12, 2) := by decide +kernel
theorem dX11_lookAtEnum_155 : decode cX11_lookAtEnum 155 = .ok (.iload_n 1, 1) := by decide +kernel
theorem dX11_lookAtEnum_156 : decode cX11_lookAtEnum 156 = .ok (.imul, 1) := by decide +kernel
theorem dX11_lookAtEnum_157 : decode cX11_lookAtEnum 157 = .ok (.iload_n 2, 1) := by decide +kernel
theorem dX11_lookAtEnum_158 : decode cX11_lookAtEnum 158 = .ok (.iadd, 1) := by decide +kernel
theorem dX11_lookAtEnum_159 : decode cX11_lookAtEnum 159 = .ok (.istore_n 3, 1) := by decide +kernel
theorem dX11_lookAtEnum_160 : decode cX11_lookAtEnum 160 = .ok (.aload_n 0, 1) := by decide +kernel
theorem dX11_lookAtEnum_161 : decode cX11_lookAtEnum 161 = .ok (.iload_n 1, 1) := by decide +kernel
theorem dX11_lookAtEnum_162 : decode cX11_lookAtEnum 162 = .ok (.aload_n 0, 1) := by decide +kernel
theorem dX11_lookAtEnum_163 : decode cX11_lookAtEnum 163 = .ok (.getfield 40, 3) := by decide +kernel
theorem dX11_lookAtEnum_166 : decode cX11_lookAtEnum 166 = .ok (.iload_n 3, 1) := by decide +kernel
theorem dX11_lookAtEnum_167 : decode cX11_lookAtEnum 167 = .ok (.iaload, 1) := by decide +kernel
theorem dX11_lookAtEnum_168 : decode cX11_lookAtEnum 168 = .ok (.aload_n 0, 1) := by decide +kernel
theorem dX11_lookAtEnum_169 : decode cX11_lookAtEnum 169 = .ok (.getfield 43, 3) := by decide +kernel
theorem dX11_lookAtEnum_172 : decode cX11_lookAtEnum 172 = .ok (.iload_n 3, 1) := by decide +kernel
theorem dX11_lookAtEnum_173 : decode cX11_lookAtEnum 173 = .ok (.iaload, 1) := by decide +kernel
theorem dX11_lookAtEnum_174 : decode cX11_lookAtEnum 174 = .ok (.invokevirtual 311, 3) := by decide +kernel
theorem dX11_lookAtEnum_177 : decode cX11_lookAtEnum 177 = .ok (.iconst 0, 1) := by decide +kernel
theorem dX11_lookAtEnum_178 : decode cX11_lookAtEnum 178 = .ok (.istore 4, 2) := by decide +kernel
theorem dX11_lookAtEnum_180 : decode cX11_lookAtEnum 180 = .ok (.iload 4, 2) := by decide +kernel
theorem dX11_lookAtEnum_182 : decode cX11_lookAtEnum 182 = .ok (.aload_n 0, 1) := by decide +kernel
theorem dX11_lookAtEnum_183 : decode cX11_lookAtEnum 183 = .ok (.getfield 28, 3) := by decide +kernel
theorem dX11_lookAtEnum_186 : decode cX11_lookAtEnum 186 = .ok (.iload_n 1, 1) := by decide +kernel
theorem dX11_lookAtEnum_187 : decode cX11_lookAtEnum 187 = .ok (.iaload, 1) := by decide +kernel
theorem dX11_lookAtEnum_188 : decode cX11_lookAtEnum 188 = .ok (.if_icmp .ge 67, 3) := by decide +kernel
theorem dX11_lookAtEnum_191 : decode cX11_lookAtEnum 191 = .ok (.aload_n 0, 1) := by decide +kernel
theorem dX11_lookAtEnum_192 : decode cX11_lookAtEnum 192 = .ok (.getfield 58, 3) := by decide +kernel
theorem dX11_lookAtEnum_195 : decode cX11_lookAtEnum 195 = .ok (.bipush 8, 2) := by decide +kernel
theorem dX11_lookAtEnum_197 : decode cX11_lookAtEnum 197 = .ok (.iload_n 1, 1) := by decide +kernel
theorem dX11_lookAtEnum_198 : decode cX11_lookAtEnum 198 = .ok (.imul, 1) := by decide +kernel
theorem dX11_lookAtEnum_199 : decode cX11_lookAtEnum 199 = .ok (.iload 4, 2) := by decide +kernel
theorem dX11_lookAtEnum_201 : decode cX11_lookAtEnum 201 = .ok (.iadd, 1) := by decide +kernel
theorem dX11_lookAtEnum_202 : decode cX11_lookAtEnum 202 = .ok (.iaload, 1) := by decide +kernel
theorem dX11_lookAtEnum_203 : decode cX11_lookAtEnum 203 = .ok (.ifCond .ge 46, 3) := by decide +kernel
theorem dX11_lookAtEnum_206 : decode cX11_lookAtEnum 206 = .ok (.aload_n 0, 1) := by decide +kernel
theorem dX11_lookAtEnum_207 : decode cX11_lookAtEnum 207 = .ok (.iload_n 3, 1) := by decide +kernel
theorem dX11_lookAtEnum_208 : decode cX11_lookAtEnum 208 = .ok (.aload_n 0, 1) := by decide +kernel
theorem dX11_lookAtEnum_209 : decode cX11_lookAtEnum 209 = .ok (.getfield 52, 3) := by decide +kernel
theorem dX11_lookAtEnum_212 : decode cX11_lookAtEnum 212 = .ok (.bipush 8, 2) := by decide +kernel
theorem dX11_lookAtEnum_214 : decode cX11_lookAtEnum 214 = .ok (.iload_n 1, 1) := by decide +kernel
theorem dX11_lookAtEnum_215 : decode cX11_lookAtEnum 215 = .ok (.imul, 1) := by decide +kernel
theorem dX11_lookAtEnum_216 : decode cX11_lookAtEnum 216 = .ok (.iload 4, 2) := by decide +kernel
theorem dX11_lookAtEnum_218 : decode cX11_lookAtEnum 218 = .ok (.iadd, 1) := by decide +kernel
theorem dX11_lookAtEnum_219 : decode cX11_lookAtEnum 219 = .ok (.iaload, 1) := by decide +kernel
theorem dX11_lookAtEnum_220 : decode cX11_lookAtEnum 220 = .ok (.aload_n 0, 1) := by decide +kernel
theorem dX11_lookAtEnum_221 : decode cX11_lookAtEnum 221 = .ok (.getfield 55, 3) := by decide +kernel
theorem dX11_lookAtEnum_224 : decode cX11_lookAtEnum 224 = .ok (.bipush 8, 2) := by decide +kernel
theorem dX11_lookAtEnum_226 : decode cX11_lookAtEnum 226 = .ok (.iload_n 1, 1) := by decide +kernel
theorem dX11_lookAtEnum_227 : decode cX11_lookAtEnum 227 = .ok (.imul, 1) := by decide +kernel
theorem dX11_lookAtEnum_228 : decode cX11_lookAtEnum 228 = .ok (.iload 4, 2) := by decide +kernel
theorem dX11_lookAtEnum_230 : decode cX11_lookAtEnum 230 = .ok (.iadd, 1) := by decide +kernel
theorem dX11_lookAtEnum_231 : decode cX11_lookAtEnum 231 = .ok (.iaload, 1) := by decide +kernel
theorem dX11_lookAtEnum_232 : decode cX11_lookAtEnum 232 = .ok (.invokevirtual 315, 3) := by decide +kernel
theorem dX11_lookAtEnum_235 : decode cX11_lookAtEnum 235 = .ok (.ifCond .ge 14, 3) := by decide +kernel
theorem dX11_lookAtEnum_238 : decode cX11_lookAtEnum 238 = .ok (.aload_n 0, 1) := by decide +kernel
theorem dX11_lookAtEnum_239 : decode cX11_lookAtEnum 239 = .ok (.iconst 4, 1) := by decide +kernel
theorem dX11_lookAtEnum_240 : decode cX11_lookAtEnum 240 = .ok (.aload_n 0, 1) := by decide +kernel
theorem dX11_lookAtEnum_241 : decode cX11_lookAtEnum 241 = .ok (.getfield 40, 3) := by decide +kernel
theorem dX11_lookAtEnum_244 : decode cX11_lookAtEnum 244 = .ok (.iload_n 3, 1) := by decide +kernel
theorem dX11_lookAtEnum_245 : decode cX11_lookAtEnum 245 = .ok (.iaload, 1) := by decide +kernel
theorem dX11_lookAtEnum_246 : decode cX11_lookAtEnum 246 = .ok (.invokevirtual 304, 3) := by decide +kernel
theorem dX11_lookAtEnum_249 : decode cX11_lookAtEnum 249 = .ok (.iinc 4 1, 3) := by decide +kernel
theorem dX11_lookAtEnum_252 : decode cX11_lookAtEnum 252 = .ok (.goto (-72), 3) := by decide +kernel
theorem dX11_lookAtEnum_255 : decode cX11_lookAtEnum 255 = .ok (.iinc 2 1, 3) := by decide +kernel
theorem dX11_lookAtEnum_258 : decode cX11_lookAtEnum 258 = .ok (.goto (-115), 3) := by decide +kernel
theorem dX11_lookAtEnum_261 : decode cX11_lookAtEnum 261 = .ok (.return_, 1) := by decide +kernel
theorem dX11_lookAtAct_0 : decode cX11_lookAtAct 0 = .ok (.aload_n 0, 1) := by decide +kernel
theorem dX11_lookAtAct_1 : decode cX11_lookAtAct 1 = .ok (.getfield 127, 3) := by decide +kernel
theorem dX11_lookAtAct_4 : decode cX11_lookAtAct 4 = .ok (.iload_n 1, 1) := by decide +kernel
theorem dX11_lookAtAct_5 : decode cX11_lookAtAct 5 = .ok (.iaload, 1) := by decide +kernel
theorem dX11_lookAtAct_6 : decode cX11_lookAtAct 6 = .ok (.istore_n 2, 1) := by decide +kernel
theorem dX11_lookAtAct_7 : decode cX11_lookAtAct 7 = .ok (.aload_n 0, 1) := by decide +kernel
theorem dX11_lookAtAct_8 : decode cX11_lookAtAct 8 = .ok (.getfield 124, 3) := by decide +kernel
theorem dX11_lookAtAct_11 : decode cX11_lookAtAct 11 = .ok (.iload_n 1, 1) := by decide +kernel
theorem dX11_lookAtAct_12 : decode cX11_lookAtAct 12 = .ok (.iaload, 1) := by decide +kernel
theorem dX11_lookAtAct_13 : decode cX11_lookAtAct 13 = .ok (.istore_n 3, 1) := by decide +kernel
theorem dX11_lookAtAct_14 : decode cX11_lookAtAct 14 = .ok (.aload_n 0, 1) := by decide +kernel
theorem dX11_lookAtAct_15 : decode cX11_lookAtAct 15 = .ok (.getfield 100, 3) := by decide +kernel
theorem dX11_lookAtAct_18 : decode cX11_lookAtAct 18 = .ok (.iload_n 1, 1) := by decide +kernel
theorem dX11_lookAtAct_19 : decode cX11_lookAtAct 19 = .ok (.iaload, 1) := by decide +kernel
theorem dX11_lookAtAct_20 : decode cX11_lookAtAct 20 = .ok (.iconst 2, 1) := by decide +kernel
theorem dX11_lookAtAct_21 : decode cX11_lookAtAct 21 = .ok (.if_icmp .ne 84, 3) := by decide +kernel
theorem dX11_lookAtAct_24 : decode cX11_lookAtAct 24 = .ok (.aload_n 0, 1) := by decide +kernel
theorem dX11_lookAtAct_25 : decode cX11_lookAtAct 25 = .ok (.iload_n 2, 1) := by decide +kernel
theorem dX11_lookAtAct_26 : decode cX11_lookAtAct 26 = .ok (.aload_n 0, 1) := by decide +kernel
theorem dX11_lookAtAct_27 : decode cX11_lookAtAct 27 = .ok (.getfield 109, 3) := by decide +kernel
theorem dX11_lookAtAct_30 : decode cX11_lookAtAct 30 = .ok (.iload_n 1, 1) := by decide +kernel
theorem dX11_lookAtAct_31 : decode cX11_lookAtAct 31 = .ok (.iaload, 1) := by decide +kernel
theorem dX11_lookAtAct_32 : decode cX11_lookAtAct 32 = .ok (.aload_n 0, 1) := by decide +kernel
theorem dX11_lookAtAct_33 : decode cX11_lookAtAct 33 = .ok (.getfield 112, 3) := by decide +kernel
theorem dX11_lookAtAct_36 : decode cX11_lookAtAct 36 = .ok (.iload_n 1, 1) := by decide +kernel
theorem dX11_lookAtAct_37 : decode cX11_lookAtAct 37 = .ok (.iaload, 1) := by decide +kernel
theorem dX11_lookAtAct_38 : decode cX11_lookAtAct 38 = .ok (.invokevirtual 319, 3) := by decide +kernel
theorem dX11_lookAtAct_41 : decode cX11_lookAtAct 41 = .ok (.istore 4, 2) := by decide +kernel
theorem dX11_lookAtAct_43 : decode cX11_lookAtAct 43 = .ok (.iload 4, 2) := by decide +kernel
theorem dX11_lookAtAct_45 : decode cX11_lookAtAct 45 = .ok (.ifCond .ge 18, 3) := by decide +kernel
theorem dX11_lookAtAct_48 : decode cX11_lookAtAct 48 = .ok (.aload_n 0, 1) := by decide +kernel
theorem dX11_lookAtAct_49 : decode cX11_lookAtAct 49 = .ok (.bipush 6, 2) := by decide +kernel
theorem dX11_lookAtAct_51 : decode cX11_lookAtAct 51 = .ok (.aload_n 0, 1) := by decide +kernel
theorem dX11_lookAtAct_52 : decode cX11_lookAtAct 52 = .ok (.getfield 109, 3) := by decide +kernel
theorem dX11_lookAtAct_55 : decode cX11_lookAtAct 55 = .ok (.iload_n 1, 1) := by decide +kernel
theorem dX11_lookAtAct_56 : decode cX11_lookAtAct 56 = .ok (.iaload, 1) := by decide +kernel
theorem dX11_lookAtAct_57 : decode cX11_lookAtAct 57 = .ok (.invokevirtual 304, 3) := by decide +kernel
theorem dX11_lookAtAct_60 : decode cX11_lookAtAct 60 = .ok (.goto 34, 3) := by decide +kernel
theorem dX11_lookAtAct_63 : decode cX11_lookAtAct 63 = .ok (.iload_n 3, 1) := by decide +kernel
theorem dX11_lookAtAct_64 : decode cX11_lookAtAct 64 = .ok (.iconst 1, 1) := by decide +kernel
theorem dX11_lookAtAct_65 : decode cX11_lookAtAct 65 = .ok (.if_icmp .ne 29, 3) := by decide +kernel
theorem dX11_lookAtAct_68 : decode cX11_lookAtAct 68 = .ok (.aload_n 0, 1) := by decide +kernel
theorem dX11_lookAtAct_69 : decode cX11_lookAtAct 69 = .ok (.getfield 73, 3) := by decide +kernel
theorem dX11_lookAtAct_72 : decode cX11_lookAtAct 72 = .ok (.bipush 6, 2) := by decide +kernel
theorem dX11_lookAtAct_74 : decode cX11_lookAtAct 74 = .ok (.iload_n 2, 1) := by decide +kernel
theorem dX11_lookAtAct_75 : decode cX11_lookAtAct 75 = .ok (.imul, 1) := by decide +kernel
theorem dX11_lookAtAct_76 : decode cX11_lookAtAct 76 = .ok (.iload 4, 2) := by decide +kernel
theorem dX11_lookAtAct_78 : decode cX11_lookAtAct 78 = .ok (.iadd, 1) := by decide +kernel
theorem dX11_lookAtAct_79 : decode cX11_lookAtAct 79 = .ok (.iaload, 1) := by decide +kernel
theorem dX11_lookAtAct_80 : decode cX11_lookAtAct 80 = .ok (.ifCond .lt 14, 3) := by decide +kernel
theorem dX11_lookAtAct_83 : decode cX11_lookAtAct 83 = .ok (.aload_n 0, 1) := by decide +kernel
theorem dX11_lookAtAct_84 : decode cX11_lookAtAct 84 = .ok (.iconst 5, 1) := by decide +kernel
theorem dX11_lookAtAct_85 : decode cX11_lookAtAct 85 = .ok (.aload_n 0, 1) := by decide +kernel
theorem dX11_lookAtAct_86 : decode cX11_lookAtAct 86 = .ok (.getfield 109, 3) := by decide +kernel
theorem dX11_lookAtAct_89 : decode cX11_lookAtAct 89 = .ok (.iload_n 1, 1) := by decide +kernel
theorem dX11_lookAtAct_90 : decode cX11_lookAtAct 90 = .ok (.iaload, 1) := by decide +kernel
theorem dX11_lookAtAct_91 : decode cX11_lookAtAct 91 = .ok (.invokevirtual 304, 3) := by decide +kernel
theorem dX11_lookAtAct_94 : decode cX11_lookAtAct 94 = .ok (.aload_n 0, 1) := by decide +kernel
theorem dX11_lookAtAct_95 : decode cX11_lookAtAct 95 = .ok (.getfield 103, 3) := by decide +kernel
theorem dX11_lookAtAct_98 : decode cX11_lookAtAct 98 = .ok (.iload_n 1, 1) := by decide +kernel
theorem dX11_lookAtAct_99 : decode cX11_lookAtAct 99 = .ok (.iload 4, 2) := by decide +kernel
theorem dX11_lookAtAct_101 : decode cX11_lookAtAct 101 = .ok (.iastore, 1) := by decide +kernel
theorem dX11_lookAtAct_102 : decode cX11_lookAtAct 102 = .ok (.goto 153, 3) := by decide +kernel
theorem dX11_lookAtAct_105 : decode cX11_lookAtAct 105 = .ok (.aload_n 0, 1) := by decide +kernel
theorem dX11_lookAtAct_106 : decode cX11_lookAtAct 106 = .ok (.getfield 100, 3) := by decide +kernel
theorem dX11_lookAtAct_109 : decode cX11_lookAtAct 109 = .ok (.iload_n 1, 1) := by decide +kernel
theorem dX11_lookAtAct_110 : decode cX11_lookAtAct 110 = .ok (.iaload, 1) := by decide +kernel
theorem dX11_lookAtAct_111 : decode cX11_lookAtAct 111 = .ok (.iconst 3, 1) := by decide +kernel
theorem dX11_lookAtAct_112 : decode cX11_lookAtAct 112 = .ok (.if_icmp .ne 86, 3) := by decide +kernel
theorem dX11_lookAtAct_115 : decode cX11_lookAtAct 115 = .ok (.aload_n 0, 1) := by decide +kernel
theorem dX11_lookAtAct_116 : decode cX11_lookAtAct 116 = .ok (.aload_n 0, 1) := by decide +kernel
theorem dX11_lookAtAct_117 : decode cX11_lookAtAct 117 = .ok (.getfield 109, 3) := by decide +kernel
theorem dX11_lookAtAct_120 : decode cX11_lookAtAct 120 = .ok (.iload_n 1, 1) := by decide +kernel
theorem dX11_lookAtAct_121 : decode cX11_lookAtAct 121 = .ok (.iaload, 1) := by decide +kernel
theorem dX11_lookAtAct_122 : decode cX11_lookAtAct 122 = .ok (.aload_n 0, 1) := by decide +kernel
theorem dX11_lookAtAct_123 : decode cX11_lookAtAct 123 = .ok (.getfield 112, 3) := by decide +kernel
theorem dX11_lookAtAct_126 : decode cX11_lookAtAct 126 = .ok (.iload_n 1, 1) := by decide +kernel
theorem dX11_lookAtAct_127 : decode cX11_lookAtAct 127 = .ok (.iaload, 1) := by decide +kernel
theorem dX11_lookAtAct_128 : decode cX11_lookAtAct 128 = .ok (.invokevirtual 307, 3) := by decide +kernel
theorem dX11_lookAtAct_131 : decode cX11_lookAtAct 131 = .ok (.istore 4, 2) := by decide +kernel
theorem dX11_lookAtAct_133 : decode cX11_lookAtAct 133 = .ok (.iload 4, 2) := by decide +kernel
theorem dX11_lookAtAct_135 : decode cX11_lookAtAct 135 = .ok (.ifCond .ge 7, 3) := by decide +kernel
theorem dX11_lookAtAct_138 : decode cX11_lookAtAct 138 = .ok (.iconst (-1), 1) := by decide +kernel
theorem dX11_lookAtAct_139 : decode cX11_lookAtAct 139 = .ok (.goto 21, 3) := by decide +kernel
theorem dX11_lookAtAct_142 : decode cX11_lookAtAct 142 = .ok (.aload_n 0, 1) := by decide +kernel
theorem dX11_lookAtAct_143 : decode cX11_lookAtAct 143 = .ok (.iload 4, 2) := by decide +kernel
theorem dX11_lookAtAct_145 : decode cX11_lookAtAct 145 = .ok (.aload_n 0, 1) := by decide +kernel
theorem dX11_lookAtAct_146 : decode cX11_lookAtAct 146 = .ok (.getfield 115, 3) := by decide +kernel
theorem dX11_lookAtAct_149 : decode cX11_lookAtAct 149 = .ok (.iload_n 1, 1) := by decide +kernel
theorem dX11_lookAtAct_150 : decode cX11_lookAtAct 150 = .ok (.iaload, 1) := by decide +kernel
theorem dX11_lookAtAct_151 : decode cX11_lookAtAct 151 = .ok (.aload_n 0, 1) := by decide +kernel
theorem dX11_lookAtAct_152 : decode cX11_lookAtAct 152 = .ok (.getfield 118, 3) := by decide +kernel
theorem dX11_lookAtAct_155 : decode cX11_lookAtAct 155 = .ok (.iload_n 1, 1) := by decide +kernel
theorem dX11_lookAtAct_156 : decode cX11_lookAtAct 156 = .ok (.iaload, 1) := by decide +kernel
theorem dX11_lookAtAct_157 : decode cX11_lookAtAct 157 = .ok (.invokevirtual 322, 3) := by decide +kernel
theorem dX11_lookAtAct_160 : decode cX11_lookAtAct 160 = .ok (.istore 5, 2) := by decide +kernel
theorem dX11_lookAtAct_162 : decode cX11_lookAtAct 162 = .ok (.iload 5, 2) := by decide +kernel
theorem dX11_lookAtAct_164 : decode cX11_lookAtAct 164 = .ok (.ifCond .ge 15, 3) := by decide +kernel
theorem dX11_lookAtAct_167 : decode cX11_lookAtAct 167 = .ok (.aload_n 0, 1) := by decide +kernel
theorem dX11_lookAtAct_168 : decode cX11_lookAtAct 168 = .ok (.bipush 6, 2) := by decide +kernel
theorem dX11_lookAtAct_170 : decode cX11_lookAtAct 170 = .ok (.aload_n 0, 1) := by decide +kernel
theorem dX11_lookAtAct_171 : decode cX11_lookAtAct 171 = .ok (.getfield 109, 3) := by decide +kernel
theorem dX11_lookAtAct_174 : decode cX11_lookAtAct 174 = .ok (.iload_n 1, 1) := by decide +kernel
theorem dX11_lookAtAct_175 : decode cX11_lookAtAct 175 = .ok (.iaload, 1) := by decide +kernel
theorem dX11_lookAtAct_176 : decode cX11_lookAtAct 176 = .ok (.invokevirtual 304, 3) := by decide +kernel
theorem dX11_lookAtAct_179 : decode cX11_lookAtAct 179 = .ok (.aload_n 0, 1) := by decide +kernel
theorem dX11_lookAtAct_180 : decode cX11_lookAtAct 180 = .ok (.getfield 103, 3) := by decide +kernel
theorem dX11_lookAtAct_183 : decode cX11_lookAtAct 183 = .ok (.iload_n 1, 1) := by decide +kernel
theorem dX11_lookAtAct_184 : decode cX11_lookAtAct 184 = .ok (.iload 4, 2) := by decide +kernel
theorem dX11_lookAtAct_186 : decode cX11_lookAtAct 186 = .ok (.iastore, 1) := by decide +kernel
theorem dX11_lookAtAct_187 : decode cX11_lookAtAct 187 = .ok (.aload_n 0, 1) := by decide +kernel
theorem dX11_lookAtAct_188 : decode cX11_lookAtAct 188 = .ok (.getfield 106, 3) := by decide +kernel
theorem dX11_lookAtAct_191 : decode cX11_lookAtAct 191 = .ok (.iload_n 1, 1) := by decide +kernel
theorem dX11_lookAtAct_192 : decode cX11_lookAtAct 192 = .ok (.iload 5, 2) := by decide +kernel
theorem dX11_lookAtAct_194 : decode cX11_lookAtAct 194 = .ok (.iastore, 1) := by decide +kernel
theorem dX11_lookAtAct_195 : decode cX11_lookAtAct 195 = .ok (.goto 60, 3) := by decide +kernel
theorem dX11_lookAtAct_198 : decode cX11_lookAtAct 198 = .ok (.aload_n 0, 1) := by decide +kernel
theorem dX11_lookAtAct_199 : decode cX11_lookAtAct 199 = .ok (.getfield 100, 3) := by decide +kernel
theorem dX11_lookAtAct_202 : decode cX11_lookAtAct 202 = .ok (.iload_n 1, 1) := by decide +kernel
theorem dX11_lookAtAct_203 : decode cX11_lookAtAct 203 = .ok (.iaload, 1) := by decide +kernel
theorem dX11_lookAtAct_204 : decode cX11_lookAtAct 204 = .ok (.iconst 4, 1) := by decide +kernel
theorem dX11_lookAtAct_205 : decode cX11_lookAtAct 205 = .ok (.if_icmp .ne 8, 3) := by decide +kernel
theorem dX11_lookAtAct_208 : decode cX11_lookAtAct 208 = .ok (.iload_n 3, 1) := by decide +kernel
theorem dX11_lookAtAct_209 : decode cX11_lookAtAct 209 = .ok (.iconst 1, 1) := by decide +kernel
theorem dX11_lookAtAct_210 : decode cX11_lookAtAct 210 = .ok (.if_icmp .ne 33, 3) := by decide +kernel
theorem dX11_lookAtAct_213 : decode cX11_lookAtAct 213 = .ok (.aload_n 0, 1) := by decide +kernel
theorem dX11_lookAtAct_214 : decode cX11_lookAtAct 214 = .ok (.getfield 100, 3) := by decide +kernel
theorem dX11_lookAtAct_217 : decode cX11_lookAtAct 217 = .ok (.iload_n 1, 1) := by decide +kernel
theorem dX11_lookAtAct_218 : decode cX11_lookAtAct 218 = .ok (.iaload, 1) := by decide +kernel
theorem dX11_lookAtAct_219 : decode cX11_lookAtAct 219 = .ok (.iconst 5, 1) := by decide +kernel
theorem dX11_lookAtAct_220 : decode cX11_lookAtAct 220 = .ok (.if_icmp .ne 7, 3) := by decide +kernel
theorem dX11_lookAtAct_223 : decode cX11_lookAtAct 223 = .ok (.iload_n 3, 1) := by decide +kernel
theorem dX11_lookAtAct_224 : decode cX11_lookAtAct 224 = .ok (.ifCond .gt 19, 3) := by decide +kernel
theorem dX11_lookAtAct_227 : decode cX11_lookAtAct 227 = .ok (.aload_n 0, 1) := by decide +kernel
theorem dX11_lookAtAct_228 : decode cX11_lookAtAct 228 = .ok (.getfield 100, 3) := by decide +kernel
theorem dX11_lookAtAct_231 : decode cX11_lookAtAct 231 = .ok (.iload_n 1, 1) := by decide +kernel
theorem dX11_lookAtAct_232 : decode cX11_lookAtAct 232 = .ok (.iaload, 1) := by decide +kernel
theorem dX11_lookAtAct_233 : decode cX11_lookAtAct 233 = .ok (.bipush 6, 2) := by decide +kernel
theorem dX11_lookAtAct_235 : decode cX11_lookAtAct 235 = .ok (.if_icmp .ne 20, 3) := by decide +kernel
theorem dX11_lookAtAct_238 : decode cX11_lookAtAct 238 = .ok (.iload_n 3, 1) := by decide +kernel
theorem dX11_lookAtAct_239 : decode cX11_lookAtAct 239 = .ok (.iconst 2, 1) := by decide +kernel
theorem dX11_lookAtAct_240 : decode cX11_lookAtAct 240 = .ok (.if_icmp .ne 15, 3) := by decide +kernel
theorem dX11_lookAtAct_243 : decode cX11_lookAtAct 243 = .ok (.aload_n 0, 1) := by decide +kernel
theorem dX11_lookAtAct_244 : decode cX11_lookAtAct 244 = .ok (.bipush 6, 2) := by decide +kernel
theorem dX11_lookAtAct_246 : decode cX11_lookAtAct 246 = .ok (.aload_n 0, 1) := by decide +kernel
theorem dX11_lookAtAct_247 : decode cX11_lookAtAct 247 = .ok (.getfield 109, 3) := by decide +kernel
theorem dX11_lookAtAct_250 : decode cX11_lookAtAct 250 = .ok (.iload_n 1, 1) := by decide +kernel
theorem dX11_lookAtAct_251 : decode cX11_lookAtAct 251 = .ok (.iaload, 1) := by decide +kernel
theorem dX11_lookAtAct_252 : decode cX11_lookAtAct 252 = .ok (.invokevirtual 304, 3) := by decide +kernel
theorem dX11_lookAtAct_255 : decode cX11_lookAtAct 255 = .ok (.return_, 1) := by decide +kernel
theorem dX11_lookAtAll_0 : decode cX11_lookAtAll 0 = .ok (.bipush 8, 2) := by decide +kernel
theorem dX11_lookAtAll_2 : decode cX11_lookAtAll 2 = .ok (.aload_n 0, 1) := by decide +kernel
theorem dX11_lookAtAll_3 : decode cX11_lookAtAll 3 = .ok (.getfield 183, 3) := by decide +kernel
theorem dX11_lookAtAll_6 : decode cX11_lookAtAll 6 = .ok (.imul, 1) := by decide +kernel
theorem dX11_lookAtAll_7 : decode cX11_lookAtAll 7 = .ok (.istore_n 1, 1) := by decide +kernel
theorem dX11_lookAtAll_8 : decode cX11_lookAtAll 8 = .ok (.iload_n 1, 1) := by decide +kernel
theorem dX11_lookAtAll_9 : decode cX11_lookAtAll 9 = .ok (.bipush 8, 2) := by decide +kernel
theorem dX11_lookAtAll_11 : decode cX11_lookAtAll 11 = .ok (.aload_n 0, 1) := by decide +kernel
theorem dX11_lookAtAll_12 : decode cX11_lookAtAll 12 = .ok (.getfield 183, 3) := by decide +kernel
theorem dX11_lookAtAll_15 : decode cX11_lookAtAll 15 = .ok (.imul, 1) := by decide +kernel
theorem dX11_lookAtAll_16 : decode cX11_lookAtAll 16 = .ok (.aload_n 0, 1) := by decide +kernel
theorem dX11_lookAtAll_17 : decode cX11_lookAtAll 17 = .ok (.getfield 16, 3) := by decide +kernel
theorem dX11_lookAtAll_20 : decode cX11_lookAtAll 20 = .ok (.aload_n 0, 1) := by decide +kernel
theorem dX11_lookAtAll_21 : decode cX11_lookAtAll 21 = .ok (.getfield 183, 3) := by decide +kernel
theorem dX11_lookAtAll_24 : decode cX11_lookAtAll 24 = .ok (.iaload, 1) := by decide +kernel
theorem dX11_lookAtAll_25 : decode cX11_lookAtAll 25 = .ok (.iadd, 1) := by decide +kernel
theorem dX11_lookAtAll_26 : decode cX11_lookAtAll 26 = .ok (.if_icmp .ge 14, 3) := by decide +kernel
theorem dX11_lookAtAll_29 : decode cX11_lookAtAll 29 = .ok (.aload_n 0, 1) := by decide +kernel
theorem dX11_lookAtAll_30 : decode cX11_lookAtAll 30 = .ok (.iload_n 1, 1) := by decide +kernel
theorem dX11_lookAtAll_31 : decode cX11_lookAtAll 31 = .ok (.invokevirtual 325, 3) := by decide +kernel
theorem dX11_lookAtAll_34 : decode cX11_lookAtAll 34 = .ok (.iinc 1 1, 3) := by decide +kernel
theorem dX11_lookAtAll_37 : decode cX11_lookAtAll 37 = .ok (.goto (-29), 3) := by decide +kernel
theorem dX11_lookAtAll_40 : decode cX11_lookAtAll 40 = .ok (.sipush 520, 3) := by decide +kernel
theorem dX11_lookAtAll_43 : decode cX11_lookAtAll 43 = .ok (.aload_n 0, 1) := by decide +kernel
theorem dX11_lookAtAll_44 : decode cX11_lookAtAll 44 = .ok (.getfield 183, 3) := by decide +kernel
theorem dX11_lookAtAll_47 : decode cX11_lookAtAll 47 = .ok (.imul, 1) := by decide +kernel
theorem dX11_lookAtAll_48 : decode cX11_lookAtAll 48 = .ok (.istore_n 1, 1) := by decide +kernel
theorem dX11_lookAtAll_49 : decode cX11_lookAtAll 49 = .ok (.iload_n 1, 1) := by decide +kernel
theorem dX11_lookAtAll_50 : decode cX11_lookAtAll 50 = .ok (.sipush 520, 3) := by decide +kernel
theorem dX11_lookAtAll_53 : decode cX11_lookAtAll 53 = .ok (.aload_n 0, 1) := by decide +kernel
theorem dX11_lookAtAll_54 : decode cX11_lookAtAll 54 = .ok (.getfield 183, 3) := by decide +kernel
theorem dX11_lookAtAll_57 : decode cX11_lookAtAll 57 = .ok (.imul, 1) := by decide +kernel
theorem dX11_lookAtAll_58 : decode cX11_lookAtAll 58 = .ok (.aload_n 0, 1) := by decide +kernel
theorem dX11_lookAtAll_59 : decode cX11_lookAtAll 59 = .ok (.getfield 79, 3) := by decide +kernel
theorem dX11_lookAtAll_62 : decode cX11_lookAtAll 62 = .ok (.aload_n 0, 1) := by decide +kernel
theorem dX11_lookAtAll_63 : decode cX11_lookAtAll 63 = .ok (.getfield 183, 3) := by decide +kernel
theorem dX11_lookAtAll_66 : decode cX11_lookAtAll 66 = .ok (.iaload, 1) := by decide +kernel
theorem dX11_lookAtAll_67 : decode cX11_lookAtAll 67 = .ok (.iadd, 1) := by decide +kernel
theorem dX11_lookAtAll_68 : decode cX11_lookAtAll 68 = .ok (.if_icmp .ge 82, 3) := by decide +kernel
theorem dX11_lookAtAll_71 : decode cX11_lookAtAll 71 = .ok (.aload_n 0, 1) := by decide +kernel
theorem dX11_lookAtAll_72 : decode cX11_lookAtAll 72 = .ok (.getfield 82, 3) := by decide +kernel
theorem dX11_lookAtAll_75 : decode cX11_lookAtAll 75 = .ok (.iload_n 1, 1) := by decide +kernel
theorem dX11_lookAtAll_76 : decode cX11_lookAtAll 76 = .ok (.iaload, 1) := by decide +kernel
theorem dX11_lookAtAll_77 : decode cX11_lookAtAll 77 = .ok (.istore_n 2, 1) := by decide +kernel
theorem dX11_lookAtAll_78 : decode cX11_lookAtAll 78 = .ok (.aload_n 0, 1) := by decide +kernel
theorem dX11_lookAtAll_79 : decode cX11_lookAtAll 79 = .ok (.iload_n 2, 1) := by decide +kernel
theorem dX11_lookAtAll_80 : decode cX11_lookAtAll 80 = .ok (.aload_n 0, 1) := by decide +kernel
theorem dX11_lookAtAll_81 : decode cX11_lookAtAll 81 = .ok (.getfield 85, 3) := by decide +kernel
theorem dX11_lookAtAll_84 : decode cX11_lookAtAll 84 = .ok (.iload_n 1, 1) := by decide +kernel
theorem dX11_lookAtAll_85 : decode cX11_lookAtAll 85 = .ok (.iaload, 1) := by decide +kernel
theorem dX11_lookAtAll_86 : decode cX11_lookAtAll 86 = .ok (.aload_n 0, 1) := by decide +kernel
theorem dX11_lookAtAll_87 : decode cX11_lookAtAll 87 = .ok (.getfield 88, 3) := by decide +kernel
theorem dX11_lookAtAll_90 : decode cX11_lookAtAll 90 = .ok (.iload_n 1, 1) := by decide +kernel
theorem dX11_lookAtAll_91 : decode cX11_lookAtAll 91 = .ok (.iaload, 1) := by decide +kernel
theorem dX11_lookAtAll_92 : decode cX11_lookAtAll 92 = .ok (.invokevirtual 315, 3) := by decide +kernel
theorem dX11_lookAtAll_95 : decode cX11_lookAtAll 95 = .ok (.iload_n 1, 1) := by decide +kernel
theorem dX11_lookAtAll_96 : decode cX11_lookAtAll 96 = .ok (.if_icmp .ge 14, 3) := by decide +kernel
theorem dX11_lookAtAll_99 : decode cX11_lookAtAll 99 = .ok (.aload_n 0, 1) := by decide +kernel
theorem dX11_lookAtAll_100 : decode cX11_lookAtAll 100 = .ok (.iconst 2, 1) := by decide +kernel
theorem dX11_lookAtAll_101 : decode cX11_lookAtAll 101 = .ok (.aload_n 0, 1) := by decide +kernel
theorem dX11_lookAtAll_102 : decode cX11_lookAtAll 102 = .ok (.getfield 85, 3) := by decide +kernel
theorem dX11_lookAtAll_105 : decode cX11_lookAtAll 105 = .ok (.iload_n 1, 1) := by decide +kernel
theorem dX11_lookAtAll_106 : decode cX11_lookAtAll 106 = .ok (.iaload, 1) := by decide +kernel
theorem dX11_lookAtAll_107 : decode cX11_lookAtAll 107 = .ok (.invokevirtual 304, 3) := by decide +kernel
theorem dX11_lookAtAll_110 : decode cX11_lookAtAll 110 = .ok (.aload_n 0, 1) := by decide +kernel
theorem dX11_lookAtAll_111 : decode cX11_lookAtAll 111 = .ok (.iload_n 2, 1) := by decide +kernel
theorem dX11_lookAtAll_112 : decode cX11_lookAtAll 112 = .ok (.bipush 12, 2) := by decide +kernel
theorem dX11_lookAtAll_114 : decode cX11_lookAtAll 114 = .ok (.idiv, 1) := by decide +kernel
theorem dX11_lookAtAll_115 : decode cX11_lookAtAll 115 = .ok (.aload_n 0, 1) := by decide +kernel
theorem dX11_lookAtAll_116 : decode cX11_lookAtAll 116 = .ok (.getfield 85, 3) := by decide +kernel
theorem dX11_lookAtAll_119 : decode cX11_lookAtAll 119 = .ok (.iload_n 1, 1) := by decide +kernel
theorem dX11_lookAtAll_120 : decode cX11_lookAtAll 120 = .ok (.iaload, 1) := by decide +kernel
theorem dX11_lookAtAll_121 : decode cX11_lookAtAll 121 = .ok (.aload_n 0, 1) := by decide +kernel
theorem dX11_lookAtAll_122 : decode cX11_lookAtAll 122 = .ok (.getfield 88, 3) := by decide +kernel
theorem dX11_lookAtAll_125 : decode cX11_lookAtAll 125 = .ok (.iload_n 1, 1) := by decide +kernel
theorem dX11_lookAtAll_126 : decode cX11_lookAtAll 126 = .ok (.iaload, 1) := by decide +kernel
theorem dX11_lookAtAll_127 : decode cX11_lookAtAll 127 = .ok (.invokevirtual 328, 3) := by decide +kernel
theorem dX11_lookAtAll_130 : decode cX11_lookAtAll 130 = .ok (.ifCond .ge 14, 3) := by decide +kernel
theorem dX11_lookAtAll_133 : decode cX11_lookAtAll 133 = .ok (.aload_n 0, 1) := by decide +kernel
theorem dX11_lookAtAll_134 : decode cX11_lookAtAll 134 = .ok (.iconst 3, 1) := by decide +kernel
theorem dX11_lookAtAll_135 : decode cX11_lookAtAll 135 = .ok (.aload_n 0, 1) := by decide +kernel
theorem dX11_lookAtAll_136 : decode cX11_lookAtAll 136 = .ok (.getfield 85, 3) := by decide +kernel
theorem dX11_lookAtAll_139 : decode cX11_lookAtAll 139 = .ok (.iload_n 1, 1) := by decide +kernel
theorem dX11_lookAtAll_140 : decode cX11_lookAtAll 140 = .ok (.iaload, 1) := by decide +kernel
theorem dX11_lookAtAll_141 : decode cX11_lookAtAll 141 = .ok (.invokevirtual 304, 3) := by decide +kernel
theorem dX11_lookAtAll_144 : decode cX11_lookAtAll 144 = .ok (.iinc 1 1, 3) := by decide +kernel
theorem dX11_lookAtAll_147 : decode cX11_lookAtAll 147 = .ok (.goto (-98), 3) := by decide +kernel
theorem dX11_lookAtAll_150 : decode cX11_lookAtAll 150 = .ok (.sipush 2100, 3) := by decide +kernel
theorem dX11_lookAtAll_153 : decode cX11_lookAtAll 153 = .ok (.aload_n 0, 1) := by decide +kernel
theorem dX11_lookAtAll_154 : decode cX11_lookAtAll 154 = .ok (.getfield 183, 3) := by decide +kernel
theorem dX11_lookAtAll_157 : decode cX11_lookAtAll 157 = .ok (.imul, 1) := by decide +kernel
theorem dX11_lookAtAll_158 : decode cX11_lookAtAll 158 = .ok (.istore_n 1, 1) := by decide +kernel
theorem dX11_lookAtAll_159 : decode cX11_lookAtAll 159 = .ok (.iload_n 1, 1) := by decide +kernel
theorem dX11_lookAtAll_160 : decode cX11_lookAtAll 160 = .ok (.sipush 2100, 3) := by decide +kernel
theorem dX11_lookAtAll_163 : decode cX11_lookAtAll 163 = .ok (.aload_n 0, 1) := by decide +kernel
theorem dX11_lookAtAll_164 : decode cX11_lookAtAll 164 = .ok (.getfield 183, 3) := by decide +kernel
theorem dX11_lookAtAll_167 : decode cX11_lookAtAll 167 = .ok (.imul, 1) := by decide +kernel
theorem dX11_lookAtAll_168 : decode cX11_lookAtAll 168 = .ok (.aload_n 0, 1) := by decide +kernel
theorem dX11_lookAtAll_169 : decode cX11_lookAtAll 169 = .ok (.getfield 97, 3) := by decide +kernel
theorem dX11_lookAtAll_172 : decode cX11_lookAtAll 172 = .ok (.aload_n 0, 1) := by decide +kernel
theorem dX11_lookAtAll_173 : decode cX11_lookAtAll 173 = .ok (.getfield 183, 3) := by decide +kernel
theorem dX11_lookAtAll_176 : decode cX11_lookAtAll 176 = .ok (.iaload, 1) := by decide +kernel
theorem dX11_lookAtAll_177 : decode cX11_lookAtAll 177 = .ok (.iadd, 1) := by decide +kernel
theorem dX11_lookAtAll_178 : decode cX11_lookAtAll 178 = .ok (.if_icmp .ge 14, 3) := by decide +kernel
theorem dX11_lookAtAll_181 : decode cX11_lookAtAll 181 = .ok (.aload_n 0, 1) := by decide +kernel
theorem dX11_lookAtAll_182 : decode cX11_lookAtAll 182 = .ok (.iload_n 1, 1) := by decide +kernel
theorem dX11_lookAtAll_183 : decode cX11_lookAtAll 183 = .ok (.invokevirtual 331, 3) := by decide +kernel
theorem dX11_lookAtAll_186 : decode cX11_lookAtAll 186 = .ok (.iinc 1 1, 3) := by decide +kernel
theorem dX11_lookAtAll_189 : decode cX11_lookAtAll 189 = .ok (.goto (-30), 3) := by decide +kernel
theorem dX11_lookAtAll_192 : decode cX11_lookAtAll 192 = .ok (.return_, 1) := by decide +kernel
theorem dX11_load_0 : decode cX11_load 0 = .ok (.aload_n 0, 1) := by decide +kernel
theorem dX11_load_1 : decode cX11_load 1 = .ok (.iconst 1, 1) := by decide +kernel
theorem dX11_load_2 : decode cX11_load 2 = .ok (.aload_n 0, 1) := by decide +kernel
theorem dX11_load_3 : decode cX11_load 3 = .ok (.getfield 334, 3) := by decide +kernel
theorem dX11_load_6 : decode cX11_load 6 = .ok (.isub, 1) := by decide +kernel
theorem dX11_load_7 : decode cX11_load 7 = .ok (.putfield 183, 3) := by decide +kernel
theorem dX11_load_10 : decode cX11_load 10 = .ok (.aload_n 0, 1) := by decide +kernel
theorem dX11_load_11 : decode cX11_load 11 = .ok (.aload_n 0, 1) := by decide +kernel
theorem dX11_load_12 : decode cX11_load 12 = .ok (.getfield 171, 3) := by decide +kernel
theorem dX11_load_15 : decode cX11_load 15 = .ok (.putfield 180, 3) := by decide +kernel
theorem dX11_load_18 : decode cX11_load 18 = .ok (.iconst 0, 1) := by decide +kernel
theorem dX11_load_19 : decode cX11_load 19 = .ok (.istore_n 1, 1) := by decide +kernel
theorem dX11_load_20 : decode cX11_load 20 = .ok (.iload_n 1, 1) := by decide +kernel
theorem dX11_load_21 : decode cX11_load 21 = .ok (.aload_n 0, 1) := by decide +kernel
theorem dX11_load_22 : decode cX11_load 22 = .ok (.getfield 171, 3) := by decide +kernel
theorem dX11_load_25 : decode cX11_load 25 = .ok (.if_icmp .ge 30, 3) := by decide +kernel
theorem dX11_load_28 : decode cX11_load 28 = .ok (.aload_n 0, 1) := by decide +kernel
theorem dX11_load_29 : decode cX11_load 29 = .ok (.getfield 13, 3) := by decide +kernel
theorem dX11_load_32 : decode cX11_load 32 = .ok (.sipush 2000, 3) := by decide +kernel
theorem dX11_load_35 : decode cX11_load 35 = .ok (.aload_n 0, 1) := by decide +kernel
theorem dX11_load_36 : decode cX11_load 36 = .ok (.getfield 183, 3) := by decide +kernel
theorem dX11_load_39 : decode cX11_load 39 = .ok (.imul, 1) := by decide +kernel
theorem dX11_load_40 : decode cX11_load 40 = .ok (.iload_n 1, 1) := by decide +kernel
theorem dX11_load_41 : decode cX11_load 41 = .ok (.iadd, 1) := by decide +kernel
theorem dX11_load_42 : decode cX11_load 42 = .ok (.aload_n 0, 1) := by decide +kernel
theorem dX11_load_43 : decode cX11_load 43 = .ok (.getfield 7, 3) := by decide +kernel
theorem dX11_load_46 : decode cX11_load 46 = .ok (.iload_n 1, 1) := by decide +kernel
theorem dX11_load_47 : decode cX11_load 47 = .ok (.iaload, 1) := by decide +kernel
theorem dX11_load_48 : decode cX11_load 48 = .ok (.iastore, 1) := by decide +kernel
theorem dX11_load_49 : decode cX11_load 49 = .ok (.iinc 1 1, 3) := by decide +kernel
theorem dX11_load_52 : decode cX11_load 52 = .ok (.goto (-32), 3) := by decide +kernel
theorem dX11_load_55 : decode cX11_load 55 = .ok (.aload_n 0, 1) := by decide +kernel
theorem dX11_load_56 : decode cX11_load 56 = .ok (.iconst 0, 1) := by decide +kernel
theorem dX11_load_57 : decode cX11_load 57 = .ok (.putfield 171, 3) := by decide +kernel
theorem dX11_load_60 : decode cX11_load 60 = .ok (.aload_n 0, 1) := by decide +kernel
theorem dX11_load_61 : decode cX11_load 61 = .ok (.iconst 0, 1) := by decide +kernel
theorem dX11_load_62 : decode cX11_load 62 = .ok (.putfield 281, 3) := by decide +kernel
theorem dX11_load_65 : decode cX11_load 65 = .ok (.aload_n 0, 1) := by decide +kernel
theorem dX11_load_66 : decode cX11_load 66 = .ok (.invokevirtual 337, 3) := by decide +kernel
theorem dX11_load_69 : decode cX11_load 69 = .ok (.aload_n 0, 1) := by decide +kernel
theorem dX11_load_70 : decode cX11_load 70 = .ok (.invokevirtual 249, 3) := by decide +kernel
theorem dX11_load_73 : decode cX11_load 73 = .ok (.ifCond .eq 7, 3) := by decide +kernel
theorem dX11_load_76 : decode cX11_load 76 = .ok (.aload_n 0, 1) := by decide +kernel
theorem dX11_load_77 : decode cX11_load 77 = .ok (.invokevirtual 340, 3) := by decide +kernel
theorem dX11_load_80 : decode cX11_load 80 = .ok (.aload_n 0, 1) := by decide +kernel
theorem dX11_load_81 : decode cX11_load 81 = .ok (.aload_n 0, 1) := by decide +kernel
theorem dX11_load_82 : decode cX11_load 82 = .ok (.getfield 243, 3) := by decide +kernel
theorem dX11_load_85 : decode cX11_load 85 = .ok (.putfield 343, 3) := by decide +kernel
theorem dX11_load_88 : decode cX11_load 88 = .ok (.aload_n 0, 1) := by decide +kernel
theorem dX11_load_89 : decode cX11_load 89 = .ok (.aload_n 0, 1) := by decide +kernel
theorem dX11_load_90 : decode cX11_load 90 = .ok (.getfield 243, 3) := by decide +kernel
theorem dX11_load_93 : decode cX11_load 93 = .ok (.ifCond .le 10, 3) := by decide +kernel
theorem dX11_load_96 : decode cX11_load 96 = .ok (.aload_n 0, 1) := by decide +kernel
theorem dX11_load_97 : decode cX11_load 97 = .ok (.getfield 246, 3) := by decide +kernel
theorem dX11_load_100 : decode cX11_load 100 = .ok (.goto 5, 3) := by decide +kernel
theorem dX11_load_103 : decode cX11_load 103 = .ok (.ldc 133, 2) := by decide +kernel
theorem dX11_load_105 : decode cX11_load 105 = .ok (.putfield 134, 3) := by decide +kernel
theorem dX11_load_108 : decode cX11_load 108 = .ok (.aload_n 0, 1) := by decide +kernel
theorem dX11_load_109 : decode cX11_load 109 = .ok (.getfield 243, 3) := by decide +kernel
theorem dX11_load_112 : decode cX11_load 112 = .ok (.ifCond .le 19, 3) := by decide +kernel
theorem dX11_load_115 : decode cX11_load 115 = .ok (.aload_n 0, 1) := by decide +kernel
theorem dX11_load_116 : decode cX11_load 116 = .ok (.aload_n 0, 1) := by decide +kernel
theorem dX11_load_117 : decode cX11_load 117 = .ok (.getfield 334, 3) := by decide +kernel
theorem dX11_load_120 : decode cX11_load 120 = .ok (.putfield 183, 3) := by decide +kernel
theorem dX11_load_123 : decode cX11_load 123 = .ok (.bipush (-10), 2) := by decide +kernel
theorem dX11_load_125 : decode cX11_load 125 = .ok (.aload_n 0, 1) := by decide +kernel
theorem dX11_load_126 : decode cX11_load 126 = .ok (.getfield 343, 3) := by decide +kernel
theorem dX11_load_129 : decode cX11_load 129 = .ok (.isub, 1) := by decide +kernel
theorem dX11_load_130 : decode cX11_load 130 = .ok (.ireturn, 1) := by decide +kernel
theorem dX11_load_131 : decode cX11_load 131 = .ok (.aload_n 0, 1) := by decide +kernel
theorem dX11_load_132 : decode cX11_load 132 = .ok (.aload_n 0, 1) := by decide +kernel
theorem dX11_load_133 : decode cX11_load 133 = .ok (.getfield 183, 3) := by decide +kernel
theorem dX11_load_136 : decode cX11_load 136 = .ok (.putfield 334, 3) := by decide +kernel
theorem dX11_load_139 : decode cX11_load 139 = .ok (.iconst 0, 1) := by decide +kernel
theorem dX11_load_140 : decode cX11_load 140 = .ok (.istore_n 1, 1) := by decide +kernel
theorem dX11_load_141 : decode cX11_load 141 = .ok (.iload_n 1, 1) := by decide +kernel
theorem dX11_load_142 : decode cX11_load 142 = .ok (.bipush 8, 2) := by decide +kernel
theorem dX11_load_144 : decode cX11_load 144 = .ok (.if_icmp .ge 16, 3) := by decide +kernel
theorem dX11_load_147 : decode cX11_load 147 = .ok (.aload_n 0, 1) := by decide +kernel
theorem dX11_load_148 : decode cX11_load 148 = .ok (.getfield 138, 3) := by decide +kernel
theorem dX11_load_151 : decode cX11_load 151 = .ok (.iload_n 1, 1) := by decide +kernel
theorem dX11_load_152 : decode cX11_load 152 = .ok (.iconst 0, 1) := by decide +kernel
theorem dX11_load_153 : decode cX11_load 153 = .ok (.iastore, 1) := by decide +kernel
theorem dX11_load_154 : decode cX11_load 154 = .ok (.iinc 1 1, 3) := by decide +kernel
theorem dX11_load_157 : decode cX11_load 157 = .ok (.goto (-16), 3) := by decide +kernel
theorem dX11_load_160 : decode cX11_load 160 = .ok (.aload_n 0, 1) := by decide +kernel
theorem dX11_load_161 : decode cX11_load 161 = .ok (.iconst 0, 1) := by decide +kernel
theorem dX11_load_162 : decode cX11_load 162 = .ok (.putfield 346, 3) := by decide +kernel
theorem dX11_load_165 : decode cX11_load 165 = .ok (.aload_n 0, 1) := by decide +kernel
theorem dX11_load_166 : decode cX11_load 166 = .ok (.iconst 0, 1) := by decide +kernel
theorem dX11_load_167 : decode cX11_load 167 = .ok (.putfield 349, 3) := by decide +kernel
theorem dX11_load_170 : decode cX11_load 170 = .ok (.aload_n 0, 1) := by decide +kernel
theorem dX11_load_171 : decode cX11_load 171 = .ok (.getfield 16, 3) := by decide +kernel
theorem dX11_load_174 : decode cX11_load 174 = .ok (.aload_n 0, 1) := by decide +kernel
theorem dX11_load_175 : decode cX11_load 175 = .ok (.getfield 334, 3) := by decide +kernel
theorem dX11_load_178 : decode cX11_load 178 = .ok (.iaload, 1) := by decide +kernel
theorem dX11_load_179 : decode cX11_load 179 = .ok (.ireturn, 1) := by decide +kernel
theorem dX11_fault_0 : decode cX11_fault 0 = .ok (.iload_n 1, 1) := by decide +kernel
theorem dX11_fault_1 : decode cX11_fault 1 = .ok (.ifCond .ne 10, 3) := by decide +kernel
theorem dX11_fault_4 : decode cX11_fault 4 = .ok (.aload_n 0, 1) := by decide +kernel
theorem dX11_fault_5 : decode cX11_fault 5 = .ok (.getfield 343, 3) := by decide +kernel
theorem dX11_fault_8 : decode cX11_fault 8 = .ok (.goto 17, 3) := by decide +kernel
theorem dX11_fault_11 : decode cX11_fault 11 = .ok (.iload_n 1, 1) := by decide +kernel
theorem dX11_fault_12 : decode cX11_fault 12 = .ok (.iconst 1, 1) := by decide +kernel
theorem dX11_fault_13 : decode cX11_fault 13 = .ok (.if_icmp .ne 10, 3) := by decide +kernel
theorem dX11_fault_16 : decode cX11_fault 16 = .ok (.aload_n 0, 1) := by decide +kernel
theorem dX11_fault_17 : decode cX11_fault 17 = .ok (.getfield 134, 3) := by decide +kernel
theorem dX11_fault_20 : decode cX11_fault 20 = .ok (.goto 5, 3) := by decide +kernel
theorem dX11_fault_23 : decode cX11_fault 23 = .ok (.ldc 179, 2) := by decide +kernel
theorem dX11_fault_25 : decode cX11_fault 25 = .ok (.ireturn, 1) := by decide +kernel
theorem dX11_note_0 : decode cX11_note 0 = .ok (.aload_n 0, 1) := by decide +kernel
theorem dX11_note_1 : decode cX11_note 1 = .ok (.getfield 346, 3) := by decide +kernel
theorem dX11_note_4 : decode cX11_note 4 = .ok (.sipush 200, 3) := by decide +kernel
theorem dX11_note_7 : decode cX11_note 7 = .ok (.if_icmp .ge 29, 3) := by decide +kernel
theorem dX11_note_10 : decode cX11_note 10 = .ok (.aload_n 0, 1) := by decide +kernel
theorem dX11_note_11 : decode cX11_note 11 = .ok (.getfield 150, 3) := by decide +kernel
theorem dX11_note_14 : decode cX11_note 14 = .ok (.aload_n 0, 1) := by decide +kernel
theorem dX11_note_15 : decode cX11_note 15 = .ok (.getfield 346, 3) := by decide +kernel
theorem dX11_note_18 : decode cX11_note 18 = .ok (.sipush 1000, 3) := by decide +kernel
theorem dX11_note_21 : decode cX11_note 21 = .ok (.iload_n 1, 1) := by decide +kernel
theorem dX11_note_22 : decode cX11_note 22 = .ok (.imul, 1) := by decide +kernel
theorem dX11_note_23 : decode cX11_note 23 = .ok (.iload_n 2, 1) := by decide +kernel
theorem dX11_note_24 : decode cX11_note 24 = .ok (.iadd, 1) := by decide +kernel
theorem dX11_note_25 : decode cX11_note 25 = .ok (.iastore, 1) := by decide +kernel
theorem dX11_note_26 : decode cX11_note 26 = .ok (.aload_n 0, 1) := by decide +kernel
theorem dX11_note_27 : decode cX11_note 27 = .ok (.dup, 1) := by decide +kernel
theorem dX11_note_28 : decode cX11_note 28 = .ok (.getfield 346, 3) := by decide +kernel
theorem dX11_note_31 : decode cX11_note 31 = .ok (.iconst 1, 1) := by decide +kernel
theorem dX11_note_32 : decode cX11_note 32 = .ok (.iadd, 1) := by decide +kernel
theorem dX11_note_33 : decode cX11_note 33 = .ok (.putfield 346, 3) := by decide +kernel
theorem dX11_note_36 : decode cX11_note 36 = .ok (.return_, 1) := by decide +kernel
theorem dX11_pushFrame_0 : decode cX11_pushFrame 0 = .ok (.aload_n 0, 1) := by decide +kernel
theorem dX11_pushFrame_1 : decode cX11_pushFrame 1 = .ok (.getfield 153, 3) := by decide +kernel
theorem dX11_pushFrame_4 : decode cX11_pushFrame 4 = .ok (.aload_n 0, 1) := by decide +kernel
theorem dX11_pushFrame_5 : decode cX11_pushFrame 5 = .ok (.getfield 352, 3) := by decide +kernel
theorem dX11_pushFrame_8 : decode cX11_pushFrame 8 = .ok (.iload_n 1, 1) := by decide +kernel
theorem dX11_pushFrame_9 : decode cX11_pushFrame 9 = .ok (.iastore, 1) := by decide +kernel
theorem dX11_pushFrame_10 : decode cX11_pushFrame 10 = .ok (.aload_n 0, 1) := by decide +kernel
theorem dX11_pushFrame_11 : decode cX11_pushFrame 11 = .ok (.getfield 156, 3) := by decide +kernel
theorem dX11_pushFrame_14 : decode cX11_pushFrame 14 = .ok (.aload_n 0, 1) := by decide +kernel
theorem dX11_pushFrame_15 : decode cX11_pushFrame 15 = .ok (.getfield 352, 3) := by decide +kernel
theorem dX11_pushFrame_18 : decode cX11_pushFrame 18 = .ok (.iload_n 2, 1) := by decide +kernel
theorem dX11_pushFrame_19 : decode cX11_pushFrame 19 = .ok (.iastore, 1) := by decide +kernel
theorem dX11_pushFrame_20 : decode cX11_pushFrame 20 = .ok (.aload_n 0, 1) := by decide +kernel
theorem dX11_pushFrame_21 : decode cX11_pushFrame 21 = .ok (.getfield 159, 3) := by decide +kernel
theorem dX11_pushFrame_24 : decode cX11_pushFrame 24 = .ok (.aload_n 0, 1) := by decide +kernel
theorem dX11_pushFrame_25 : decode cX11_pushFrame 25 = .ok (.getfield 352, 3) := by decide +kernel
theorem dX11_pushFrame_28 : decode cX11_pushFrame 28 = .ok (.iload_n 3, 1) := by decide +kernel
theorem dX11_pushFrame_29 : decode cX11_pushFrame 29 = .ok (.iastore, 1) := by decide +kernel
theorem dX11_pushFrame_30 : decode cX11_pushFrame 30 = .ok (.aload_n 0, 1) := by decide +kernel
theorem dX11_pushFrame_31 : decode cX11_pushFrame 31 = .ok (.getfield 162, 3) := by decide +kernel
theorem dX11_pushFrame_34 : decode cX11_pushFrame 34 = .ok (.aload_n 0, 1) := by decide +kernel
theorem dX11_pushFrame_35 : decode cX11_pushFrame 35 = .ok (.getfield 352, 3) := by decide +kernel
theorem dX11_pushFrame_38 : decode cX11_pushFrame 38 = .ok (.iload 4, 2) := by decide +kernel
theorem dX11_pushFrame_40 : decode cX11_pushFrame 40 = .ok (.iastore, 1) := by decide +kernel
theorem dX11_pushFrame_41 : decode cX11_pushFrame 41 = .ok (.aload_n 0, 1) := by decide +kernel
theorem dX11_pushFrame_42 : decode cX11_pushFrame 42 = .ok (.dup, 1) := by decide +kernel
theorem dX11_pushFrame_43 : decode cX11_pushFrame 43 = .ok (.getfield 352, 3) := by decide +kernel
theorem dX11_pushFrame_46 : decode cX11_pushFrame 46 = .ok (.iconst 1, 1) := by decide +kernel
theorem dX11_pushFrame_47 : decode cX11_pushFrame 47 = .ok (.iadd, 1) := by decide +kernel
theorem dX11_pushFrame_48 : decode cX11_pushFrame 48 = .ok (.putfield 352, 3) := by decide +kernel
theorem dX11_pushFrame_51 : decode cX11_pushFrame 51 = .ok (.return_, 1) := by decide +kernel
theorem dX11_begin_0 : decode cX11_begin 0 = .ok (.aload_n 0, 1) := by decide +kernel
theorem dX11_begin_1 : decode cX11_begin 1 = .ok (.getfield 138, 3) := by decide +kernel
theorem dX11_begin_4 : decode cX11_begin 4 = .ok (.iload_n 1, 1) := by decide +kernel
theorem dX11_begin_5 : decode cX11_begin 5 = .ok (.iconst 3, 1) := by decide +kernel
theorem dX11_begin_6 : decode cX11_begin 6 = .ok (.iastore, 1) := by decide +kernel
theorem dX11_begin_7 : decode cX11_begin 7 = .ok (.aload_n 0, 1) := by decide +kernel
theorem dX11_begin_8 : decode cX11_begin 8 = .ok (.getfield 147, 3) := by decide +kernel
theorem dX11_begin_11 : decode cX11_begin 11 = .ok (.iload_n 1, 1) := by decide +kernel
theorem dX11_begin_12 : decode cX11_begin 12 = .ok (.iconst 0, 1) := by decide +kernel
theorem dX11_begin_13 : decode cX11_begin 13 = .ok (.iastore, 1) := by decide +kernel
theorem dX11_begin_14 : decode cX11_begin 14 = .ok (.aload_n 0, 1) := by decide +kernel
theorem dX11_begin_15 : decode cX11_begin 15 = .ok (.iload_n 1, 1) := by decide +kernel
theorem dX11_begin_16 : decode cX11_begin 16 = .ok (.iconst 0, 1) := by decide +kernel
theorem dX11_begin_17 : decode cX11_begin 17 = .ok (.invokevirtual 355, 3) := by decide +kernel
theorem dX11_begin_20 : decode cX11_begin 20 = .ok (.aload_n 0, 1) := by decide +kernel
theorem dX11_begin_21 : decode cX11_begin 21 = .ok (.iload_n 1, 1) := by decide +kernel
theorem dX11_begin_22 : decode cX11_begin 22 = .ok (.iconst 0, 1) := by decide +kernel
theorem dX11_begin_23 : decode cX11_begin 23 = .ok (.iconst (-1), 1) := by decide +kernel
theorem dX11_begin_24 : decode cX11_begin 24 = .ok (.iconst 0, 1) := by decide +kernel
theorem dX11_begin_25 : decode cX11_begin 25 = .ok (.invokevirtual 358, 3) := by decide +kernel
theorem dX11_begin_28 : decode cX11_begin 28 = .ok (.return_, 1) := by decide +kernel
theorem dX11_fails_0 : decode cX11_fails 0 = .ok (.aload_n 0, 1) := by decide +kernel
theorem dX11_fails_1 : decode cX11_fails 1 = .ok (.iload_n 1, 1) := by decide +kernel
theorem dX11_fails_2 : decode cX11_fails 2 = .ok (.putfield 362, 3) := by decide +kernel
theorem dX11_fails_5 : decode cX11_fails 5 = .ok (.aload_n 0, 1) := by decide +kernel
theorem dX11_fails_6 : decode cX11_fails 6 = .ok (.dup, 1) := by decide +kernel
theorem dX11_fails_7 : decode cX11_fails 7 = .ok (.getfield 365, 3) := by decide +kernel
theorem dX11_fails_10 : decode cX11_fails 10 = .ok (.iconst 1, 1) := by decide +kernel
theorem dX11_fails_11 : decode cX11_fails 11 = .ok (.iadd, 1) := by decide +kernel
theorem dX11_fails_12 : decode cX11_fails 12 = .ok (.putfield 365, 3) := by decide +kernel
theorem dX11_fails_15 : decode cX11_fails 15 = .ok (.aload_n 0, 1) := by decide +kernel
theorem dX11_fails_16 : decode cX11_fails 16 = .ok (.getfield 352, 3) := by decide +kernel
theorem dX11_fails_19 : decode cX11_fails 19 = .ok (.ifCond .le 59, 3) := by decide +kernel
theorem dX11_fails_22 : decode cX11_fails 22 = .ok (.aload_n 0, 1) := by decide +kernel
theorem dX11_fails_23 : decode cX11_fails 23 = .ok (.dup, 1) := by decide +kernel
theorem dX11_fails_24 : decode cX11_fails 24 = .ok (.getfield 352, 3) := by decide +kernel
theorem dX11_fails_27 : decode cX11_fails 27 = .ok (.iconst 1, 1) := by decide +kernel
theorem dX11_fails_28 : decode cX11_fails 28 = .ok (.isub, 1) := by decide +kernel
theorem dX11_fails_29 : decode cX11_fails 29 = .ok (.putfield 352, 3) := by decide +kernel
theorem dX11_fails_32 : decode cX11_fails 32 = .ok (.aload_n 0, 1) := by decide +kernel
theorem dX11_fails_33 : decode cX11_fails 33 = .ok (.getfield 159, 3) := by decide +kernel
theorem dX11_fails_36 : decode cX11_fails 36 = .ok (.aload_n 0, 1) := by decide +kernel
theorem dX11_fails_37 : decode cX11_fails 37 = .ok (.getfield 352, 3) := by decide +kernel
theorem dX11_fails_40 : decode cX11_fails 40 = .ok (.iaload, 1) := by decide +kernel
theorem dX11_fails_41 : decode cX11_fails 41 = .ok (.ifCond .ge (-26), 3) := by decide +kernel
theorem dX11_fails_44 : decode cX11_fails 44 = .ok (.aload_n 0, 1) := by decide +kernel
theorem dX11_fails_45 : decode cX11_fails 45 = .ok (.getfield 138, 3) := by decide +kernel
theorem dX11_fails_48 : decode cX11_fails 48 = .ok (.aload_n 0, 1) := by decide +kernel
theorem dX11_fails_49 : decode cX11_fails 49 = .ok (.getfield 153, 3) := by decide +kernel
theorem dX11_fails_52 : decode cX11_fails 52 = .ok (.aload_n 0, 1) := by decide +kernel
