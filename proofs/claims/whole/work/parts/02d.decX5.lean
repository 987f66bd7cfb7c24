/-! decode rows -/
theorem dX5_reckon_0 : decode cX5_reckon 0 = .ok (.iconst 0, 1) := by decide +kernel
theorem dX5_reckon_1 : decode cX5_reckon 1 = .ok (.istore 4, 2) := by decide +kernel
theorem dX5_reckon_3 : decode cX5_reckon 3 = .ok (.iload_n 2, 1) := by decide +kernel
theorem dX5_reckon_4 : decode cX5_reckon 4 = .ok (.istore 5, 2) := by decide +kernel
theorem dX5_reckon_6 : decode cX5_reckon 6 = .ok (.iconst 0, 1) := by decide +kernel
theorem dX5_reckon_7 : decode cX5_reckon 7 = .ok (.istore 6, 2) := by decide +kernel
theorem dX5_reckon_9 : decode cX5_reckon 9 = .ok (.iload 6, 2) := by decide +kernel
theorem dX5_reckon_11 : decode cX5_reckon 11 = .ok (.aload_n 1, 1) := by decide +kernel
theorem dX5_reckon_12 : decode cX5_reckon 12 = .ok (.arraylength, 1) := by decide +kernel
theorem dX5_reckon_13 : decode cX5_reckon 13 = .ok (.if_icmp .ge 289, 3) := by decide +kernel
theorem dX5_reckon_16 : decode cX5_reckon 16 = .ok (.iload 5, 2) := by decide +kernel
theorem dX5_reckon_18 : decode cX5_reckon 18 = .ok (.ifCond .lt 10, 3) := by decide +kernel
theorem dX5_reckon_21 : decode cX5_reckon 21 = .ok (.iload 5, 2) := by decide +kernel
theorem dX5_reckon_23 : decode cX5_reckon 23 = .ok (.aload_n 1, 1) := by decide +kernel
theorem dX5_reckon_24 : decode cX5_reckon 24 = .ok (.arraylength, 1) := by decide +kernel
theorem dX5_reckon_25 : decode cX5_reckon 25 = .ok (.if_icmp .lt 7, 3) := by decide +kernel
theorem dX5_reckon_28 : decode cX5_reckon 28 = .ok (.ldc2_w 15, 3) := by decide +kernel
theorem dX5_reckon_31 : decode cX5_reckon 31 = .ok (.lreturn, 1) := by decide +kernel
theorem dX5_reckon_32 : decode cX5_reckon 32 = .ok (.aload_n 1, 1) := by decide +kernel
theorem dX5_reckon_33 : decode cX5_reckon 33 = .ok (.iload 5, 2) := by decide +kernel
theorem dX5_reckon_35 : decode cX5_reckon 35 = .ok (.iaload, 1) := by decide +kernel
theorem dX5_reckon_36 : decode cX5_reckon 36 = .ok (.bipush 15, 2) := by decide +kernel
theorem dX5_reckon_38 : decode cX5_reckon 38 = .ok (.iand, 1) := by decide +kernel
theorem dX5_reckon_39 : decode cX5_reckon 39 = .ok (.istore 7, 2) := by decide +kernel
theorem dX5_reckon_41 : decode cX5_reckon 41 = .ok (.aload_n 1, 1) := by decide +kernel
theorem dX5_reckon_42 : decode cX5_reckon 42 = .ok (.iload 5, 2) := by decide +kernel
theorem dX5_reckon_44 : decode cX5_reckon 44 = .ok (.iaload, 1) := by decide +kernel
theorem dX5_reckon_45 : decode cX5_reckon 45 = .ok (.iconst 4, 1) := by decide +kernel
theorem dX5_reckon_46 : decode cX5_reckon 46 = .ok (.ishr, 1) := by decide +kernel
theorem dX5_reckon_47 : decode cX5_reckon 47 = .ok (.istore 8, 2) := by decide +kernel
theorem dX5_reckon_49 : decode cX5_reckon 49 = .ok (.iinc 5 1, 3) := by decide +kernel
theorem dX5_reckon_52 : decode cX5_reckon 52 = .ok (.iload 7, 2) := by decide +kernel
theorem dX5_reckon_54 : decode cX5_reckon 54 = .ok (.ifCond .ne 22, 3) := by decide +kernel
theorem dX5_reckon_57 : decode cX5_reckon 57 = .ok (.iload 4, 2) := by decide +kernel
theorem dX5_reckon_59 : decode cX5_reckon 59 = .ok (.iconst 1, 1) := by decide +kernel
theorem dX5_reckon_60 : decode cX5_reckon 60 = .ok (.if_icmp .ne 12, 3) := by decide +kernel
theorem dX5_reckon_63 : decode cX5_reckon 63 = .ok (.aload_n 0, 1) := by decide +kernel
theorem dX5_reckon_64 : decode cX5_reckon 64 = .ok (.getfield 9, 3) := by decide +kernel
theorem dX5_reckon_67 : decode cX5_reckon 67 = .ok (.iconst 0, 1) := by decide +kernel
theorem dX5_reckon_68 : decode cX5_reckon 68 = .ok (.laload, 1) := by decide +kernel
theorem dX5_reckon_69 : decode cX5_reckon 69 = .ok (.goto 6, 3) := by decide +kernel
theorem dX5_reckon_72 : decode cX5_reckon 72 = .ok (.ldc2_w 15, 3) := by decide +kernel
theorem dX5_reckon_75 : decode cX5_reckon 75 = .ok (.lreturn, 1) := by decide +kernel
theorem dX5_reckon_76 : decode cX5_reckon 76 = .ok (.iload 7, 2) := by decide +kernel
theorem dX5_reckon_78 : decode cX5_reckon 78 = .ok (.iconst 1, 1) := by decide +kernel
theorem dX5_reckon_79 : decode cX5_reckon 79 = .ok (.if_icmp .eq 9, 3) := by decide +kernel
theorem dX5_reckon_82 : decode cX5_reckon 82 = .ok (.iload 7, 2) := by decide +kernel
theorem dX5_reckon_84 : decode cX5_reckon 84 = .ok (.iconst 2, 1) := by decide +kernel
theorem dX5_reckon_85 : decode cX5_reckon 85 = .ok (.if_icmp .ne 62, 3) := by decide +kernel
theorem dX5_reckon_88 : decode cX5_reckon 88 = .ok (.iload 4, 2) := by decide +kernel
theorem dX5_reckon_90 : decode cX5_reckon 90 = .ok (.bipush 50, 2) := by decide +kernel
theorem dX5_reckon_92 : decode cX5_reckon 92 = .ok (.if_icmp .ge 21, 3) := by decide +kernel
theorem dX5_reckon_95 : decode cX5_reckon 95 = .ok (.iload 7, 2) := by decide +kernel
theorem dX5_reckon_97 : decode cX5_reckon 97 = .ok (.iconst 2, 1) := by decide +kernel
theorem dX5_reckon_98 : decode cX5_reckon 98 = .ok (.if_icmp .ne 19, 3) := by decide +kernel
theorem dX5_reckon_101 : decode cX5_reckon 101 = .ok (.iload 8, 2) := by decide +kernel
theorem dX5_reckon_103 : decode cX5_reckon 103 = .ok (.ifCond .lt 10, 3) := by decide +kernel
theorem dX5_reckon_106 : decode cX5_reckon 106 = .ok (.iload 8, 2) := by decide +kernel
theorem dX5_reckon_108 : decode cX5_reckon 108 = .ok (.aload_n 3, 1) := by decide +kernel
theorem dX5_reckon_109 : decode cX5_reckon 109 = .ok (.arraylength, 1) := by decide +kernel
theorem dX5_reckon_110 : decode cX5_reckon 110 = .ok (.if_icmp .lt 7, 3) := by decide +kernel
theorem dX5_reckon_113 : decode cX5_reckon 113 = .ok (.ldc2_w 15, 3) := by decide +kernel
theorem dX5_reckon_116 : decode cX5_reckon 116 = .ok (.lreturn, 1) := by decide +kernel
theorem dX5_reckon_117 : decode cX5_reckon 117 = .ok (.aload_n 0, 1) := by decide +kernel
theorem dX5_reckon_118 : decode cX5_reckon 118 = .ok (.getfield 9, 3) := by decide +kernel
theorem dX5_reckon_121 : decode cX5_reckon 121 = .ok (.iload 4, 2) := by decide +kernel
theorem dX5_reckon_123 : decode cX5_reckon 123 = .ok (.iload 7, 2) := by decide +kernel
theorem dX5_reckon_125 : decode cX5_reckon 125 = .ok (.iconst 1, 1) := by decide +kernel
theorem dX5_reckon_126 : decode cX5_reckon 126 = .ok (.if_icmp .ne 9, 3) := by decide +kernel
theorem dX5_reckon_129 : decode cX5_reckon 129 = .ok (.iload 8, 2) := by decide +kernel
theorem dX5_reckon_131 : decode cX5_reckon 131 = .ok (.i2l, 1) := by decide +kernel
theorem dX5_reckon_132 : decode cX5_reckon 132 = .ok (.goto 8, 3) := by decide +kernel
theorem dX5_reckon_135 : decode cX5_reckon 135 = .ok (.aload_n 3, 1) := by decide +kernel
theorem dX5_reckon_136 : decode cX5_reckon 136 = .ok (.iload 8, 2) := by decide +kernel
theorem dX5_reckon_138 : decode cX5_reckon 138 = .ok (.iaload, 1) := by decide +kernel
theorem dX5_reckon_139 : decode cX5_reckon 139 = .ok (.i2l, 1) := by decide +kernel
theorem dX5_reckon_140 : decode cX5_reckon 140 = .ok (.lastore, 1) := by decide +kernel
theorem dX5_reckon_141 : decode cX5_reckon 141 = .ok (.iinc 4 1, 3) := by decide +kernel
theorem dX5_reckon_144 : decode cX5_reckon 144 = .ok (.goto 152, 3) := by decide +kernel
theorem dX5_reckon_147 : decode cX5_reckon 147 = .ok (.iload 7, 2) := by decide +kernel
theorem dX5_reckon_149 : decode cX5_reckon 149 = .ok (.bipush 11, 2) := by decide +kernel
theorem dX5_reckon_151 : decode cX5_reckon 151 = .ok (.if_icmp .lt 82, 3) := by decide +kernel
theorem dX5_reckon_154 : decode cX5_reckon 154 = .ok (.iload 4, 2) := by decide +kernel
theorem dX5_reckon_156 : decode cX5_reckon 156 = .ok (.iconst 1, 1) := by decide +kernel
theorem dX5_reckon_157 : decode cX5_reckon 157 = .ok (.if_icmp .ge 7, 3) := by decide +kernel
theorem dX5_reckon_160 : decode cX5_reckon 160 = .ok (.ldc2_w 15, 3) := by decide +kernel
theorem dX5_reckon_163 : decode cX5_reckon 163 = .ok (.lreturn, 1) := by decide +kernel
theorem dX5_reckon_164 : decode cX5_reckon 164 = .ok (.iload 7, 2) := by decide +kernel
theorem dX5_reckon_166 : decode cX5_reckon 166 = .ok (.bipush 11, 2) := by decide +kernel
theorem dX5_reckon_168 : decode cX5_reckon 168 = .ok (.if_icmp .ne 26, 3) := by decide +kernel
theorem dX5_reckon_171 : decode cX5_reckon 171 = .ok (.aload_n 0, 1) := by decide +kernel
theorem dX5_reckon_172 : decode cX5_reckon 172 = .ok (.getfield 9, 3) := by decide +kernel
theorem dX5_reckon_175 : decode cX5_reckon 175 = .ok (.iload 4, 2) := by decide +kernel
theorem dX5_reckon_177 : decode cX5_reckon 177 = .ok (.iconst 1, 1) := by decide +kernel
theorem dX5_reckon_178 : decode cX5_reckon 178 = .ok (.isub, 1) := by decide +kernel
theorem dX5_reckon_179 : decode cX5_reckon 179 = .ok (.lconst 1, 1) := by decide +kernel
theorem dX5_reckon_180 : decode cX5_reckon 180 = .ok (.aload_n 0, 1) := by decide +kernel
theorem dX5_reckon_181 : decode cX5_reckon 181 = .ok (.getfield 9, 3) := by decide +kernel
theorem dX5_reckon_184 : decode cX5_reckon 184 = .ok (.iload 4, 2) := by decide +kernel
theorem dX5_reckon_186 : decode cX5_reckon 186 = .ok (.iconst 1, 1) := by decide +kernel
theorem dX5_reckon_187 : decode cX5_reckon 187 = .ok (.isub, 1) := by decide +kernel
theorem dX5_reckon_188 : decode cX5_reckon 188 = .ok (.laload, 1) := by decide +kernel
theorem dX5_reckon_189 : decode cX5_reckon 189 = .ok (.lsub, 1) := by decide +kernel
theorem dX5_reckon_190 : decode cX5_reckon 190 = .ok (.lastore, 1) := by decide +kernel
theorem dX5_reckon_191 : decode cX5_reckon 191 = .ok (.goto 105, 3) := by decide +kernel
theorem dX5_reckon_194 : decode cX5_reckon 194 = .ok (.aload_n 0, 1) := by decide +kernel
theorem dX5_reckon_195 : decode cX5_reckon 195 = .ok (.getfield 9, 3) := by decide +kernel
theorem dX5_reckon_198 : decode cX5_reckon 198 = .ok (.iload 4, 2) := by decide +kernel
theorem dX5_reckon_200 : decode cX5_reckon 200 = .ok (.iconst 1, 1) := by decide +kernel
theorem dX5_reckon_201 : decode cX5_reckon 201 = .ok (.isub, 1) := by decide +kernel
theorem dX5_reckon_202 : decode cX5_reckon 202 = .ok (.laload, 1) := by decide +kernel
theorem dX5_reckon_203 : decode cX5_reckon 203 = .ok (.iload 7, 2) := by decide +kernel
theorem dX5_reckon_205 : decode cX5_reckon 205 = .ok (.bipush 13, 2) := by decide +kernel
theorem dX5_reckon_207 : decode cX5_reckon 207 = .ok (.if_icmp .ne 7, 3) := by decide +kernel
theorem dX5_reckon_210 : decode cX5_reckon 210 = .ok (.iconst 1, 1) := by decide +kernel
theorem dX5_reckon_211 : decode cX5_reckon 211 = .ok (.goto 4, 3) := by decide +kernel
theorem dX5_reckon_214 : decode cX5_reckon 214 = .ok (.iconst 0, 1) := by decide +kernel
theorem dX5_reckon_215 : decode cX5_reckon 215 = .ok (.i2l, 1) := by decide +kernel
theorem dX5_reckon_216 : decode cX5_reckon 216 = .ok (.lcmp, 1) := by decide +kernel
theorem dX5_reckon_217 : decode cX5_reckon 217 = .ok (.ifCond .ne 10, 3) := by decide +kernel
theorem dX5_reckon_220 : decode cX5_reckon 220 = .ok (.iload 8, 2) := by decide +kernel
theorem dX5_reckon_222 : decode cX5_reckon 222 = .ok (.istore 5, 2) := by decide +kernel
theorem dX5_reckon_224 : decode cX5_reckon 224 = .ok (.goto 72, 3) := by decide +kernel
theorem dX5_reckon_227 : decode cX5_reckon 227 = .ok (.iinc 4 (-1), 3) := by decide +kernel
theorem dX5_reckon_230 : decode cX5_reckon 230 = .ok (.goto 66, 3) := by decide +kernel
theorem dX5_reckon_233 : decode cX5_reckon 233 = .ok (.iload 4, 2) := by decide +kernel
theorem dX5_reckon_235 : decode cX5_reckon 235 = .ok (.iconst 2, 1) := by decide +kernel
theorem dX5_reckon_236 : decode cX5_reckon 236 = .ok (.if_icmp .ge 7, 3) := by decide +kernel
theorem dX5_reckon_239 : decode cX5_reckon 239 = .ok (.ldc2_w 15, 3) := by decide +kernel
theorem dX5_reckon_242 : decode cX5_reckon 242 = .ok (.lreturn, 1) := by decide +kernel
theorem dX5_reckon_243 : decode cX5_reckon 243 = .ok (.iinc 4 (-1), 3) := by decide +kernel
theorem dX5_reckon_246 : decode cX5_reckon 246 = .ok (.aload_n 0, 1) := by decide +kernel
theorem dX5_reckon_247 : decode cX5_reckon 247 = .ok (.getfield 9, 3) := by decide +kernel
theorem dX5_reckon_250 : decode cX5_reckon 250 = .ok (.iload 4, 2) := by decide +kernel
theorem dX5_reckon_252 : decode cX5_reckon 252 = .ok (.iconst 1, 1) := by decide +kernel
theorem dX5_reckon_253 : decode cX5_reckon 253 = .ok (.isub, 1) := by decide +kernel
theorem dX5_reckon_254 : decode cX5_reckon 254 = .ok (.iload 7, 2) := by decide +kernel
theorem dX5_reckon_256 : decode cX5_reckon 256 = .ok (.aload_n 0, 1) := by decide +kernel
theorem dX5_reckon_257 : decode cX5_reckon 257 = .ok (.getfield 9, 3) := by decide +kernel
theorem dX5_reckon_260 : decode cX5_reckon 260 = .ok (.iload 4, 2) := by decide +kernel
theorem dX5_reckon_262 : decode cX5_reckon 262 = .ok (.iconst 1, 1) := by decide +kernel
theorem dX5_reckon_263 : decode cX5_reckon 263 = .ok (.isub, 1) := by decide +kernel
theorem dX5_reckon_264 : decode cX5_reckon 264 = .ok (.laload, 1) := by decide +kernel
theorem dX5_reckon_265 : decode cX5_reckon 265 = .ok (.aload_n 0, 1) := by decide +kernel
theorem dX5_reckon_266 : decode cX5_reckon 266 = .ok (.getfield 9, 3) := by decide +kernel
theorem dX5_reckon_269 : decode cX5_reckon 269 = .ok (.iload 4, 2) := by decide +kernel
theorem dX5_reckon_271 : decode cX5_reckon 271 = .ok (.laload, 1) := by decide +kernel
theorem dX5_reckon_272 : decode cX5_reckon 272 = .ok (.invokestatic 17, 3) := by decide +kernel
theorem dX5_reckon_275 : decode cX5_reckon 275 = .ok (.lastore, 1) := by decide +kernel
theorem dX5_reckon_276 : decode cX5_reckon 276 = .ok (.aload_n 0, 1) := by decide +kernel
theorem dX5_reckon_277 : decode cX5_reckon 277 = .ok (.getfield 9, 3) := by decide +kernel
theorem dX5_reckon_280 : decode cX5_reckon 280 = .ok (.iload 4, 2) := by decide +kernel
theorem dX5_reckon_282 : decode cX5_reckon 282 = .ok (.iconst 1, 1) := by decide +kernel
theorem dX5_reckon_283 : decode cX5_reckon 283 = .ok (.isub, 1) := by decide +kernel
theorem dX5_reckon_284 : decode cX5_reckon 284 = .ok (.laload, 1) := by decide +kernel
theorem dX5_reckon_285 : decode cX5_reckon 285 = .ok (.ldc2_w 15, 3) := by decide +kernel
theorem dX5_reckon_288 : decode cX5_reckon 288 = .ok (.lcmp, 1) := by decide +kernel
theorem dX5_reckon_289 : decode cX5_reckon 289 = .ok (.ifCond .ne 7, 3) := by decide +kernel
theorem dX5_reckon_292 : decode cX5_reckon 292 = .ok (.ldc2_w 15, 3) := by decide +kernel
theorem dX5_reckon_295 : decode cX5_reckon 295 = .ok (.lreturn, 1) := by decide +kernel
theorem dX5_reckon_296 : decode cX5_reckon 296 = .ok (.iinc 6 1, 3) := by decide +kernel
theorem dX5_reckon_299 : decode cX5_reckon 299 = .ok (.goto (-290), 3) := by decide +kernel
theorem dX5_reckon_302 : decode cX5_reckon 302 = .ok (.ldc2_w 15, 3) := by decide +kernel
theorem dX5_reckon_305 : decode cX5_reckon 305 = .ok (.lreturn, 1) := by decide +kernel
theorem dX5_join_0 : decode cX5_join 0 = .ok (.iload_n 0, 1) := by decide +kernel
theorem dX5_join_1 : decode cX5_join 1 = .ok (.bipush 6, 2) := by decide +kernel
theorem dX5_join_3 : decode cX5_join 3 = .ok (.if_icmp .eq 9, 3) := by decide +kernel
theorem dX5_join_6 : decode cX5_join 6 = .ok (.iload_n 0, 1) := by decide +kernel
theorem dX5_join_7 : decode cX5_join 7 = .ok (.bipush 7, 2) := by decide +kernel
theorem dX5_join_9 : decode cX5_join 9 = .ok (.if_icmp .ne 13, 3) := by decide +kernel
theorem dX5_join_12 : decode cX5_join 12 = .ok (.lload_n 3, 1) := by decide +kernel
theorem dX5_join_13 : decode cX5_join 13 = .ok (.lconst 0, 1) := by decide +kernel
theorem dX5_join_14 : decode cX5_join 14 = .ok (.lcmp, 1) := by decide +kernel
theorem dX5_join_15 : decode cX5_join 15 = .ok (.ifCond .ne 7, 3) := by decide +kernel
theorem dX5_join_18 : decode cX5_join 18 = .ok (.ldc2_w 15, 3) := by decide +kernel
theorem dX5_join_21 : decode cX5_join 21 = .ok (.lreturn, 1) := by decide +kernel
theorem dX5_join_22 : decode cX5_join 22 = .ok (.iload_n 0, 1) := by decide +kernel
theorem dX5_join_23 : decode cX5_join 23 = .ok (.tableswitch 113 3 9 #[41, 49, 57, 65, 73, 81, 97], 41) := by decide +kernel
theorem dX5_join_64 : decode cX5_join 64 = .ok (.lload_n 1, 1) := by decide +kernel
theorem dX5_join_65 : decode cX5_join 65 = .ok (.lload_n 3, 1) := by decide +kernel
theorem dX5_join_66 : decode cX5_join 66 = .ok (.ladd, 1) := by decide +kernel
theorem dX5_join_67 : decode cX5_join 67 = .ok (.lstore 5, 2) := by decide +kernel
theorem dX5_join_69 : decode cX5_join 69 = .ok (.goto 80, 3) := by decide +kernel
theorem dX5_join_72 : decode cX5_join 72 = .ok (.lload_n 1, 1) := by decide +kernel
theorem dX5_join_73 : decode cX5_join 73 = .ok (.lload_n 3, 1) := by decide +kernel
theorem dX5_join_74 : decode cX5_join 74 = .ok (.lsub, 1) := by decide +kernel
theorem dX5_join_75 : decode cX5_join 75 = .ok (.lstore 5, 2) := by decide +kernel
theorem dX5_join_77 : decode cX5_join 77 = .ok (.goto 72, 3) := by decide +kernel
theorem dX5_join_80 : decode cX5_join 80 = .ok (.lload_n 1, 1) := by decide +kernel
theorem dX5_join_81 : decode cX5_join 81 = .ok (.lload_n 3, 1) := by decide +kernel
theorem dX5_join_82 : decode cX5_join 82 = .ok (.lmul, 1) := by decide +kernel
theorem dX5_join_83 : decode cX5_join 83 = .ok (.lstore 5, 2) := by decide +kernel
theorem dX5_join_85 : decode cX5_join 85 = .ok (.goto 64, 3) := by decide +kernel
theorem dX5_join_88 : decode cX5_join 88 = .ok (.lload_n 1, 1) := by decide +kernel
theorem dX5_join_89 : decode cX5_join 89 = .ok (.lload_n 3, 1) := by decide +kernel
theorem dX5_join_90 : decode cX5_join 90 = .ok (.ldiv, 1) := by decide +kernel
theorem dX5_join_91 : decode cX5_join 91 = .ok (.lstore 5, 2) := by decide +kernel
theorem dX5_join_93 : decode cX5_join 93 = .ok (.goto 56, 3) := by decide +kernel
theorem dX5_join_96 : decode cX5_join 96 = .ok (.lload_n 1, 1) := by decide +kernel
theorem dX5_join_97 : decode cX5_join 97 = .ok (.lload_n 3, 1) := by decide +kernel
theorem dX5_join_98 : decode cX5_join 98 = .ok (.lrem, 1) := by decide +kernel
theorem dX5_join_99 : decode cX5_join 99 = .ok (.lstore 5, 2) := by decide +kernel
theorem dX5_join_101 : decode cX5_join 101 = .ok (.goto 48, 3) := by decide +kernel
theorem dX5_join_104 : decode cX5_join 104 = .ok (.lload_n 1, 1) := by decide +kernel
theorem dX5_join_105 : decode cX5_join 105 = .ok (.lload_n 3, 1) := by decide +kernel
theorem dX5_join_106 : decode cX5_join 106 = .ok (.lcmp, 1) := by decide +kernel
theorem dX5_join_107 : decode cX5_join 107 = .ok (.ifCond .ge 7, 3) := by decide +kernel
theorem dX5_join_110 : decode cX5_join 110 = .ok (.lconst 1, 1) := by decide +kernel
theorem dX5_join_111 : decode cX5_join 111 = .ok (.goto 4, 3) := by decide +kernel
theorem dX5_join_114 : decode cX5_join 114 = .ok (.lconst 0, 1) := by decide +kernel
theorem dX5_join_115 : decode cX5_join 115 = .ok (.lstore 5, 2) := by decide +kernel
theorem dX5_join_117 : decode cX5_join 117 = .ok (.goto 32, 3) := by decide +kernel
theorem dX5_join_120 : decode cX5_join 120 = .ok (.lload_n 1, 1) := by decide +kernel
theorem dX5_join_121 : decode cX5_join 121 = .ok (.lload_n 3, 1) := by decide +kernel
theorem dX5_join_122 : decode cX5_join 122 = .ok (.lcmp, 1) := by decide +kernel
theorem dX5_join_123 : decode cX5_join 123 = .ok (.ifCond .le 7, 3) := by decide +kernel
theorem dX5_join_126 : decode cX5_join 126 = .ok (.lconst 1, 1) := by decide +kernel
theorem dX5_join_127 : decode cX5_join 127 = .ok (.goto 4, 3) := by decide +kernel
theorem dX5_join_130 : decode cX5_join 130 = .ok (.lconst 0, 1) := by decide +kernel
theorem dX5_join_131 : decode cX5_join 131 = .ok (.lstore 5, 2) := by decide +kernel
theorem dX5_join_133 : decode cX5_join 133 = .ok (.goto 16, 3) := by decide +kernel
theorem dX5_join_136 : decode cX5_join 136 = .ok (.lload_n 1, 1) := by decide +kernel
theorem dX5_join_137 : decode cX5_join 137 = .ok (.lload_n 3, 1) := by decide +kernel
theorem dX5_join_138 : decode cX5_join 138 = .ok (.lcmp, 1) := by decide +kernel
theorem dX5_join_139 : decode cX5_join 139 = .ok (.ifCond .ne 7, 3) := by decide +kernel
theorem dX5_join_142 : decode cX5_join 142 = .ok (.lconst 1, 1) := by decide +kernel
theorem dX5_join_143 : decode cX5_join 143 = .ok (.goto 4, 3) := by decide +kernel
theorem dX5_join_146 : decode cX5_join 146 = .ok (.lconst 0, 1) := by decide +kernel
theorem dX5_join_147 : decode cX5_join 147 = .ok (.lstore 5, 2) := by decide +kernel
theorem dX5_join_149 : decode cX5_join 149 = .ok (.lload 5, 2) := by decide +kernel
theorem dX5_join_151 : decode cX5_join 151 = .ok (.ldc2_w 21, 3) := by decide +kernel
theorem dX5_join_154 : decode cX5_join 154 = .ok (.lcmp, 1) := by decide +kernel
theorem dX5_join_155 : decode cX5_join 155 = .ok (.ifCond .gt 12, 3) := by decide +kernel
theorem dX5_join_158 : decode cX5_join 158 = .ok (.lload 5, 2) := by decide +kernel
theorem dX5_join_160 : decode cX5_join 160 = .ok (.ldc2_w 23, 3) := by decide +kernel
theorem dX5_join_163 : decode cX5_join 163 = .ok (.lcmp, 1) := by decide +kernel
theorem dX5_join_164 : decode cX5_join 164 = .ok (.ifCond .ge 9, 3) := by decide +kernel
theorem dX5_join_167 : decode cX5_join 167 = .ok (.ldc2_w 15, 3) := by decide +kernel
theorem dX5_join_170 : decode cX5_join 170 = .ok (.goto 5, 3) := by decide +kernel
theorem dX5_join_173 : decode cX5_join 173 = .ok (.lload 5, 2) := by decide +kernel
theorem dX5_join_175 : decode cX5_join 175 = .ok (.lreturn, 1) := by decide +kernel
theorem dX9_clear_0 : decode cX9_clear 0 = .ok (.aload_n 0, 1) := by decide +kernel
theorem dX9_clear_1 : decode cX9_clear 1 = .ok (.iconst 0, 1) := by decide +kernel
theorem dX9_clear_2 : decode cX9_clear 2 = .ok (.putfield 36, 3) := by decide +kernel
theorem dX9_clear_5 : decode cX9_clear 5 = .ok (.aload_n 0, 1) := by decide +kernel
theorem dX9_clear_6 : decode cX9_clear 6 = .ok (.iconst 0, 1) := by decide +kernel
theorem dX9_clear_7 : decode cX9_clear 7 = .ok (.putfield 40, 3) := by decide +kernel
theorem dX9_clear_10 : decode cX9_clear 10 = .ok (.aload_n 0, 1) := by decide +kernel
theorem dX9_clear_11 : decode cX9_clear 11 = .ok (.iconst 0, 1) := by decide +kernel
theorem dX9_clear_12 : decode cX9_clear 12 = .ok (.putfield 46, 3) := by decide +kernel
theorem dX9_clear_15 : decode cX9_clear 15 = .ok (.return_, 1) := by decide +kernel
theorem dX9_begin_0 : decode cX9_begin 0 = .ok (.iload_n 1, 1) := by decide +kernel
theorem dX9_begin_1 : decode cX9_begin 1 = .ok (.ifCond .lt 12, 3) := by decide +kernel
theorem dX9_begin_4 : decode cX9_begin 4 = .ok (.iload_n 1, 1) := by decide +kernel
theorem dX9_begin_5 : decode cX9_begin 5 = .ok (.aload_n 0, 1) := by decide +kernel
theorem dX9_begin_6 : decode cX9_begin 6 = .ok (.getfield 15, 3) := by decide +kernel
theorem dX9_begin_9 : decode cX9_begin 9 = .ok (.arraylength, 1) := by decide +kernel
theorem dX9_begin_10 : decode cX9_begin 10 = .ok (.if_icmp .lt 4, 3) := by decide +kernel
theorem dX9_begin_13 : decode cX9_begin 13 = .ok (.return_, 1) := by decide +kernel
theorem dX9_begin_14 : decode cX9_begin 14 = .ok (.aload_n 0, 1) := by decide +kernel
theorem dX9_begin_15 : decode cX9_begin 15 = .ok (.iload_n 1, 1) := by decide +kernel
theorem dX9_begin_16 : decode cX9_begin 16 = .ok (.iconst 1, 1) := by decide +kernel
theorem dX9_begin_17 : decode cX9_begin 17 = .ok (.iadd, 1) := by decide +kernel
theorem dX9_begin_18 : decode cX9_begin 18 = .ok (.putfield 36, 3) := by decide +kernel
theorem dX9_begin_21 : decode cX9_begin 21 = .ok (.aload_n 0, 1) := by decide +kernel
theorem dX9_begin_22 : decode cX9_begin 22 = .ok (.getfield 15, 3) := by decide +kernel
theorem dX9_begin_25 : decode cX9_begin 25 = .ok (.iload_n 1, 1) := by decide +kernel
theorem dX9_begin_26 : decode cX9_begin 26 = .ok (.iload_n 2, 1) := by decide +kernel
theorem dX9_begin_27 : decode cX9_begin 27 = .ok (.iastore, 1) := by decide +kernel
theorem dX9_begin_28 : decode cX9_begin 28 = .ok (.aload_n 0, 1) := by decide +kernel
theorem dX9_begin_29 : decode cX9_begin 29 = .ok (.getfield 21, 3) := by decide +kernel
theorem dX9_begin_32 : decode cX9_begin 32 = .ok (.iload_n 1, 1) := by decide +kernel
theorem dX9_begin_33 : decode cX9_begin 33 = .ok (.iconst 1, 1) := by decide +kernel
theorem dX9_begin_34 : decode cX9_begin 34 = .ok (.iastore, 1) := by decide +kernel
theorem dX9_begin_35 : decode cX9_begin 35 = .ok (.aload_n 0, 1) := by decide +kernel
theorem dX9_begin_36 : decode cX9_begin 36 = .ok (.getfield 24, 3) := by decide +kernel
theorem dX9_begin_39 : decode cX9_begin 39 = .ok (.iload_n 1, 1) := by decide +kernel
theorem dX9_begin_40 : decode cX9_begin 40 = .ok (.iconst (-1), 1) := by decide +kernel
theorem dX9_begin_41 : decode cX9_begin 41 = .ok (.iastore, 1) := by decide +kernel
theorem dX9_begin_42 : decode cX9_begin 42 = .ok (.aload_n 0, 1) := by decide +kernel
theorem dX9_begin_43 : decode cX9_begin 43 = .ok (.getfield 27, 3) := by decide +kernel
theorem dX9_begin_46 : decode cX9_begin 46 = .ok (.iload_n 1, 1) := by decide +kernel
theorem dX9_begin_47 : decode cX9_begin 47 = .ok (.iconst (-1), 1) := by decide +kernel
theorem dX9_begin_48 : decode cX9_begin 48 = .ok (.iastore, 1) := by decide +kernel
theorem dX9_begin_49 : decode cX9_begin 49 = .ok (.aload_n 0, 1) := by decide +kernel
theorem dX9_begin_50 : decode cX9_begin 50 = .ok (.getfield 30, 3) := by decide +kernel
theorem dX9_begin_53 : decode cX9_begin 53 = .ok (.iload_n 1, 1) := by decide +kernel
theorem dX9_begin_54 : decode cX9_begin 54 = .ok (.iconst (-1), 1) := by decide +kernel
theorem dX9_begin_55 : decode cX9_begin 55 = .ok (.iastore, 1) := by decide +kernel
theorem dX9_begin_56 : decode cX9_begin 56 = .ok (.return_, 1) := by decide +kernel
theorem dX9_emit_0 : decode cX9_emit 0 = .ok (.aload_n 0, 1) := by decide +kernel
theorem dX9_emit_1 : decode cX9_emit 1 = .ok (.getfield 40, 3) := by decide +kernel
theorem dX9_emit_4 : decode cX9_emit 4 = .ok (.aload_n 0, 1) := by decide +kernel
theorem dX9_emit_5 : decode cX9_emit 5 = .ok (.getfield 33, 3) := by decide +kernel
theorem dX9_emit_8 : decode cX9_emit 8 = .ok (.arraylength, 1) := by decide +kernel
theorem dX9_emit_9 : decode cX9_emit 9 = .ok (.if_icmp .ge 27, 3) := by decide +kernel
theorem dX9_emit_12 : decode cX9_emit 12 = .ok (.aload_n 0, 1) := by decide +kernel
theorem dX9_emit_13 : decode cX9_emit 13 = .ok (.getfield 33, 3) := by decide +kernel
theorem dX9_emit_16 : decode cX9_emit 16 = .ok (.aload_n 0, 1) := by decide +kernel
theorem dX9_emit_17 : decode cX9_emit 17 = .ok (.getfield 40, 3) := by decide +kernel
theorem dX9_emit_20 : decode cX9_emit 20 = .ok (.iload_n 2, 1) := by decide +kernel
theorem dX9_emit_21 : decode cX9_emit 21 = .ok (.iconst 4, 1) := by decide +kernel
theorem dX9_emit_22 : decode cX9_emit 22 = .ok (.ishl, 1) := by decide +kernel
theorem dX9_emit_23 : decode cX9_emit 23 = .ok (.iload_n 1, 1) := by decide +kernel
theorem dX9_emit_24 : decode cX9_emit 24 = .ok (.ior, 1) := by decide +kernel
theorem dX9_emit_25 : decode cX9_emit 25 = .ok (.iastore, 1) := by decide +kernel
theorem dX9_emit_26 : decode cX9_emit 26 = .ok (.aload_n 0, 1) := by decide +kernel
theorem dX9_emit_27 : decode cX9_emit 27 = .ok (.dup, 1) := by decide +kernel
theorem dX9_emit_28 : decode cX9_emit 28 = .ok (.getfield 40, 3) := by decide +kernel
theorem dX9_emit_31 : decode cX9_emit 31 = .ok (.iconst 1, 1) := by decide +kernel
theorem dX9_emit_32 : decode cX9_emit 32 = .ok (.iadd, 1) := by decide +kernel
theorem dX9_emit_33 : decode cX9_emit 33 = .ok (.putfield 40, 3) := by decide +kernel
theorem dX9_emit_36 : decode cX9_emit 36 = .ok (.return_, 1) := by decide +kernel
theorem dX9_landHere_0 : decode cX9_landHere 0 = .ok (.iload_n 1, 1) := by decide +kernel
theorem dX9_landHere_1 : decode cX9_landHere 1 = .ok (.ifCond .lt 26, 3) := by decide +kernel
theorem dX9_landHere_4 : decode cX9_landHere 4 = .ok (.iload_n 1, 1) := by decide +kernel
theorem dX9_landHere_5 : decode cX9_landHere 5 = .ok (.aload_n 0, 1) := by decide +kernel
theorem dX9_landHere_6 : decode cX9_landHere 6 = .ok (.getfield 40, 3) := by decide +kernel
theorem dX9_landHere_9 : decode cX9_landHere 9 = .ok (.if_icmp .ge 18, 3) := by decide +kernel
theorem dX9_landHere_12 : decode cX9_landHere 12 = .ok (.aload_n 0, 1) := by decide +kernel
theorem dX9_landHere_13 : decode cX9_landHere 13 = .ok (.getfield 33, 3) := by decide +kernel
theorem dX9_landHere_16 : decode cX9_landHere 16 = .ok (.iload_n 1, 1) := by decide +kernel
theorem dX9_landHere_17 : decode cX9_landHere 17 = .ok (.dup2, 1) := by decide +kernel
theorem dX9_landHere_18 : decode cX9_landHere 18 = .ok (.iaload, 1) := by decide +kernel
theorem dX9_landHere_19 : decode cX9_landHere 19 = .ok (.aload_n 0, 1) := by decide +kernel
theorem dX9_landHere_20 : decode cX9_landHere 20 = .ok (.getfield 40, 3) := by decide +kernel
theorem dX9_landHere_23 : decode cX9_landHere 23 = .ok (.iconst 4, 1) := by decide +kernel
theorem dX9_landHere_24 : decode cX9_landHere 24 = .ok (.ishl, 1) := by decide +kernel
theorem dX9_landHere_25 : decode cX9_landHere 25 = .ok (.ior, 1) := by decide +kernel
theorem dX9_landHere_26 : decode cX9_landHere 26 = .ok (.iastore, 1) := by decide +kernel
theorem dX9_landHere_27 : decode cX9_landHere 27 = .ok (.return_, 1) := by decide +kernel
theorem dX8_add_0 : decode cX8_add 0 = .ok (.bipush 24, 2) := by decide +kernel
theorem dX8_add_2 : decode cX8_add 2 = .ok (.istore_n 2, 1) := by decide +kernel
theorem dX8_add_3 : decode cX8_add 3 = .ok (.iload_n 2, 1) := by decide +kernel
theorem dX8_add_4 : decode cX8_add 4 = .ok (.ifCond .lt 42, 3) := by decide +kernel
theorem dX8_add_7 : decode cX8_add 7 = .ok (.aload_n 0, 1) := by decide +kernel
theorem dX8_add_8 : decode cX8_add 8 = .ok (.getfield 15, 3) := by decide +kernel
theorem dX8_add_11 : decode cX8_add 11 = .ok (.sipush 400, 3) := by decide +kernel
theorem dX8_add_14 : decode cX8_add 14 = .ok (.if_icmp .ge 32, 3) := by decide +kernel
theorem dX8_add_17 : decode cX8_add 17 = .ok (.aload_n 0, 1) := by decide +kernel
theorem dX8_add_18 : decode cX8_add 18 = .ok (.getfield 9, 3) := by decide +kernel
theorem dX8_add_21 : decode cX8_add 21 = .ok (.aload_n 0, 1) := by decide +kernel
theorem dX8_add_22 : decode cX8_add 22 = .ok (.getfield 15, 3) := by decide +kernel
theorem dX8_add_25 : decode cX8_add 25 = .ok (.iload_n 1, 1) := by decide +kernel
theorem dX8_add_26 : decode cX8_add 26 = .ok (.iload_n 2, 1) := by decide +kernel
theorem dX8_add_27 : decode cX8_add 27 = .ok (.ishr, 1) := by decide +kernel
theorem dX8_add_28 : decode cX8_add 28 = .ok (.i2b, 1) := by decide +kernel
theorem dX8_add_29 : decode cX8_add 29 = .ok (.bastore, 1) := by decide +kernel
theorem dX8_add_30 : decode cX8_add 30 = .ok (.aload_n 0, 1) := by decide +kernel
theorem dX8_add_31 : decode cX8_add 31 = .ok (.dup, 1) := by decide +kernel
theorem dX8_add_32 : decode cX8_add 32 = .ok (.getfield 15, 3) := by decide +kernel
theorem dX8_add_35 : decode cX8_add 35 = .ok (.iconst 1, 1) := by decide +kernel
theorem dX8_add_36 : decode cX8_add 36 = .ok (.iadd, 1) := by decide +kernel
theorem dX8_add_37 : decode cX8_add 37 = .ok (.putfield 15, 3) := by decide +kernel
theorem dX8_add_40 : decode cX8_add 40 = .ok (.iinc 2 (-8), 3) := by decide +kernel
theorem dX8_add_43 : decode cX8_add 43 = .ok (.goto (-40), 3) := by decide +kernel
theorem dX8_add_46 : decode cX8_add 46 = .ok (.return_, 1) := by decide +kernel
theorem dX8_byteAt_0 : decode cX8_byteAt 0 = .ok (.iload_n 1, 1) := by decide +kernel
theorem dX8_byteAt_1 : decode cX8_byteAt 1 = .ok (.ifCond .lt 24, 3) := by decide +kernel
theorem dX8_byteAt_4 : decode cX8_byteAt 4 = .ok (.iload_n 1, 1) := by decide +kernel
theorem dX8_byteAt_5 : decode cX8_byteAt 5 = .ok (.aload_n 0, 1) := by decide +kernel
theorem dX8_byteAt_6 : decode cX8_byteAt 6 = .ok (.getfield 15, 3) := by decide +kernel
theorem dX8_byteAt_9 : decode cX8_byteAt 9 = .ok (.if_icmp .ge 16, 3) := by decide +kernel
theorem dX8_byteAt_12 : decode cX8_byteAt 12 = .ok (.aload_n 0, 1) := by decide +kernel
theorem dX8_byteAt_13 : decode cX8_byteAt 13 = .ok (.getfield 9, 3) := by decide +kernel
theorem dX8_byteAt_16 : decode cX8_byteAt 16 = .ok (.iload_n 1, 1) := by decide +kernel
theorem dX8_byteAt_17 : decode cX8_byteAt 17 = .ok (.baload, 1) := by decide +kernel
theorem dX8_byteAt_18 : decode cX8_byteAt 18 = .ok (.sipush 255, 3) := by decide +kernel
theorem dX8_byteAt_21 : decode cX8_byteAt 21 = .ok (.iand, 1) := by decide +kernel
theorem dX8_byteAt_22 : decode cX8_byteAt 22 = .ok (.goto 4, 3) := by decide +kernel
theorem dX8_byteAt_25 : decode cX8_byteAt 25 = .ok (.iconst (-1), 1) := by decide +kernel
theorem dX8_byteAt_26 : decode cX8_byteAt 26 = .ok (.ireturn, 1) := by decide +kernel
theorem dX8_tokenEnd_0 : decode cX8_tokenEnd 0 = .ok (.iload_n 1, 1) := by decide +kernel
theorem dX8_tokenEnd_1 : decode cX8_tokenEnd 1 = .ok (.iconst 1, 1) := by decide +kernel
theorem dX8_tokenEnd_2 : decode cX8_tokenEnd 2 = .ok (.iadd, 1) := by decide +kernel
theorem dX8_tokenEnd_3 : decode cX8_tokenEnd 3 = .ok (.istore_n 2, 1) := by decide +kernel
theorem dX8_tokenEnd_4 : decode cX8_tokenEnd 4 = .ok (.aload_n 0, 1) := by decide +kernel
theorem dX8_tokenEnd_5 : decode cX8_tokenEnd 5 = .ok (.iload_n 1, 1) := by decide +kernel
theorem dX8_tokenEnd_6 : decode cX8_tokenEnd 6 = .ok (.invokevirtual 19, 3) := by decide +kernel
theorem dX8_tokenEnd_9 : decode cX8_tokenEnd 9 = .ok (.invokestatic 23, 3) := by decide +kernel
theorem dX8_tokenEnd_12 : decode cX8_tokenEnd 12 = .ok (.ifCond .eq 28, 3) := by decide +kernel
theorem dX8_tokenEnd_15 : decode cX8_tokenEnd 15 = .ok (.iload_n 2, 1) := by decide +kernel
theorem dX8_tokenEnd_16 : decode cX8_tokenEnd 16 = .ok (.aload_n 0, 1) := by decide +kernel
theorem dX8_tokenEnd_17 : decode cX8_tokenEnd 17 = .ok (.getfield 15, 3) := by decide +kernel
theorem dX8_tokenEnd_20 : decode cX8_tokenEnd 20 = .ok (.if_icmp .ge 56, 3) := by decide +kernel
theorem dX8_tokenEnd_23 : decode cX8_tokenEnd 23 = .ok (.aload_n 0, 1) := by decide +kernel
theorem dX8_tokenEnd_24 : decode cX8_tokenEnd 24 = .ok (.iload_n 2, 1) := by decide +kernel
theorem dX8_tokenEnd_25 : decode cX8_tokenEnd 25 = .ok (.invokevirtual 19, 3) := by decide +kernel
theorem dX8_tokenEnd_28 : decode cX8_tokenEnd 28 = .ok (.invokestatic 23, 3) := by decide +kernel
theorem dX8_tokenEnd_31 : decode cX8_tokenEnd 31 = .ok (.ifCond .eq 45, 3) := by decide +kernel
theorem dX8_tokenEnd_34 : decode cX8_tokenEnd 34 = .ok (.iinc 2 1, 3) := by decide +kernel
theorem dX8_tokenEnd_37 : decode cX8_tokenEnd 37 = .ok (.goto (-22), 3) := by decide +kernel
theorem dX8_tokenEnd_40 : decode cX8_tokenEnd 40 = .ok (.aload_n 0, 1) := by decide +kernel
theorem dX8_tokenEnd_41 : decode cX8_tokenEnd 41 = .ok (.iload_n 1, 1) := by decide +kernel
theorem dX8_tokenEnd_42 : decode cX8_tokenEnd 42 = .ok (.invokevirtual 19, 3) := by decide +kernel
theorem dX8_tokenEnd_45 : decode cX8_tokenEnd 45 = .ok (.invokestatic 27, 3) := by decide +kernel
theorem dX8_tokenEnd_48 : decode cX8_tokenEnd 48 = .ok (.ifCond .eq 28, 3) := by decide +kernel
theorem dX8_tokenEnd_51 : decode cX8_tokenEnd 51 = .ok (.iload_n 2, 1) := by decide +kernel
theorem dX8_tokenEnd_52 : decode cX8_tokenEnd 52 = .ok (.aload_n 0, 1) := by decide +kernel
theorem dX8_tokenEnd_53 : decode cX8_tokenEnd 53 = .ok (.getfield 15, 3) := by decide +kernel
theorem dX8_tokenEnd_56 : decode cX8_tokenEnd 56 = .ok (.if_icmp .ge 20, 3) := by decide +kernel
theorem dX8_tokenEnd_59 : decode cX8_tokenEnd 59 = .ok (.aload_n 0, 1) := by decide +kernel
theorem dX8_tokenEnd_60 : decode cX8_tokenEnd 60 = .ok (.iload_n 2, 1) := by decide +kernel
theorem dX8_tokenEnd_61 : decode cX8_tokenEnd 61 = .ok (.invokevirtual 19, 3) := by decide +kernel
theorem dX8_tokenEnd_64 : decode cX8_tokenEnd 64 = .ok (.invokestatic 27, 3) := by decide +kernel
theorem dX8_tokenEnd_67 : decode cX8_tokenEnd 67 = .ok (.ifCond .eq 9, 3) := by decide +kernel
theorem dX8_tokenEnd_70 : decode cX8_tokenEnd 70 = .ok (.iinc 2 1, 3) := by decide +kernel
theorem dX8_tokenEnd_73 : decode cX8_tokenEnd 73 = .ok (.goto (-22), 3) := by decide +kernel
theorem dX8_tokenEnd_76 : decode cX8_tokenEnd 76 = .ok (.iload_n 2, 1) := by decide +kernel
theorem dX8_tokenEnd_77 : decode cX8_tokenEnd 77 = .ok (.ireturn, 1) := by decide +kernel
theorem dX8_numberAt_0 : decode cX8_numberAt 0 = .ok (.iconst 0, 1) := by decide +kernel
theorem dX8_numberAt_1 : decode cX8_numberAt 1 = .ok (.istore_n 3, 1) := by decide +kernel
theorem dX8_numberAt_2 : decode cX8_numberAt 2 = .ok (.iload_n 1, 1) := by decide +kernel
theorem dX8_numberAt_3 : decode cX8_numberAt 3 = .ok (.istore 4, 2) := by decide +kernel
theorem dX8_numberAt_5 : decode cX8_numberAt 5 = .ok (.iload 4, 2) := by decide +kernel
theorem dX8_numberAt_7 : decode cX8_numberAt 7 = .ok (.iload_n 2, 1) := by decide +kernel
theorem dX8_numberAt_8 : decode cX8_numberAt 8 = .ok (.if_icmp .ge 30, 3) := by decide +kernel
theorem dX8_numberAt_11 : decode cX8_numberAt 11 = .ok (.iload_n 3, 1) := by decide +kernel
theorem dX8_numberAt_12 : decode cX8_numberAt 12 = .ok (.bipush 10, 2) := by decide +kernel
theorem dX8_numberAt_14 : decode cX8_numberAt 14 = .ok (.imul, 1) := by decide +kernel
theorem dX8_numberAt_15 : decode cX8_numberAt 15 = .ok (.aload_n 0, 1) := by decide +kernel
theorem dX8_numberAt_16 : decode cX8_numberAt 16 = .ok (.iload 4, 2) := by decide +kernel
theorem dX8_numberAt_18 : decode cX8_numberAt 18 = .ok (.invokevirtual 19, 3) := by decide +kernel
theorem dX8_numberAt_21 : decode cX8_numberAt 21 = .ok (.iadd, 1) := by decide +kernel
theorem dX8_numberAt_22 : decode cX8_numberAt 22 = .ok (.bipush 48, 2) := by decide +kernel
theorem dX8_numberAt_24 : decode cX8_numberAt 24 = .ok (.isub, 1) := by decide +kernel
theorem dX8_numberAt_25 : decode cX8_numberAt 25 = .ok (.sipush 1001, 3) := by decide +kernel
theorem dX8_numberAt_28 : decode cX8_numberAt 28 = .ok (.invokestatic 30, 3) := by decide +kernel
theorem dX8_numberAt_31 : decode cX8_numberAt 31 = .ok (.istore_n 3, 1) := by decide +kernel
theorem dX8_numberAt_32 : decode cX8_numberAt 32 = .ok (.iinc 4 1, 3) := by decide +kernel
theorem dX8_numberAt_35 : decode cX8_numberAt 35 = .ok (.goto (-30), 3) := by decide +kernel
theorem dX8_numberAt_38 : decode cX8_numberAt 38 = .ok (.iload_n 3, 1) := by decide +kernel
theorem dX8_numberAt_39 : decode cX8_numberAt 39 = .ok (.ireturn, 1) := by decide +kernel
theorem dX8_wordAt_0 : decode cX8_wordAt 0 = .ok (.sipush 256, 3) := by decide +kernel
theorem dX8_wordAt_3 : decode cX8_wordAt 3 = .ok (.istore_n 3, 1) := by decide +kernel
theorem dX8_wordAt_4 : decode cX8_wordAt 4 = .ok (.iconst 0, 1) := by decide +kernel
theorem dX8_wordAt_5 : decode cX8_wordAt 5 = .ok (.istore 4, 2) := by decide +kernel
theorem dX8_wordAt_7 : decode cX8_wordAt 7 = .ok (.iconst 0, 1) := by decide +kernel
theorem dX8_wordAt_8 : decode cX8_wordAt 8 = .ok (.istore 5, 2) := by decide +kernel
theorem dX8_wordAt_10 : decode cX8_wordAt 10 = .ok (.iload 5, 2) := by decide +kernel
theorem dX8_wordAt_12 : decode cX8_wordAt 12 = .ok (.ldc 36, 2) := by decide +kernel
theorem dX8_wordAt_14 : decode cX8_wordAt 14 = .ok (.invokevirtual 38, 3) := by decide +kernel
theorem dX8_wordAt_17 : decode cX8_wordAt 17 = .ok (.if_icmp .ge 55, 3) := by decide +kernel
theorem dX8_wordAt_20 : decode cX8_wordAt 20 = .ok (.ldc 36, 2) := by decide +kernel
theorem dX8_wordAt_22 : decode cX8_wordAt 22 = .ok (.iload 5, 2) := by decide +kernel
theorem dX8_wordAt_24 : decode cX8_wordAt 24 = .ok (.invokevirtual 43, 3) := by decide +kernel
theorem dX8_wordAt_27 : decode cX8_wordAt 27 = .ok (.bipush 32, 2) := by decide +kernel
theorem dX8_wordAt_29 : decode cX8_wordAt 29 = .ok (.if_icmp .ne 37, 3) := by decide +kernel
theorem dX8_wordAt_32 : decode cX8_wordAt 32 = .ok (.iload 5, 2) := by decide +kernel
theorem dX8_wordAt_34 : decode cX8_wordAt 34 = .ok (.iload 4, 2) := by decide +kernel
theorem dX8_wordAt_36 : decode cX8_wordAt 36 = .ok (.isub, 1) := by decide +kernel
theorem dX8_wordAt_37 : decode cX8_wordAt 37 = .ok (.iload_n 2, 1) := by decide +kernel
theorem dX8_wordAt_38 : decode cX8_wordAt 38 = .ok (.iload_n 1, 1) := by decide +kernel
theorem dX8_wordAt_39 : decode cX8_wordAt 39 = .ok (.isub, 1) := by decide +kernel
theorem dX8_wordAt_40 : decode cX8_wordAt 40 = .ok (.if_icmp .ne 17, 3) := by decide +kernel
theorem dX8_wordAt_43 : decode cX8_wordAt 43 = .ok (.aload_n 0, 1) := by decide +kernel
theorem dX8_wordAt_44 : decode cX8_wordAt 44 = .ok (.iload_n 1, 1) := by decide +kernel
theorem dX8_wordAt_45 : decode cX8_wordAt 45 = .ok (.iload 4, 2) := by decide +kernel
theorem dX8_wordAt_47 : decode cX8_wordAt 47 = .ok (.iload 5, 2) := by decide +kernel
theorem dX8_wordAt_49 : decode cX8_wordAt 49 = .ok (.invokevirtual 47, 3) := by decide +kernel
theorem dX8_wordAt_52 : decode cX8_wordAt 52 = .ok (.ifCond .eq 5, 3) := by decide +kernel
theorem dX8_wordAt_55 : decode cX8_wordAt 55 = .ok (.iload_n 3, 1) := by decide +kernel
theorem dX8_wordAt_56 : decode cX8_wordAt 56 = .ok (.ireturn, 1) := by decide +kernel
theorem dX8_wordAt_57 : decode cX8_wordAt 57 = .ok (.iinc 3 1, 3) := by decide +kernel
theorem dX8_wordAt_60 : decode cX8_wordAt 60 = .ok (.iload 5, 2) := by decide +kernel
theorem dX8_wordAt_62 : decode cX8_wordAt 62 = .ok (.iconst 1, 1) := by decide +kernel
theorem dX8_wordAt_63 : decode cX8_wordAt 63 = .ok (.iadd, 1) := by decide +kernel
theorem dX8_wordAt_64 : decode cX8_wordAt 64 = .ok (.istore 4, 2) := by decide +kernel
theorem dX8_wordAt_66 : decode cX8_wordAt 66 = .ok (.iinc 5 1, 3) := by decide +kernel
theorem dX8_wordAt_69 : decode cX8_wordAt 69 = .ok (.goto (-59), 3) := by decide +kernel
theorem dX8_wordAt_72 : decode cX8_wordAt 72 = .ok (.sipush 283, 3) := by decide +kernel
theorem dX8_wordAt_75 : decode cX8_wordAt 75 = .ok (.ireturn, 1) := by decide +kernel
theorem dX8_sameSigns_0 : decode cX8_sameSigns 0 = .ok (.iload_n 2, 1) := by decide +kernel
theorem dX8_sameSigns_1 : decode cX8_sameSigns 1 = .ok (.istore 4, 2) := by decide +kernel
theorem dX8_sameSigns_3 : decode cX8_sameSigns 3 = .ok (.iload 4, 2) := by decide +kernel
theorem dX8_sameSigns_5 : decode cX8_sameSigns 5 = .ok (.iload_n 3, 1) := by decide +kernel
theorem dX8_sameSigns_6 : decode cX8_sameSigns 6 = .ok (.if_icmp .ge 31, 3) := by decide +kernel
theorem dX8_sameSigns_9 : decode cX8_sameSigns 9 = .ok (.aload_n 0, 1) := by decide +kernel
theorem dX8_sameSigns_10 : decode cX8_sameSigns 10 = .ok (.iload_n 1, 1) := by decide +kernel
theorem dX8_sameSigns_11 : decode cX8_sameSigns 11 = .ok (.iload 4, 2) := by decide +kernel
theorem dX8_sameSigns_13 : decode cX8_sameSigns 13 = .ok (.iadd, 1) := by decide +kernel
theorem dX8_sameSigns_14 : decode cX8_sameSigns 14 = .ok (.iload_n 2, 1) := by decide +kernel
theorem dX8_sameSigns_15 : decode cX8_sameSigns 15 = .ok (.isub, 1) := by decide +kernel
theorem dX8_sameSigns_16 : decode cX8_sameSigns 16 = .ok (.invokevirtual 19, 3) := by decide +kernel
theorem dX8_sameSigns_19 : decode cX8_sameSigns 19 = .ok (.ldc 36, 2) := by decide +kernel
theorem dX8_sameSigns_21 : decode cX8_sameSigns 21 = .ok (.iload 4, 2) := by decide +kernel
theorem dX8_sameSigns_23 : decode cX8_sameSigns 23 = .ok (.invokevirtual 43, 3) := by decide +kernel
theorem dX8_sameSigns_26 : decode cX8_sameSigns 26 = .ok (.if_icmp .eq 5, 3) := by decide +kernel
theorem dX8_sameSigns_29 : decode cX8_sameSigns 29 = .ok (.iconst 0, 1) := by decide +kernel
theorem dX8_sameSigns_30 : decode cX8_sameSigns 30 = .ok (.ireturn, 1) := by decide +kernel
theorem dX8_sameSigns_31 : decode cX8_sameSigns 31 = .ok (.iinc 4 1, 3) := by decide +kernel
theorem dX8_sameSigns_34 : decode cX8_sameSigns 34 = .ok (.goto (-31), 3) := by decide +kernel
theorem dX8_sameSigns_37 : decode cX8_sameSigns 37 = .ok (.iconst 1, 1) := by decide +kernel
theorem dX8_sameSigns_38 : decode cX8_sameSigns 38 = .ok (.ireturn, 1) := by decide +kernel
theorem dX2_ask_0 : decode cX2_ask 0 = .ok (.aload_n 0, 1) := by decide +kernel
theorem dX2_ask_1 : decode cX2_ask 1 = .ok (.iconst 1, 1) := by decide +kernel
theorem dX2_ask_2 : decode cX2_ask 2 = .ok (.putfield 22, 3) := by decide +kernel
theorem dX2_ask_5 : decode cX2_ask 5 = .ok (.aload_n 0, 1) := by decide +kernel
theorem dX2_ask_6 : decode cX2_ask 6 = .ok (.aload_n 1, 1) := by decide +kernel
theorem dX2_ask_7 : decode cX2_ask 7 = .ok (.getfield 26, 3) := by decide +kernel
theorem dX2_ask_10 : decode cX2_ask 10 = .ok (.iload_n 3, 1) := by decide +kernel
theorem dX2_ask_11 : decode cX2_ask 11 = .ok (.iaload, 1) := by decide +kernel
theorem dX2_ask_12 : decode cX2_ask 12 = .ok (.iload_n 2, 1) := by decide +kernel
theorem dX2_ask_13 : decode cX2_ask 13 = .ok (.if_icmp .ne 7, 3) := by decide +kernel
theorem dX2_ask_16 : decode cX2_ask 16 = .ok (.iconst 1, 1) := by decide +kernel
theorem dX2_ask_17 : decode cX2_ask 17 = .ok (.goto 4, 3) := by decide +kernel
theorem dX2_ask_20 : decode cX2_ask 20 = .ok (.iconst 0, 1) := by decide +kernel
theorem dX2_ask_21 : decode cX2_ask 21 = .ok (.putfield 31, 3) := by decide +kernel
theorem dX2_ask_24 : decode cX2_ask 24 = .ok (.aload_n 1, 1) := by decide +kernel
theorem dX2_ask_25 : decode cX2_ask 25 = .ok (.invokevirtual 35, 3) := by decide +kernel
theorem dX2_ask_28 : decode cX2_ask 28 = .ok (.astore 6, 2) := by decide +kernel
theorem dX2_ask_30 : decode cX2_ask 30 = .ok (.aload 6, 2) := by decide +kernel
theorem dX2_ask_32 : decode cX2_ask 32 = .ok (.ifnonnull 4, 3) := by decide +kernel
theorem dX2_ask_35 : decode cX2_ask 35 = .ok (.return_, 1) := by decide +kernel
theorem dX2_ask_36 : decode cX2_ask 36 = .ok (.aload_n 0, 1) := by decide +kernel
theorem dX2_ask_37 : decode cX2_ask 37 = .ok (.aload_n 1, 1) := by decide +kernel
theorem dX2_ask_38 : decode cX2_ask 38 = .ok (.iload_n 2, 1) := by decide +kernel
theorem dX2_ask_39 : decode cX2_ask 39 = .ok (.iload_n 3, 1) := by decide +kernel
theorem dX2_ask_40 : decode cX2_ask 40 = .ok (.iload 4, 2) := by decide +kernel
theorem dX2_ask_42 : decode cX2_ask 42 = .ok (.invokevirtual 39, 3) := by decide +kernel
theorem dX2_ask_45 : decode cX2_ask 45 = .ok (.iconst 0, 1) := by decide +kernel
theorem dX2_ask_46 : decode cX2_ask 46 = .ok (.istore 7, 2) := by decide +kernel
theorem dX2_ask_48 : decode cX2_ask 48 = .ok (.iconst 0, 1) := by decide +kernel
theorem dX2_ask_49 : decode cX2_ask 49 = .ok (.istore 8, 2) := by decide +kernel
theorem dX2_ask_51 : decode cX2_ask 51 = .ok (.iload 8, 2) := by decide +kernel
theorem dX2_ask_53 : decode cX2_ask 53 = .ok (.aload 6, 2) := by decide +kernel
theorem dX2_ask_55 : decode cX2_ask 55 = .ok (.getfield 43, 3) := by decide +kernel
theorem dX2_ask_58 : decode cX2_ask 58 = .ok (.if_icmp .ge 187, 3) := by decide +kernel
theorem dX2_ask_61 : decode cX2_ask 61 = .ok (.aload 6, 2) := by decide +kernel
theorem dX2_ask_63 : decode cX2_ask 63 = .ok (.getfield 48, 3) := by decide +kernel
theorem dX2_ask_66 : decode cX2_ask 66 = .ok (.iload 8, 2) := by decide +kernel
theorem dX2_ask_68 : decode cX2_ask 68 = .ok (.iaload, 1) := by decide +kernel
theorem dX2_ask_69 : decode cX2_ask 69 = .ok (.iconst 4, 1) := by decide +kernel
theorem dX2_ask_70 : decode cX2_ask 70 = .ok (.if_icmp .ne 11, 3) := by decide +kernel
theorem dX2_ask_73 : decode cX2_ask 73 = .ok (.iload 5, 2) := by decide +kernel
theorem dX2_ask_75 : decode cX2_ask 75 = .ok (.ifCond .ne 6, 3) := by decide +kernel
theorem dX2_ask_78 : decode cX2_ask 78 = .ok (.goto 161, 3) := by decide +kernel
theorem dX2_ask_81 : decode cX2_ask 81 = .ok (.aload 6, 2) := by decide +kernel
theorem dX2_ask_83 : decode cX2_ask 83 = .ok (.getfield 51, 3) := by decide +kernel
theorem dX2_ask_86 : decode cX2_ask 86 = .ok (.iload 8, 2) := by decide +kernel
theorem dX2_ask_88 : decode cX2_ask 88 = .ok (.iaload, 1) := by decide +kernel
theorem dX2_ask_89 : decode cX2_ask 89 = .ok (.iconst (-1), 1) := by decide +kernel
theorem dX2_ask_90 : decode cX2_ask 90 = .ok (.if_icmp .ne 7, 3) := by decide +kernel
theorem dX2_ask_93 : decode cX2_ask 93 = .ok (.lconst 1, 1) := by decide +kernel
theorem dX2_ask_94 : decode cX2_ask 94 = .ok (.goto 27, 3) := by decide +kernel
theorem dX2_ask_97 : decode cX2_ask 97 = .ok (.aload_n 0, 1) := by decide +kernel
theorem dX2_ask_98 : decode cX2_ask 98 = .ok (.getfield 12, 3) := by decide +kernel
theorem dX2_ask_101 : decode cX2_ask 101 = .ok (.aload 6, 2) := by decide +kernel
theorem dX2_ask_103 : decode cX2_ask 103 = .ok (.getfield 54, 3) := by decide +kernel
theorem dX2_ask_106 : decode cX2_ask 106 = .ok (.aload 6, 2) := by decide +kernel
theorem dX2_ask_108 : decode cX2_ask 108 = .ok (.getfield 51, 3) := by decide +kernel
theorem dX2_ask_111 : decode cX2_ask 111 = .ok (.iload 8, 2) := by decide +kernel
theorem dX2_ask_113 : decode cX2_ask 113 = .ok (.iaload, 1) := by decide +kernel
theorem dX2_ask_114 : decode cX2_ask 114 = .ok (.aload_n 0, 1) := by decide +kernel
theorem dX2_ask_115 : decode cX2_ask 115 = .ok (.getfield 18, 3) := by decide +kernel
theorem dX2_ask_118 : decode cX2_ask 118 = .ok (.invokevirtual 57, 3) := by decide +kernel
theorem dX2_ask_121 : decode cX2_ask 121 = .ok (.lstore 9, 2) := by decide +kernel
theorem dX2_ask_123 : decode cX2_ask 123 = .ok (.lload 9, 2) := by decide +kernel
theorem dX2_ask_125 : decode cX2_ask 125 = .ok (.ldc2_w 61, 3) := by decide +kernel
theorem dX2_ask_128 : decode cX2_ask 128 = .ok (.lcmp, 1) := by decide +kernel
theorem dX2_ask_129 : decode cX2_ask 129 = .ok (.ifCond .eq 110, 3) := by decide +kernel
theorem dX2_ask_132 : decode cX2_ask 132 = .ok (.lload 9, 2) := by decide +kernel
theorem dX2_ask_134 : decode cX2_ask 134 = .ok (.lconst 0, 1) := by decide +kernel
theorem dX2_ask_135 : decode cX2_ask 135 = .ok (.lcmp, 1) := by decide +kernel
theorem dX2_ask_136 : decode cX2_ask 136 = .ok (.ifCond .ne 6, 3) := by decide +kernel
theorem dX2_ask_139 : decode cX2_ask 139 = .ok (.goto 100, 3) := by decide +kernel
theorem dX2_ask_142 : decode cX2_ask 142 = .ok (.aload 6, 2) := by decide +kernel
theorem dX2_ask_144 : decode cX2_ask 144 = .ok (.getfield 48, 3) := by decide +kernel
theorem dX2_ask_147 : decode cX2_ask 147 = .ok (.iload 8, 2) := by decide +kernel
theorem dX2_ask_149 : decode cX2_ask 149 = .ok (.iaload, 1) := by decide +kernel
theorem dX2_ask_150 : decode cX2_ask 150 = .ok (.iconst 4, 1) := by decide +kernel
theorem dX2_ask_151 : decode cX2_ask 151 = .ok (.if_icmp .ne 65, 3) := by decide +kernel
theorem dX2_ask_154 : decode cX2_ask 154 = .ok (.aload_n 0, 1) := by decide +kernel
theorem dX2_ask_155 : decode cX2_ask 155 = .ok (.getfield 12, 3) := by decide +kernel
theorem dX2_ask_158 : decode cX2_ask 158 = .ok (.aload 6, 2) := by decide +kernel
theorem dX2_ask_160 : decode cX2_ask 160 = .ok (.getfield 54, 3) := by decide +kernel
theorem dX2_ask_163 : decode cX2_ask 163 = .ok (.aload 6, 2) := by decide +kernel
theorem dX2_ask_165 : decode cX2_ask 165 = .ok (.getfield 63, 3) := by decide +kernel
theorem dX2_ask_168 : decode cX2_ask 168 = .ok (.iload 8, 2) := by decide +kernel
theorem dX2_ask_170 : decode cX2_ask 170 = .ok (.iaload, 1) := by decide +kernel
theorem dX2_ask_171 : decode cX2_ask 171 = .ok (.aload_n 0, 1) := by decide +kernel
theorem dX2_ask_172 : decode cX2_ask 172 = .ok (.getfield 18, 3) := by decide +kernel
theorem dX2_ask_175 : decode cX2_ask 175 = .ok (.invokevirtual 57, 3) := by decide +kernel
theorem dX2_ask_178 : decode cX2_ask 178 = .ok (.lstore 11, 2) := by decide +kernel
theorem dX2_ask_180 : decode cX2_ask 180 = .ok (.aload_n 0, 1) := by decide +kernel
theorem dX2_ask_181 : decode cX2_ask 181 = .ok (.lload 11, 2) := by decide +kernel
theorem dX2_ask_183 : decode cX2_ask 183 = .ok (.ldc2_w 61, 3) := by decide +kernel
theorem dX2_ask_186 : decode cX2_ask 186 = .ok (.lcmp, 1) := by decide +kernel
theorem dX2_ask_187 : decode cX2_ask 187 = .ok (.ifCond .ne 10, 3) := by decide +kernel
theorem dX2_ask_190 : decode cX2_ask 190 = .ok (.aload_n 0, 1) := by decide +kernel
theorem dX2_ask_191 : decode cX2_ask 191 = .ok (.getfield 22, 3) := by decide +kernel
theorem dX2_ask_194 : decode cX2_ask 194 = .ok (.goto 16, 3) := by decide +kernel
theorem dX2_ask_197 : decode cX2_ask 197 = .ok (.lconst 0, 1) := by decide +kernel
theorem dX2_ask_198 : decode cX2_ask 198 = .ok (.ldc2_w 66, 3) := by decide +kernel
theorem dX2_ask_201 : decode cX2_ask 201 = .ok (.lload 11, 2) := by decide +kernel
theorem dX2_ask_203 : decode cX2_ask 203 = .ok (.invokestatic 68, 3) := by decide +kernel
theorem dX2_ask_206 : decode cX2_ask 206 = .ok (.invokestatic 74, 3) := by decide +kernel
theorem dX2_ask_209 : decode cX2_ask 209 = .ok (.l2i, 1) := by decide +kernel
theorem dX2_ask_210 : decode cX2_ask 210 = .ok (.putfield 22, 3) := by decide +kernel
theorem dX2_ask_213 : decode cX2_ask 213 = .ok (.goto 26, 3) := by decide +kernel
theorem dX2_ask_216 : decode cX2_ask 216 = .ok (.aload 6, 2) := by decide +kernel
theorem dX2_ask_218 : decode cX2_ask 218 = .ok (.getfield 48, 3) := by decide +kernel
theorem dX2_ask_221 : decode cX2_ask 221 = .ok (.iload 8, 2) := by decide +kernel
theorem dX2_ask_223 : decode cX2_ask 223 = .ok (.iaload, 1) := by decide +kernel
theorem dX2_ask_224 : decode cX2_ask 224 = .ok (.iconst 5, 1) := by decide +kernel
theorem dX2_ask_225 : decode cX2_ask 225 = .ok (.if_icmp .ne 11, 3) := by decide +kernel
theorem dX2_ask_228 : decode cX2_ask 228 = .ok (.aload_n 0, 1) := by decide +kernel
theorem dX2_ask_229 : decode cX2_ask 229 = .ok (.iconst 1, 1) := by decide +kernel
theorem dX2_ask_230 : decode cX2_ask 230 = .ok (.putfield 31, 3) := by decide +kernel
theorem dX2_ask_233 : decode cX2_ask 233 = .ok (.goto 6, 3) := by decide +kernel
theorem dX2_ask_236 : decode cX2_ask 236 = .ok (.iconst 1, 1) := by decide +kernel
theorem dX2_ask_237 : decode cX2_ask 237 = .ok (.istore 7, 2) := by decide +kernel
theorem dX2_ask_239 : decode cX2_ask 239 = .ok (.iinc 8 1, 3) := by decide +kernel
theorem dX2_ask_242 : decode cX2_ask 242 = .ok (.goto (-191), 3) := by decide +kernel
theorem dX2_ask_245 : decode cX2_ask 245 = .ok (.aload_n 0, 1) := by decide +kernel
theorem dX2_ask_246 : decode cX2_ask 246 = .ok (.aload_n 0, 1) := by decide +kernel
theorem dX2_ask_247 : decode cX2_ask 247 = .ok (.getfield 31, 3) := by decide +kernel
theorem dX2_ask_250 : decode cX2_ask 250 = .ok (.ifCond .eq 12, 3) := by decide +kernel
theorem dX2_ask_253 : decode cX2_ask 253 = .ok (.iload 7, 2) := by decide +kernel
theorem dX2_ask_255 : decode cX2_ask 255 = .ok (.ifCond .ne 7, 3) := by decide +kernel
theorem dX2_ask_258 : decode cX2_ask 258 = .ok (.iconst 1, 1) := by decide +kernel
theorem dX2_ask_259 : decode cX2_ask 259 = .ok (.goto 4, 3) := by decide +kernel
theorem dX2_ask_262 : decode cX2_ask 262 = .ok (.iconst 0, 1) := by decide +kernel
theorem dX2_ask_263 : decode cX2_ask 263 = .ok (.putfield 31, 3) := by decide +kernel
theorem dX2_ask_266 : decode cX2_ask 266 = .ok (.return_, 1) := by decide +kernel
theorem dX2_tellWords_0 : decode cX2_tellWords 0 = .ok (.aload_n 0, 1) := by decide +kernel
theorem dX2_tellWords_1 : decode cX2_tellWords 1 = .ok (.getfield 18, 3) := by decide +kernel
theorem dX2_tellWords_4 : decode cX2_tellWords 4 = .ok (.iconst 0, 1) := by decide +kernel
theorem dX2_tellWords_5 : decode cX2_tellWords 5 = .ok (.iload_n 2, 1) := by decide +kernel
theorem dX2_tellWords_6 : decode cX2_tellWords 6 = .ok (.iastore, 1) := by decide +kernel
theorem dX2_tellWords_7 : decode cX2_tellWords 7 = .ok (.aload_n 0, 1) := by decide +kernel
theorem dX2_tellWords_8 : decode cX2_tellWords 8 = .ok (.getfield 18, 3) := by decide +kernel
theorem dX2_tellWords_11 : decode cX2_tellWords 11 = .ok (.iconst 1, 1) := by decide +kernel
theorem dX2_tellWords_12 : decode cX2_tellWords 12 = .ok (.iload_n 3, 1) := by decide +kernel
theorem dX2_tellWords_13 : decode cX2_tellWords 13 = .ok (.iastore, 1) := by decide +kernel
theorem dX2_tellWords_14 : decode cX2_tellWords 14 = .ok (.aload_n 0, 1) := by decide +kernel
theorem dX2_tellWords_15 : decode cX2_tellWords 15 = .ok (.getfield 18, 3) := by decide +kernel
theorem dX2_tellWords_18 : decode cX2_tellWords 18 = .ok (.iconst 2, 1) := by decide +kernel
theorem dX2_tellWords_19 : decode cX2_tellWords 19 = .ok (.aload_n 1, 1) := by decide +kernel
theorem dX2_tellWords_20 : decode cX2_tellWords 20 = .ok (.getfield 26, 3) := by decide +kernel
theorem dX2_tellWords_23 : decode cX2_tellWords 23 = .ok (.iload_n 3, 1) := by decide +kernel
theorem dX2_tellWords_24 : decode cX2_tellWords 24 = .ok (.iaload, 1) := by decide +kernel
theorem dX2_tellWords_25 : decode cX2_tellWords 25 = .ok (.iastore, 1) := by decide +kernel
theorem dX2_tellWords_26 : decode cX2_tellWords 26 = .ok (.aload_n 0, 1) := by decide +kernel
theorem dX2_tellWords_27 : decode cX2_tellWords 27 = .ok (.getfield 18, 3) := by decide +kernel
theorem dX2_tellWords_30 : decode cX2_tellWords 30 = .ok (.iconst 3, 1) := by decide +kernel
theorem dX2_tellWords_31 : decode cX2_tellWords 31 = .ok (.iload 4, 2) := by decide +kernel
theorem dX2_tellWords_33 : decode cX2_tellWords 33 = .ok (.iastore, 1) := by decide +kernel
theorem dX2_tellWords_34 : decode cX2_tellWords 34 = .ok (.aload_n 0, 1) := by decide +kernel
theorem dX2_tellWords_35 : decode cX2_tellWords 35 = .ok (.getfield 18, 3) := by decide +kernel
theorem dX2_tellWords_38 : decode cX2_tellWords 38 = .ok (.iconst 4, 1) := by decide +kernel
theorem dX2_tellWords_39 : decode cX2_tellWords 39 = .ok (.aload_n 1, 1) := by decide +kernel
theorem dX2_tellWords_40 : decode cX2_tellWords 40 = .ok (.getfield 77, 3) := by decide +kernel
theorem dX2_tellWords_43 : decode cX2_tellWords 43 = .ok (.iload_n 2, 1) := by decide +kernel
theorem dX2_tellWords_44 : decode cX2_tellWords 44 = .ok (.iaload, 1) := by decide +kernel
theorem dX2_tellWords_45 : decode cX2_tellWords 45 = .ok (.iastore, 1) := by decide +kernel
theorem dX2_tellWords_46 : decode cX2_tellWords 46 = .ok (.aload_n 0, 1) := by decide +kernel
theorem dX2_tellWords_47 : decode cX2_tellWords 47 = .ok (.getfield 18, 3) := by decide +kernel
theorem dX2_tellWords_50 : decode cX2_tellWords 50 = .ok (.iconst 5, 1) := by decide +kernel
theorem dX2_tellWords_51 : decode cX2_tellWords 51 = .ok (.aload_n 1, 1) := by decide +kernel
theorem dX2_tellWords_52 : decode cX2_tellWords 52 = .ok (.getfield 80, 3) := by decide +kernel
theorem dX2_tellWords_55 : decode cX2_tellWords 55 = .ok (.iload_n 2, 1) := by decide +kernel
theorem dX2_tellWords_56 : decode cX2_tellWords 56 = .ok (.iaload, 1) := by decide +kernel
theorem dX2_tellWords_57 : decode cX2_tellWords 57 = .ok (.iastore, 1) := by decide +kernel
theorem dX2_tellWords_58 : decode cX2_tellWords 58 = .ok (.aload_n 0, 1) := by decide +kernel
theorem dX2_tellWords_59 : decode cX2_tellWords 59 = .ok (.getfield 18, 3) := by decide +kernel
theorem dX2_tellWords_62 : decode cX2_tellWords 62 = .ok (.bipush 6, 2) := by decide +kernel
theorem dX2_tellWords_64 : decode cX2_tellWords 64 = .ok (.aload_n 1, 1) := by decide +kernel
theorem dX2_tellWords_65 : decode cX2_tellWords 65 = .ok (.getfield 83, 3) := by decide +kernel
theorem dX2_tellWords_68 : decode cX2_tellWords 68 = .ok (.iconst 0, 1) := by decide +kernel
theorem dX2_tellWords_69 : decode cX2_tellWords 69 = .ok (.iaload, 1) := by decide +kernel
theorem dX2_tellWords_70 : decode cX2_tellWords 70 = .ok (.iastore, 1) := by decide +kernel
theorem dX2_tellWords_71 : decode cX2_tellWords 71 = .ok (.aload_n 0, 1) := by decide +kernel
theorem dX2_tellWords_72 : decode cX2_tellWords 72 = .ok (.getfield 18, 3) := by decide +kernel
theorem dX2_tellWords_75 : decode cX2_tellWords 75 = .ok (.bipush 7, 2) := by decide +kernel
theorem dX2_tellWords_77 : decode cX2_tellWords 77 = .ok (.aload_n 1, 1) := by decide +kernel
theorem dX2_tellWords_78 : decode cX2_tellWords 78 = .ok (.getfield 83, 3) := by decide +kernel
theorem dX2_tellWords_81 : decode cX2_tellWords 81 = .ok (.iconst 2, 1) := by decide +kernel
theorem dX2_tellWords_82 : decode cX2_tellWords 82 = .ok (.iaload, 1) := by decide +kernel
theorem dX2_tellWords_83 : decode cX2_tellWords 83 = .ok (.iastore, 1) := by decide +kernel
theorem dX2_tellWords_84 : decode cX2_tellWords 84 = .ok (.return_, 1) := by decide +kernel
