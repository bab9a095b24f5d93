theorem dX11_init_0 : decode cX11_init 0 = .ok (.aload_n 0, 1) := by decide +kernel
theorem dX11_init_1 : decode cX11_init 1 = .ok (.invokespecial 1, 3) := by decide +kernel
theorem dX11_init_4 : decode cX11_init 4 = .ok (.aload_n 0, 1) := by decide +kernel
theorem dX11_init_5 : decode cX11_init 5 = .ok (.bipush 120, 2) := by decide +kernel
theorem dX11_init_7 : decode cX11_init 7 = .ok (.newarray .byte, 2) := by decide +kernel
theorem dX11_init_9 : decode cX11_init 9 = .ok (.putfield 9, 3) := by decide +kernel
theorem dX11_init_12 : decode cX11_init 12 = .ok (.aload_n 0, 1) := by decide +kernel
theorem dX11_init_13 : decode cX11_init 13 = .ok (.iconst 5, 1) := by decide +kernel
theorem dX11_init_14 : decode cX11_init 14 = .ok (.newarray .int, 2) := by decide +kernel
theorem dX11_init_16 : decode cX11_init 16 = .ok (.putfield 13, 3) := by decide +kernel
theorem dX11_init_19 : decode cX11_init 19 = .ok (.aload_n 0, 1) := by decide +kernel
theorem dX11_init_20 : decode cX11_init 20 = .ok (.iconst 5, 1) := by decide +kernel
theorem dX11_init_21 : decode cX11_init 21 = .ok (.newarray .int, 2) := by decide +kernel
theorem dX11_init_23 : decode cX11_init 23 = .ok (.putfield 17, 3) := by decide +kernel
theorem dX11_init_26 : decode cX11_init 26 = .ok (.aload_n 0, 1) := by decide +kernel
theorem dX11_init_27 : decode cX11_init 27 = .ok (.iconst 5, 1) := by decide +kernel
theorem dX11_init_28 : decode cX11_init 28 = .ok (.newarray .int, 2) := by decide +kernel
theorem dX11_init_30 : decode cX11_init 30 = .ok (.putfield 20, 3) := by decide +kernel
theorem dX11_init_33 : decode cX11_init 33 = .ok (.aload_n 0, 1) := by decide +kernel
theorem dX11_init_34 : decode cX11_init 34 = .ok (.bipush 6, 2) := by decide +kernel
theorem dX11_init_36 : decode cX11_init 36 = .ok (.newarray .int, 2) := by decide +kernel
theorem dX11_init_38 : decode cX11_init 38 = .ok (.putfield 23, 3) := by decide +kernel
theorem dX11_init_41 : decode cX11_init 41 = .ok (.aload_n 0, 1) := by decide +kernel
theorem dX11_init_42 : decode cX11_init 42 = .ok (.bipush 6, 2) := by decide +kernel
theorem dX11_init_44 : decode cX11_init 44 = .ok (.newarray .int, 2) := by decide +kernel
theorem dX11_init_46 : decode cX11_init 46 = .ok (.putfield 26, 3) := by decide +kernel
theorem dX11_init_49 : decode cX11_init 49 = .ok (.aload_n 0, 1) := by decide +kernel
theorem dX11_init_50 : decode cX11_init 50 = .ok (.bipush 30, 2) := by decide +kernel
theorem dX11_init_52 : decode cX11_init 52 = .ok (.newarray .int, 2) := by decide +kernel
theorem dX11_init_54 : decode cX11_init 54 = .ok (.putfield 29, 3) := by decide +kernel
theorem dX11_init_57 : decode cX11_init 57 = .ok (.aload_n 0, 1) := by decide +kernel
theorem dX11_init_58 : decode cX11_init 58 = .ok (.bipush 30, 2) := by decide +kernel
theorem dX11_init_60 : decode cX11_init 60 = .ok (.newarray .int, 2) := by decide +kernel
theorem dX11_init_62 : decode cX11_init 62 = .ok (.putfield 32, 3) := by decide +kernel
theorem dX11_init_65 : decode cX11_init 65 = .ok (.aload_n 0, 1) := by decide +kernel
theorem dX11_init_66 : decode cX11_init 66 = .ok (.bipush 30, 2) := by decide +kernel
theorem dX11_init_68 : decode cX11_init 68 = .ok (.newarray .int, 2) := by decide +kernel
theorem dX11_init_70 : decode cX11_init 70 = .ok (.putfield 35, 3) := by decide +kernel
theorem dX11_init_73 : decode cX11_init 73 = .ok (.aload_n 0, 1) := by decide +kernel
theorem dX11_init_74 : decode cX11_init 74 = .ok (.sipush 1200, 3) := by decide +kernel
theorem dX11_init_77 : decode cX11_init 77 = .ok (.newarray .int, 2) := by decide +kernel
theorem dX11_init_79 : decode cX11_init 79 = .ok (.putfield 38, 3) := by decide +kernel
theorem dX11_init_82 : decode cX11_init 82 = .ok (.aload_n 0, 1) := by decide +kernel
theorem dX11_init_83 : decode cX11_init 83 = .ok (.bipush 6, 2) := by decide +kernel
theorem dX11_init_85 : decode cX11_init 85 = .ok (.newarray .int, 2) := by decide +kernel
theorem dX11_init_87 : decode cX11_init 87 = .ok (.putfield 41, 3) := by decide +kernel
theorem dX11_init_90 : decode cX11_init 90 = .ok (.aload_n 0, 1) := by decide +kernel
theorem dX11_init_91 : decode cX11_init 91 = .ok (.bipush 24, 2) := by decide +kernel
theorem dX11_init_93 : decode cX11_init 93 = .ok (.newarray .int, 2) := by decide +kernel
theorem dX11_init_95 : decode cX11_init 95 = .ok (.putfield 44, 3) := by decide +kernel
theorem dX11_init_98 : decode cX11_init 98 = .ok (.aload_n 0, 1) := by decide +kernel
theorem dX11_init_99 : decode cX11_init 99 = .ok (.bipush 6, 2) := by decide +kernel
theorem dX11_init_101 : decode cX11_init 101 = .ok (.newarray .int, 2) := by decide +kernel
theorem dX11_init_103 : decode cX11_init 103 = .ok (.putfield 47, 3) := by decide +kernel
theorem dX11_init_106 : decode cX11_init 106 = .ok (.aload_n 0, 1) := by decide +kernel
theorem dX11_init_107 : decode cX11_init 107 = .ok (.bipush 18, 2) := by decide +kernel
theorem dX11_init_109 : decode cX11_init 109 = .ok (.newarray .int, 2) := by decide +kernel
theorem dX11_init_111 : decode cX11_init 111 = .ok (.putfield 50, 3) := by decide +kernel
theorem dX11_init_114 : decode cX11_init 114 = .ok (.aload_n 0, 1) := by decide +kernel
theorem dX11_init_115 : decode cX11_init 115 = .ok (.bipush 18, 2) := by decide +kernel
theorem dX11_init_117 : decode cX11_init 117 = .ok (.newarray .int, 2) := by decide +kernel
theorem dX11_init_119 : decode cX11_init 119 = .ok (.putfield 53, 3) := by decide +kernel
theorem dX11_init_122 : decode cX11_init 122 = .ok (.aload_n 0, 1) := by decide +kernel
theorem dX11_init_123 : decode cX11_init 123 = .ok (.bipush 6, 2) := by decide +kernel
theorem dX11_init_125 : decode cX11_init 125 = .ok (.newarray .int, 2) := by decide +kernel
theorem dX11_init_127 : decode cX11_init 127 = .ok (.putfield 56, 3) := by decide +kernel
theorem dX11_init_130 : decode cX11_init 130 = .ok (.aload_n 0, 1) := by decide +kernel
theorem dX11_init_131 : decode cX11_init 131 = .ok (.bipush 6, 2) := by decide +kernel
theorem dX11_init_133 : decode cX11_init 133 = .ok (.newarray .int, 2) := by decide +kernel
theorem dX11_init_135 : decode cX11_init 135 = .ok (.putfield 59, 3) := by decide +kernel
theorem dX11_init_138 : decode cX11_init 138 = .ok (.aload_n 0, 1) := by decide +kernel
theorem dX11_init_139 : decode cX11_init 139 = .ok (.bipush 6, 2) := by decide +kernel
theorem dX11_init_141 : decode cX11_init 141 = .ok (.newarray .int, 2) := by decide +kernel
theorem dX11_init_143 : decode cX11_init 143 = .ok (.putfield 62, 3) := by decide +kernel
theorem dX11_init_146 : decode cX11_init 146 = .ok (.aload_n 0, 1) := by decide +kernel
theorem dX11_init_147 : decode cX11_init 147 = .ok (.iconst (-1), 1) := by decide +kernel
theorem dX11_init_148 : decode cX11_init 148 = .ok (.putfield 65, 3) := by decide +kernel
theorem dX11_init_151 : decode cX11_init 151 = .ok (.aload_n 0, 1) := by decide +kernel
theorem dX11_init_152 : decode cX11_init 152 = .ok (.iconst 4, 1) := by decide +kernel
theorem dX11_init_153 : decode cX11_init 153 = .ok (.newarray .int, 2) := by decide +kernel
theorem dX11_init_155 : decode cX11_init 155 = .ok (.putfield 69, 3) := by decide +kernel
theorem dX11_init_158 : decode cX11_init 158 = .ok (.aload_n 0, 1) := by decide +kernel
theorem dX11_init_159 : decode cX11_init 159 = .ok (.bipush 40, 2) := by decide +kernel
theorem dX11_init_161 : decode cX11_init 161 = .ok (.newarray .int, 2) := by decide +kernel
theorem dX11_init_163 : decode cX11_init 163 = .ok (.putfield 72, 3) := by decide +kernel
theorem dX11_init_166 : decode cX11_init 166 = .ok (.aload_n 0, 1) := by decide +kernel
theorem dX11_init_167 : decode cX11_init 167 = .ok (.bipush 40, 2) := by decide +kernel
theorem dX11_init_169 : decode cX11_init 169 = .ok (.newarray .int, 2) := by decide +kernel
theorem dX11_init_171 : decode cX11_init 171 = .ok (.putfield 75, 3) := by decide +kernel
theorem dX11_init_174 : decode cX11_init 174 = .ok (.aload_n 0, 1) := by decide +kernel
theorem dX11_init_175 : decode cX11_init 175 = .ok (.bipush 40, 2) := by decide +kernel
theorem dX11_init_177 : decode cX11_init 177 = .ok (.newarray .int, 2) := by decide +kernel
theorem dX11_init_179 : decode cX11_init 179 = .ok (.putfield 78, 3) := by decide +kernel
theorem dX11_init_182 : decode cX11_init 182 = .ok (.aload_n 0, 1) := by decide +kernel
theorem dX11_init_183 : decode cX11_init 183 = .ok (.bipush 40, 2) := by decide +kernel
theorem dX11_init_185 : decode cX11_init 185 = .ok (.newarray .int, 2) := by decide +kernel
theorem dX11_init_187 : decode cX11_init 187 = .ok (.putfield 81, 3) := by decide +kernel
theorem dX11_init_190 : decode cX11_init 190 = .ok (.aload_n 0, 1) := by decide +kernel
theorem dX11_init_191 : decode cX11_init 191 = .ok (.bipush 40, 2) := by decide +kernel
theorem dX11_init_193 : decode cX11_init 193 = .ok (.newarray .int, 2) := by decide +kernel
theorem dX11_init_195 : decode cX11_init 195 = .ok (.putfield 84, 3) := by decide +kernel
theorem dX11_init_198 : decode cX11_init 198 = .ok (.aload_n 0, 1) := by decide +kernel
theorem dX11_init_199 : decode cX11_init 199 = .ok (.bipush 60, 2) := by decide +kernel
theorem dX11_init_201 : decode cX11_init 201 = .ok (.newarray .int, 2) := by decide +kernel
theorem dX11_init_203 : decode cX11_init 203 = .ok (.putfield 87, 3) := by decide +kernel
theorem dX11_init_206 : decode cX11_init 206 = .ok (.aload_n 0, 1) := by decide +kernel
theorem dX11_init_207 : decode cX11_init 207 = .ok (.bipush 60, 2) := by decide +kernel
theorem dX11_init_209 : decode cX11_init 209 = .ok (.newarray .int, 2) := by decide +kernel
theorem dX11_init_211 : decode cX11_init 211 = .ok (.putfield 90, 3) := by decide +kernel
theorem dX11_init_214 : decode cX11_init 214 = .ok (.aload_n 0, 1) := by decide +kernel
theorem dX11_init_215 : decode cX11_init 215 = .ok (.sipush 240, 3) := by decide +kernel
theorem dX11_init_218 : decode cX11_init 218 = .ok (.newarray .int, 2) := by decide +kernel
theorem dX11_init_220 : decode cX11_init 220 = .ok (.putfield 93, 3) := by decide +kernel
theorem dX11_init_223 : decode cX11_init 223 = .ok (.aload_n 0, 1) := by decide +kernel
theorem dX11_init_224 : decode cX11_init 224 = .ok (.bipush 60, 2) := by decide +kernel
theorem dX11_init_226 : decode cX11_init 226 = .ok (.newarray .int, 2) := by decide +kernel
theorem dX11_init_228 : decode cX11_init 228 = .ok (.putfield 96, 3) := by decide +kernel
theorem dX11_init_231 : decode cX11_init 231 = .ok (.aload_n 0, 1) := by decide +kernel
theorem dX11_init_232 : decode cX11_init 232 = .ok (.bipush 60, 2) := by decide +kernel
theorem dX11_init_234 : decode cX11_init 234 = .ok (.newarray .int, 2) := by decide +kernel
theorem dX11_init_236 : decode cX11_init 236 = .ok (.putfield 99, 3) := by decide +kernel
theorem dX11_init_239 : decode cX11_init 239 = .ok (.aload_n 0, 1) := by decide +kernel
theorem dX11_init_240 : decode cX11_init 240 = .ok (.iconst 4, 1) := by decide +kernel
theorem dX11_init_241 : decode cX11_init 241 = .ok (.newarray .int, 2) := by decide +kernel
theorem dX11_init_243 : decode cX11_init 243 = .ok (.putfield 102, 3) := by decide +kernel
theorem dX11_init_246 : decode cX11_init 246 = .ok (.aload_n 0, 1) := by decide +kernel
theorem dX11_init_247 : decode cX11_init 247 = .ok (.iconst 4, 1) := by decide +kernel
theorem dX11_init_248 : decode cX11_init 248 = .ok (.newarray .int, 2) := by decide +kernel
theorem dX11_init_250 : decode cX11_init 250 = .ok (.putfield 105, 3) := by decide +kernel
theorem dX11_init_253 : decode cX11_init 253 = .ok (.aload_n 0, 1) := by decide +kernel
theorem dX11_init_254 : decode cX11_init 254 = .ok (.iconst 3, 1) := by decide +kernel
theorem dX11_init_255 : decode cX11_init 255 = .ok (.newarray .long, 2) := by decide +kernel
theorem dX11_init_257 : decode cX11_init 257 = .ok (.putfield 108, 3) := by decide +kernel
theorem dX11_init_260 : decode cX11_init 260 = .ok (.aload_n 0, 1) := by decide +kernel
theorem dX11_init_261 : decode cX11_init 261 = .ok (.iconst 3, 1) := by decide +kernel
theorem dX11_init_262 : decode cX11_init 262 = .ok (.newarray .long, 2) := by decide +kernel
theorem dX11_init_264 : decode cX11_init 264 = .ok (.putfield 112, 3) := by decide +kernel
theorem dX11_init_267 : decode cX11_init 267 = .ok (.aload_n 0, 1) := by decide +kernel
theorem dX11_init_268 : decode cX11_init 268 = .ok (.iconst 3, 1) := by decide +kernel
theorem dX11_init_269 : decode cX11_init 269 = .ok (.newarray .long, 2) := by decide +kernel
theorem dX11_init_271 : decode cX11_init 271 = .ok (.putfield 115, 3) := by decide +kernel
theorem dX11_init_274 : decode cX11_init 274 = .ok (.aload_n 0, 1) := by decide +kernel
theorem dX11_init_275 : decode cX11_init 275 = .ok (.iconst 3, 1) := by decide +kernel
theorem dX11_init_276 : decode cX11_init 276 = .ok (.newarray .long, 2) := by decide +kernel
theorem dX11_init_278 : decode cX11_init 278 = .ok (.putfield 118, 3) := by decide +kernel
theorem dX11_init_281 : decode cX11_init 281 = .ok (.aload_n 0, 1) := by decide +kernel
theorem dX11_init_282 : decode cX11_init 282 = .ok (.iconst 4, 1) := by decide +kernel
theorem dX11_init_283 : decode cX11_init 283 = .ok (.newarray .int, 2) := by decide +kernel
theorem dX11_init_285 : decode cX11_init 285 = .ok (.putfield 121, 3) := by decide +kernel
theorem dX11_init_288 : decode cX11_init 288 = .ok (.aload_n 0, 1) := by decide +kernel
theorem dX11_init_289 : decode cX11_init 289 = .ok (.bipush 60, 2) := by decide +kernel
theorem dX11_init_291 : decode cX11_init 291 = .ok (.newarray .int, 2) := by decide +kernel
theorem dX11_init_293 : decode cX11_init 293 = .ok (.putfield 124, 3) := by decide +kernel
theorem dX11_init_296 : decode cX11_init 296 = .ok (.aload_n 0, 1) := by decide +kernel
theorem dX11_init_297 : decode cX11_init 297 = .ok (.bipush 12, 2) := by decide +kernel
theorem dX11_init_299 : decode cX11_init 299 = .ok (.newarray .int, 2) := by decide +kernel
theorem dX11_init_301 : decode cX11_init 301 = .ok (.putfield 127, 3) := by decide +kernel
theorem dX11_init_304 : decode cX11_init 304 = .ok (.return_, 1) := by decide +kernel
theorem dX11_in_0 : decode cX11_in 0 = .ok (.lload_n 0, 1) := by decide +kernel
theorem dX11_in_1 : decode cX11_in 1 = .ok (.lload_n 2, 1) := by decide +kernel
theorem dX11_in_2 : decode cX11_in 2 = .ok (.lcmp, 1) := by decide +kernel
theorem dX11_in_3 : decode cX11_in 3 = .ok (.ifCond .lt 14, 3) := by decide +kernel
theorem dX11_in_6 : decode cX11_in 6 = .ok (.lload_n 0, 1) := by decide +kernel
theorem dX11_in_7 : decode cX11_in 7 = .ok (.lload 4, 2) := by decide +kernel
theorem dX11_in_9 : decode cX11_in 9 = .ok (.lcmp, 1) := by decide +kernel
theorem dX11_in_10 : decode cX11_in 10 = .ok (.ifCond .gt 7, 3) := by decide +kernel
theorem dX11_in_13 : decode cX11_in 13 = .ok (.iconst 1, 1) := by decide +kernel
theorem dX11_in_14 : decode cX11_in 14 = .ok (.goto 4, 3) := by decide +kernel
theorem dX11_in_17 : decode cX11_in 17 = .ok (.iconst 0, 1) := by decide +kernel
theorem dX11_in_18 : decode cX11_in 18 = .ok (.ireturn, 1) := by decide +kernel
theorem dX11_floor_0 : decode cX11_floor 0 = .ok (.lload_n 0, 1) := by decide +kernel
theorem dX11_floor_1 : decode cX11_floor 1 = .ok (.lconst 0, 1) := by decide +kernel
theorem dX11_floor_2 : decode cX11_floor 2 = .ok (.lcmp, 1) := by decide +kernel
theorem dX11_floor_3 : decode cX11_floor 3 = .ok (.ifCond .lt 9, 3) := by decide +kernel
theorem dX11_floor_6 : decode cX11_floor 6 = .ok (.lload_n 0, 1) := by decide +kernel
theorem dX11_floor_7 : decode cX11_floor 7 = .ok (.lload_n 2, 1) := by decide +kernel
theorem dX11_floor_8 : decode cX11_floor 8 = .ok (.ldiv, 1) := by decide +kernel
theorem dX11_floor_9 : decode cX11_floor 9 = .ok (.goto 12, 3) := by decide +kernel
theorem dX11_floor_12 : decode cX11_floor 12 = .ok (.lload_n 0, 1) := by decide +kernel
theorem dX11_floor_13 : decode cX11_floor 13 = .ok (.lneg, 1) := by decide +kernel
theorem dX11_floor_14 : decode cX11_floor 14 = .ok (.lload_n 2, 1) := by decide +kernel
theorem dX11_floor_15 : decode cX11_floor 15 = .ok (.ladd, 1) := by decide +kernel
theorem dX11_floor_16 : decode cX11_floor 16 = .ok (.lconst 1, 1) := by decide +kernel
theorem dX11_floor_17 : decode cX11_floor 17 = .ok (.lsub, 1) := by decide +kernel
theorem dX11_floor_18 : decode cX11_floor 18 = .ok (.lload_n 2, 1) := by decide +kernel
theorem dX11_floor_19 : decode cX11_floor 19 = .ok (.ldiv, 1) := by decide +kernel
theorem dX11_floor_20 : decode cX11_floor 20 = .ok (.lneg, 1) := by decide +kernel
theorem dX11_floor_21 : decode cX11_floor 21 = .ok (.lreturn, 1) := by decide +kernel
theorem dX11_nearest_0 : decode cX11_nearest 0 = .ok (.ldc2_w 130, 3) := by decide +kernel
theorem dX11_nearest_3 : decode cX11_nearest 3 = .ok (.lload_n 0, 1) := by decide +kernel
theorem dX11_nearest_4 : decode cX11_nearest 4 = .ok (.lmul, 1) := by decide +kernel
theorem dX11_nearest_5 : decode cX11_nearest 5 = .ok (.lload_n 2, 1) := by decide +kernel
theorem dX11_nearest_6 : decode cX11_nearest 6 = .ok (.ladd, 1) := by decide +kernel
theorem dX11_nearest_7 : decode cX11_nearest 7 = .ok (.ldc2_w 130, 3) := by decide +kernel
theorem dX11_nearest_10 : decode cX11_nearest 10 = .ok (.lload_n 2, 1) := by decide +kernel
theorem dX11_nearest_11 : decode cX11_nearest 11 = .ok (.lmul, 1) := by decide +kernel
theorem dX11_nearest_12 : decode cX11_nearest 12 = .ok (.invokestatic 132, 3) := by decide +kernel
theorem dX11_nearest_15 : decode cX11_nearest 15 = .ok (.lreturn, 1) := by decide +kernel
theorem dX11_feed_0 : decode cX11_feed 0 = .ok (.aload_n 0, 1) := by decide +kernel
theorem dX11_feed_1 : decode cX11_feed 1 = .ok (.getfield 136, 3) := by decide +kernel
theorem dX11_feed_4 : decode cX11_feed 4 = .ok (.bipush 20, 2) := by decide +kernel
theorem dX11_feed_6 : decode cX11_feed 6 = .ok (.iadd, 1) := by decide +kernel
theorem dX11_feed_7 : decode cX11_feed 7 = .ok (.bipush 120, 2) := by decide +kernel
theorem dX11_feed_9 : decode cX11_feed 9 = .ok (.if_icmp .le 5, 3) := by decide +kernel
theorem dX11_feed_12 : decode cX11_feed 12 = .ok (.iconst (-1), 1) := by decide +kernel
theorem dX11_feed_13 : decode cX11_feed 13 = .ok (.ireturn, 1) := by decide +kernel
theorem dX11_feed_14 : decode cX11_feed 14 = .ok (.iconst 0, 1) := by decide +kernel
theorem dX11_feed_15 : decode cX11_feed 15 = .ok (.istore 6, 2) := by decide +kernel
theorem dX11_feed_17 : decode cX11_feed 17 = .ok (.iload 6, 2) := by decide +kernel
theorem dX11_feed_19 : decode cX11_feed 19 = .ok (.bipush 20, 2) := by decide +kernel
theorem dX11_feed_21 : decode cX11_feed 21 = .ok (.if_icmp .ge 90, 3) := by decide +kernel
theorem dX11_feed_24 : decode cX11_feed 24 = .ok (.iload 6, 2) := by decide +kernel
theorem dX11_feed_26 : decode cX11_feed 26 = .ok (.iconst 4, 1) := by decide +kernel
theorem dX11_feed_27 : decode cX11_feed 27 = .ok (.if_icmp .ge 7, 3) := by decide +kernel
theorem dX11_feed_30 : decode cX11_feed 30 = .ok (.iload_n 1, 1) := by decide +kernel
theorem dX11_feed_31 : decode cX11_feed 31 = .ok (.goto 39, 3) := by decide +kernel
theorem dX11_feed_34 : decode cX11_feed 34 = .ok (.iload 6, 2) := by decide +kernel
theorem dX11_feed_36 : decode cX11_feed 36 = .ok (.bipush 8, 2) := by decide +kernel
theorem dX11_feed_38 : decode cX11_feed 38 = .ok (.if_icmp .ge 7, 3) := by decide +kernel
theorem dX11_feed_41 : decode cX11_feed 41 = .ok (.iload_n 2, 1) := by decide +kernel
theorem dX11_feed_42 : decode cX11_feed 42 = .ok (.goto 28, 3) := by decide +kernel
theorem dX11_feed_45 : decode cX11_feed 45 = .ok (.iload 6, 2) := by decide +kernel
theorem dX11_feed_47 : decode cX11_feed 47 = .ok (.bipush 12, 2) := by decide +kernel
theorem dX11_feed_49 : decode cX11_feed 49 = .ok (.if_icmp .ge 7, 3) := by decide +kernel
theorem dX11_feed_52 : decode cX11_feed 52 = .ok (.iload_n 3, 1) := by decide +kernel
theorem dX11_feed_53 : decode cX11_feed 53 = .ok (.goto 17, 3) := by decide +kernel
theorem dX11_feed_56 : decode cX11_feed 56 = .ok (.iload 6, 2) := by decide +kernel
theorem dX11_feed_58 : decode cX11_feed 58 = .ok (.bipush 16, 2) := by decide +kernel
theorem dX11_feed_60 : decode cX11_feed 60 = .ok (.if_icmp .ge 8, 3) := by decide +kernel
theorem dX11_feed_63 : decode cX11_feed 63 = .ok (.iload 4, 2) := by decide +kernel
theorem dX11_feed_65 : decode cX11_feed 65 = .ok (.goto 5, 3) := by decide +kernel
theorem dX11_feed_68 : decode cX11_feed 68 = .ok (.iload 5, 2) := by decide +kernel
theorem dX11_feed_70 : decode cX11_feed 70 = .ok (.istore 7, 2) := by decide +kernel
theorem dX11_feed_72 : decode cX11_feed 72 = .ok (.aload_n 0, 1) := by decide +kernel
theorem dX11_feed_73 : decode cX11_feed 73 = .ok (.getfield 9, 3) := by decide +kernel
theorem dX11_feed_76 : decode cX11_feed 76 = .ok (.aload_n 0, 1) := by decide +kernel
theorem dX11_feed_77 : decode cX11_feed 77 = .ok (.getfield 136, 3) := by decide +kernel
theorem dX11_feed_80 : decode cX11_feed 80 = .ok (.iload 7, 2) := by decide +kernel
theorem dX11_feed_82 : decode cX11_feed 82 = .ok (.bipush 24, 2) := by decide +kernel
theorem dX11_feed_84 : decode cX11_feed 84 = .ok (.bipush 8, 2) := by decide +kernel
theorem dX11_feed_86 : decode cX11_feed 86 = .ok (.iload 6, 2) := by decide +kernel
theorem dX11_feed_88 : decode cX11_feed 88 = .ok (.iconst 4, 1) := by decide +kernel
theorem dX11_feed_89 : decode cX11_feed 89 = .ok (.irem, 1) := by decide +kernel
theorem dX11_feed_90 : decode cX11_feed 90 = .ok (.imul, 1) := by decide +kernel
theorem dX11_feed_91 : decode cX11_feed 91 = .ok (.isub, 1) := by decide +kernel
theorem dX11_feed_92 : decode cX11_feed 92 = .ok (.ishr, 1) := by decide +kernel
theorem dX11_feed_93 : decode cX11_feed 93 = .ok (.i2b, 1) := by decide +kernel
theorem dX11_feed_94 : decode cX11_feed 94 = .ok (.bastore, 1) := by decide +kernel
theorem dX11_feed_95 : decode cX11_feed 95 = .ok (.aload_n 0, 1) := by decide +kernel
theorem dX11_feed_96 : decode cX11_feed 96 = .ok (.dup, 1) := by decide +kernel
theorem dX11_feed_97 : decode cX11_feed 97 = .ok (.getfield 136, 3) := by decide +kernel
theorem dX11_feed_100 : decode cX11_feed 100 = .ok (.iconst 1, 1) := by decide +kernel
theorem dX11_feed_101 : decode cX11_feed 101 = .ok (.iadd, 1) := by decide +kernel
theorem dX11_feed_102 : decode cX11_feed 102 = .ok (.putfield 136, 3) := by decide +kernel
theorem dX11_feed_105 : decode cX11_feed 105 = .ok (.iinc 6 1, 3) := by decide +kernel
theorem dX11_feed_108 : decode cX11_feed 108 = .ok (.goto (-91), 3) := by decide +kernel
theorem dX11_feed_111 : decode cX11_feed 111 = .ok (.aload_n 0, 1) := by decide +kernel
theorem dX11_feed_112 : decode cX11_feed 112 = .ok (.getfield 136, 3) := by decide +kernel
theorem dX11_feed_115 : decode cX11_feed 115 = .ok (.ireturn, 1) := by decide +kernel
theorem dX11_end_0 : decode cX11_end 0 = .ok (.iload_n 1, 1) := by decide +kernel
theorem dX11_end_1 : decode cX11_end 1 = .ok (.i2l, 1) := by decide +kernel
theorem dX11_end_2 : decode cX11_end 2 = .ok (.lconst 0, 1) := by decide +kernel
theorem dX11_end_3 : decode cX11_end 3 = .ok (.aload_n 0, 1) := by decide +kernel
theorem dX11_end_4 : decode cX11_end 4 = .ok (.getfield 136, 3) := by decide +kernel
theorem dX11_end_7 : decode cX11_end 7 = .ok (.i2l, 1) := by decide +kernel
theorem dX11_end_8 : decode cX11_end 8 = .ok (.invokestatic 139, 3) := by decide +kernel
theorem dX11_end_11 : decode cX11_end 11 = .ok (.ifCond .ne 5, 3) := by decide +kernel
theorem dX11_end_14 : decode cX11_end 14 = .ok (.iconst 0, 1) := by decide +kernel
theorem dX11_end_15 : decode cX11_end 15 = .ok (.ireturn, 1) := by decide +kernel
theorem dX11_end_16 : decode cX11_end 16 = .ok (.aload_n 0, 1) := by decide +kernel
theorem dX11_end_17 : decode cX11_end 17 = .ok (.iload_n 1, 1) := by decide +kernel
theorem dX11_end_18 : decode cX11_end 18 = .ok (.putfield 136, 3) := by decide +kernel
theorem dX11_end_21 : decode cX11_end 21 = .ok (.iconst 1, 1) := by decide +kernel
theorem dX11_end_22 : decode cX11_end 22 = .ok (.ireturn, 1) := by decide +kernel
theorem dX11_next_0 : decode cX11_next 0 = .ok (.aload_n 0, 1) := by decide +kernel
theorem dX11_next_1 : decode cX11_next 1 = .ok (.getfield 143, 3) := by decide +kernel
theorem dX11_next_4 : decode cX11_next 4 = .ok (.aload_n 0, 1) := by decide +kernel
theorem dX11_next_5 : decode cX11_next 5 = .ok (.getfield 136, 3) := by decide +kernel
theorem dX11_next_8 : decode cX11_next 8 = .ok (.if_icmp .ge 30, 3) := by decide +kernel
theorem dX11_next_11 : decode cX11_next 11 = .ok (.aload_n 0, 1) := by decide +kernel
theorem dX11_next_12 : decode cX11_next 12 = .ok (.getfield 9, 3) := by decide +kernel
theorem dX11_next_15 : decode cX11_next 15 = .ok (.aload_n 0, 1) := by decide +kernel
theorem dX11_next_16 : decode cX11_next 16 = .ok (.getfield 143, 3) := by decide +kernel
theorem dX11_next_19 : decode cX11_next 19 = .ok (.baload, 1) := by decide +kernel
theorem dX11_next_20 : decode cX11_next 20 = .ok (.bipush 32, 2) := by decide +kernel
theorem dX11_next_22 : decode cX11_next 22 = .ok (.if_icmp .ne 16, 3) := by decide +kernel
theorem dX11_next_25 : decode cX11_next 25 = .ok (.aload_n 0, 1) := by decide +kernel
theorem dX11_next_26 : decode cX11_next 26 = .ok (.dup, 1) := by decide +kernel
theorem dX11_next_27 : decode cX11_next 27 = .ok (.getfield 143, 3) := by decide +kernel
theorem dX11_next_30 : decode cX11_next 30 = .ok (.iconst 1, 1) := by decide +kernel
theorem dX11_next_31 : decode cX11_next 31 = .ok (.iadd, 1) := by decide +kernel
theorem dX11_next_32 : decode cX11_next 32 = .ok (.putfield 143, 3) := by decide +kernel
theorem dX11_next_35 : decode cX11_next 35 = .ok (.goto (-35), 3) := by decide +kernel
theorem dX11_next_38 : decode cX11_next 38 = .ok (.aload_n 0, 1) := by decide +kernel
theorem dX11_next_39 : decode cX11_next 39 = .ok (.aload_n 0, 1) := by decide +kernel
theorem dX11_next_40 : decode cX11_next 40 = .ok (.getfield 143, 3) := by decide +kernel
theorem dX11_next_43 : decode cX11_next 43 = .ok (.putfield 146, 3) := by decide +kernel
theorem dX11_next_46 : decode cX11_next 46 = .ok (.aload_n 0, 1) := by decide +kernel
theorem dX11_next_47 : decode cX11_next 47 = .ok (.iconst 0, 1) := by decide +kernel
theorem dX11_next_48 : decode cX11_next 48 = .ok (.putfield 149, 3) := by decide +kernel
theorem dX11_next_51 : decode cX11_next 51 = .ok (.aload_n 0, 1) := by decide +kernel
theorem dX11_next_52 : decode cX11_next 52 = .ok (.iconst 0, 1) := by decide +kernel
theorem dX11_next_53 : decode cX11_next 53 = .ok (.putfield 152, 3) := by decide +kernel
theorem dX11_next_56 : decode cX11_next 56 = .ok (.aload_n 0, 1) := by decide +kernel
theorem dX11_next_57 : decode cX11_next 57 = .ok (.getfield 143, 3) := by decide +kernel
theorem dX11_next_60 : decode cX11_next 60 = .ok (.aload_n 0, 1) := by decide +kernel
theorem dX11_next_61 : decode cX11_next 61 = .ok (.getfield 136, 3) := by decide +kernel
theorem dX11_next_64 : decode cX11_next 64 = .ok (.if_icmp .ne 4, 3) := by decide +kernel
theorem dX11_next_67 : decode cX11_next 67 = .ok (.return_, 1) := by decide +kernel
theorem dX11_next_68 : decode cX11_next 68 = .ok (.aload_n 0, 1) := by decide +kernel
theorem dX11_next_69 : decode cX11_next 69 = .ok (.getfield 9, 3) := by decide +kernel
theorem dX11_next_72 : decode cX11_next 72 = .ok (.aload_n 0, 1) := by decide +kernel
theorem dX11_next_73 : decode cX11_next 73 = .ok (.getfield 143, 3) := by decide +kernel
theorem dX11_next_76 : decode cX11_next 76 = .ok (.baload, 1) := by decide +kernel
theorem dX11_next_77 : decode cX11_next 77 = .ok (.istore_n 1, 1) := by decide +kernel
theorem dX11_next_78 : decode cX11_next 78 = .ok (.iload_n 1, 1) := by decide +kernel
theorem dX11_next_79 : decode cX11_next 79 = .ok (.bipush 48, 2) := by decide +kernel
theorem dX11_next_81 : decode cX11_next 81 = .ok (.if_icmp .lt 107, 3) := by decide +kernel
theorem dX11_next_84 : decode cX11_next 84 = .ok (.iload_n 1, 1) := by decide +kernel
theorem dX11_next_85 : decode cX11_next 85 = .ok (.bipush 57, 2) := by decide +kernel
theorem dX11_next_87 : decode cX11_next 87 = .ok (.if_icmp .gt 101, 3) := by decide +kernel
theorem dX11_next_90 : decode cX11_next 90 = .ok (.aload_n 0, 1) := by decide +kernel
theorem dX11_next_91 : decode cX11_next 91 = .ok (.getfield 143, 3) := by decide +kernel
theorem dX11_next_94 : decode cX11_next 94 = .ok (.aload_n 0, 1) := by decide +kernel
theorem dX11_next_95 : decode cX11_next 95 = .ok (.getfield 136, 3) := by decide +kernel
theorem dX11_next_98 : decode cX11_next 98 = .ok (.if_icmp .ge 84, 3) := by decide +kernel
theorem dX11_next_101 : decode cX11_next 101 = .ok (.aload_n 0, 1) := by decide +kernel
theorem dX11_next_102 : decode cX11_next 102 = .ok (.getfield 9, 3) := by decide +kernel
theorem dX11_next_105 : decode cX11_next 105 = .ok (.aload_n 0, 1) := by decide +kernel
theorem dX11_next_106 : decode cX11_next 106 = .ok (.getfield 143, 3) := by decide +kernel
theorem dX11_next_109 : decode cX11_next 109 = .ok (.baload, 1) := by decide +kernel
theorem dX11_next_110 : decode cX11_next 110 = .ok (.bipush 48, 2) := by decide +kernel
theorem dX11_next_112 : decode cX11_next 112 = .ok (.if_icmp .lt 70, 3) := by decide +kernel
theorem dX11_next_115 : decode cX11_next 115 = .ok (.aload_n 0, 1) := by decide +kernel
theorem dX11_next_116 : decode cX11_next 116 = .ok (.getfield 9, 3) := by decide +kernel
theorem dX11_next_119 : decode cX11_next 119 = .ok (.aload_n 0, 1) := by decide +kernel
theorem dX11_next_120 : decode cX11_next 120 = .ok (.getfield 143, 3) := by decide +kernel
theorem dX11_next_123 : decode cX11_next 123 = .ok (.baload, 1) := by decide +kernel
theorem dX11_next_124 : decode cX11_next 124 = .ok (.bipush 57, 2) := by decide +kernel
theorem dX11_next_126 : decode cX11_next 126 = .ok (.if_icmp .gt 56, 3) := by decide +kernel
theorem dX11_next_129 : decode cX11_next 129 = .ok (.aload_n 0, 1) := by decide +kernel
theorem dX11_next_130 : decode cX11_next 130 = .ok (.aload_n 0, 1) := by decide +kernel
theorem dX11_next_131 : decode cX11_next 131 = .ok (.getfield 152, 3) := by decide +kernel
theorem dX11_next_134 : decode cX11_next 134 = .ok (.ldc 155, 2) := by decide +kernel
theorem dX11_next_136 : decode cX11_next 136 = .ok (.if_icmp .le 10, 3) := by decide +kernel
theorem dX11_next_139 : decode cX11_next 139 = .ok (.aload_n 0, 1) := by decide +kernel
theorem dX11_next_140 : decode cX11_next 140 = .ok (.getfield 152, 3) := by decide +kernel
theorem dX11_next_143 : decode cX11_next 143 = .ok (.goto 23, 3) := by decide +kernel
theorem dX11_next_146 : decode cX11_next 146 = .ok (.bipush 10, 2) := by decide +kernel
theorem dX11_next_148 : decode cX11_next 148 = .ok (.aload_n 0, 1) := by decide +kernel
theorem dX11_next_149 : decode cX11_next 149 = .ok (.getfield 152, 3) := by decide +kernel
theorem dX11_next_152 : decode cX11_next 152 = .ok (.imul, 1) := by decide +kernel
theorem dX11_next_153 : decode cX11_next 153 = .ok (.aload_n 0, 1) := by decide +kernel
theorem dX11_next_154 : decode cX11_next 154 = .ok (.getfield 9, 3) := by decide +kernel
theorem dX11_next_157 : decode cX11_next 157 = .ok (.aload_n 0, 1) := by decide +kernel
theorem dX11_next_158 : decode cX11_next 158 = .ok (.getfield 143, 3) := by decide +kernel
theorem dX11_next_161 : decode cX11_next 161 = .ok (.baload, 1) := by decide +kernel
theorem dX11_next_162 : decode cX11_next 162 = .ok (.iadd, 1) := by decide +kernel
theorem dX11_next_163 : decode cX11_next 163 = .ok (.bipush 48, 2) := by decide +kernel
theorem dX11_next_165 : decode cX11_next 165 = .ok (.isub, 1) := by decide +kernel
theorem dX11_next_166 : decode cX11_next 166 = .ok (.putfield 152, 3) := by decide +kernel
theorem dX11_next_169 : decode cX11_next 169 = .ok (.aload_n 0, 1) := by decide +kernel
theorem dX11_next_170 : decode cX11_next 170 = .ok (.dup, 1) := by decide +kernel
theorem dX11_next_171 : decode cX11_next 171 = .ok (.getfield 143, 3) := by decide +kernel
theorem dX11_next_174 : decode cX11_next 174 = .ok (.iconst 1, 1) := by decide +kernel
theorem dX11_next_175 : decode cX11_next 175 = .ok (.iadd, 1) := by decide +kernel
theorem dX11_next_176 : decode cX11_next 176 = .ok (.putfield 143, 3) := by decide +kernel
theorem dX11_next_179 : decode cX11_next 179 = .ok (.goto (-89), 3) := by decide +kernel
theorem dX11_next_182 : decode cX11_next 182 = .ok (.aload_n 0, 1) := by decide +kernel
theorem dX11_next_183 : decode cX11_next 183 = .ok (.iconst 2, 1) := by decide +kernel
theorem dX11_next_184 : decode cX11_next 184 = .ok (.putfield 149, 3) := by decide +kernel
theorem dX11_next_187 : decode cX11_next 187 = .ok (.return_, 1) := by decide +kernel
theorem dX11_next_188 : decode cX11_next 188 = .ok (.aload_n 0, 1) := by decide +kernel
theorem dX11_next_189 : decode cX11_next 189 = .ok (.iload_n 1, 1) := by decide +kernel
theorem dX11_next_190 : decode cX11_next 190 = .ok (.bipush 97, 2) := by decide +kernel
theorem dX11_next_192 : decode cX11_next 192 = .ok (.if_icmp .lt 13, 3) := by decide +kernel
theorem dX11_next_195 : decode cX11_next 195 = .ok (.iload_n 1, 1) := by decide +kernel
theorem dX11_next_196 : decode cX11_next 196 = .ok (.bipush 122, 2) := by decide +kernel
theorem dX11_next_198 : decode cX11_next 198 = .ok (.if_icmp .gt 7, 3) := by decide +kernel
theorem dX11_next_201 : decode cX11_next 201 = .ok (.iconst 1, 1) := by decide +kernel
theorem dX11_next_202 : decode cX11_next 202 = .ok (.goto 44, 3) := by decide +kernel
theorem dX11_next_205 : decode cX11_next 205 = .ok (.iload_n 1, 1) := by decide +kernel
theorem dX11_next_206 : decode cX11_next 206 = .ok (.bipush 61, 2) := by decide +kernel
theorem dX11_next_208 : decode cX11_next 208 = .ok (.if_icmp .eq 33, 3) := by decide +kernel
theorem dX11_next_211 : decode cX11_next 211 = .ok (.iload_n 1, 1) := by decide +kernel
theorem dX11_next_212 : decode cX11_next 212 = .ok (.bipush 43, 2) := by decide +kernel
theorem dX11_next_214 : decode cX11_next 214 = .ok (.if_icmp .eq 27, 3) := by decide +kernel
theorem dX11_next_217 : decode cX11_next 217 = .ok (.iload_n 1, 1) := by decide +kernel
theorem dX11_next_218 : decode cX11_next 218 = .ok (.bipush 45, 2) := by decide +kernel
theorem dX11_next_220 : decode cX11_next 220 = .ok (.if_icmp .eq 21, 3) := by decide +kernel
theorem dX11_next_223 : decode cX11_next 223 = .ok (.iload_n 1, 1) := by decide +kernel
theorem dX11_next_224 : decode cX11_next 224 = .ok (.bipush 42, 2) := by decide +kernel
theorem dX11_next_226 : decode cX11_next 226 = .ok (.if_icmp .eq 15, 3) := by decide +kernel
theorem dX11_next_229 : decode cX11_next 229 = .ok (.iload_n 1, 1) := by decide +kernel
theorem dX11_next_230 : decode cX11_next 230 = .ok (.bipush 47, 2) := by decide +kernel
theorem dX11_next_232 : decode cX11_next 232 = .ok (.if_icmp .eq 9, 3) := by decide +kernel
theorem dX11_next_235 : decode cX11_next 235 = .ok (.iload_n 1, 1) := by decide +kernel
theorem dX11_next_236 : decode cX11_next 236 = .ok (.bipush 59, 2) := by decide +kernel
theorem dX11_next_238 : decode cX11_next 238 = .ok (.if_icmp .ne 7, 3) := by decide +kernel
theorem dX11_next_241 : decode cX11_next 241 = .ok (.iconst 3, 1) := by decide +kernel
theorem dX11_next_242 : decode cX11_next 242 = .ok (.goto 4, 3) := by decide +kernel
theorem dX11_next_245 : decode cX11_next 245 = .ok (.iconst 4, 1) := by decide +kernel
theorem dX11_next_246 : decode cX11_next 246 = .ok (.putfield 149, 3) := by decide +kernel
theorem dX11_next_249 : decode cX11_next 249 = .ok (.aload_n 0, 1) := by decide +kernel
theorem dX11_next_250 : decode cX11_next 250 = .ok (.iload_n 1, 1) := by decide +kernel
theorem dX11_next_251 : decode cX11_next 251 = .ok (.putfield 152, 3) := by decide +kernel
theorem dX11_next_254 : decode cX11_next 254 = .ok (.aload_n 0, 1) := by decide +kernel
theorem dX11_next_255 : decode cX11_next 255 = .ok (.dup, 1) := by decide +kernel
theorem dX11_next_256 : decode cX11_next 256 = .ok (.getfield 143, 3) := by decide +kernel
theorem dX11_next_259 : decode cX11_next 259 = .ok (.iconst 1, 1) := by decide +kernel
theorem dX11_next_260 : decode cX11_next 260 = .ok (.iadd, 1) := by decide +kernel
theorem dX11_next_261 : decode cX11_next 261 = .ok (.putfield 143, 3) := by decide +kernel
theorem dX11_next_264 : decode cX11_next 264 = .ok (.return_, 1) := by decide +kernel
theorem dX11_isSign_0 : decode cX11_isSign 0 = .ok (.aload_n 0, 1) := by decide +kernel
theorem dX11_isSign_1 : decode cX11_isSign 1 = .ok (.getfield 149, 3) := by decide +kernel
theorem dX11_isSign_4 : decode cX11_isSign 4 = .ok (.iconst 3, 1) := by decide +kernel
theorem dX11_isSign_5 : decode cX11_isSign 5 = .ok (.if_icmp .ne 15, 3) := by decide +kernel
theorem dX11_isSign_8 : decode cX11_isSign 8 = .ok (.aload_n 0, 1) := by decide +kernel
theorem dX11_isSign_9 : decode cX11_isSign 9 = .ok (.getfield 152, 3) := by decide +kernel
theorem dX11_isSign_12 : decode cX11_isSign 12 = .ok (.iload_n 1, 1) := by decide +kernel
theorem dX11_isSign_13 : decode cX11_isSign 13 = .ok (.if_icmp .ne 7, 3) := by decide +kernel
theorem dX11_isSign_16 : decode cX11_isSign 16 = .ok (.iconst 1, 1) := by decide +kernel
theorem dX11_isSign_17 : decode cX11_isSign 17 = .ok (.goto 4, 3) := by decide +kernel
theorem dX11_isSign_20 : decode cX11_isSign 20 = .ok (.iconst 0, 1) := by decide +kernel
theorem dX11_isSign_21 : decode cX11_isSign 21 = .ok (.ireturn, 1) := by decide +kernel
theorem dX11_isNew_0 : decode cX11_isNew 0 = .ok (.aload_n 0, 1) := by decide +kernel
theorem dX11_isNew_1 : decode cX11_isNew 1 = .ok (.getfield 149, 3) := by decide +kernel
theorem dX11_isNew_4 : decode cX11_isNew 4 = .ok (.iconst 1, 1) := by decide +kernel
theorem dX11_isNew_5 : decode cX11_isNew 5 = .ok (.if_icmp .eq 5, 3) := by decide +kernel
theorem dX11_isNew_8 : decode cX11_isNew 8 = .ok (.iconst 0, 1) := by decide +kernel
theorem dX11_isNew_9 : decode cX11_isNew 9 = .ok (.ireturn, 1) := by decide +kernel
theorem dX11_isNew_10 : decode cX11_isNew 10 = .ok (.iconst 0, 1) := by decide +kernel
theorem dX11_isNew_11 : decode cX11_isNew 11 = .ok (.istore_n 1, 1) := by decide +kernel
theorem dX11_isNew_12 : decode cX11_isNew 12 = .ok (.iload_n 1, 1) := by decide +kernel
theorem dX11_isNew_13 : decode cX11_isNew 13 = .ok (.aload_n 0, 1) := by decide +kernel
theorem dX11_isNew_14 : decode cX11_isNew 14 = .ok (.getfield 156, 3) := by decide +kernel
theorem dX11_isNew_17 : decode cX11_isNew 17 = .ok (.if_icmp .ge 24, 3) := by decide +kernel
theorem dX11_isNew_20 : decode cX11_isNew 20 = .ok (.aload_n 0, 1) := by decide +kernel
theorem dX11_isNew_21 : decode cX11_isNew 21 = .ok (.getfield 13, 3) := by decide +kernel
theorem dX11_isNew_24 : decode cX11_isNew 24 = .ok (.iload_n 1, 1) := by decide +kernel
theorem dX11_isNew_25 : decode cX11_isNew 25 = .ok (.iaload, 1) := by decide +kernel
theorem dX11_isNew_26 : decode cX11_isNew 26 = .ok (.aload_n 0, 1) := by decide +kernel
theorem dX11_isNew_27 : decode cX11_isNew 27 = .ok (.getfield 152, 3) := by decide +kernel
theorem dX11_isNew_30 : decode cX11_isNew 30 = .ok (.if_icmp .ne 5, 3) := by decide +kernel
theorem dX11_isNew_33 : decode cX11_isNew 33 = .ok (.iconst 0, 1) := by decide +kernel
theorem dX11_isNew_34 : decode cX11_isNew 34 = .ok (.ireturn, 1) := by decide +kernel
theorem dX11_isNew_35 : decode cX11_isNew 35 = .ok (.iinc 1 1, 3) := by decide +kernel
theorem dX11_isNew_38 : decode cX11_isNew 38 = .ok (.goto (-26), 3) := by decide +kernel
theorem dX11_isNew_41 : decode cX11_isNew 41 = .ok (.iconst 1, 1) := by decide +kernel
theorem dX11_isNew_42 : decode cX11_isNew 42 = .ok (.ireturn, 1) := by decide +kernel
theorem dX11_form_0 : decode cX11_form 0 = .ok (.aload_n 0, 1) := by decide +kernel
theorem dX11_form_1 : decode cX11_form 1 = .ok (.getfield 156, 3) := by decide +kernel
theorem dX11_form_4 : decode cX11_form 4 = .ok (.iconst 5, 1) := by decide +kernel
theorem dX11_form_5 : decode cX11_form 5 = .ok (.if_icmp .ne 5, 3) := by decide +kernel
theorem dX11_form_8 : decode cX11_form 8 = .ok (.iconst 0, 1) := by decide +kernel
theorem dX11_form_9 : decode cX11_form 9 = .ok (.ireturn, 1) := by decide +kernel
theorem dX11_form_10 : decode cX11_form 10 = .ok (.aload_n 0, 1) := by decide +kernel
theorem dX11_form_11 : decode cX11_form 11 = .ok (.bipush 47, 2) := by decide +kernel
theorem dX11_form_13 : decode cX11_form 13 = .ok (.invokevirtual 159, 3) := by decide +kernel
theorem dX11_form_16 : decode cX11_form 16 = .ok (.istore_n 2, 1) := by decide +kernel
theorem dX11_form_17 : decode cX11_form 17 = .ok (.iload_n 2, 1) := by decide +kernel
theorem dX11_form_18 : decode cX11_form 18 = .ok (.ifCond .eq 7, 3) := by decide +kernel
theorem dX11_form_21 : decode cX11_form 21 = .ok (.aload_n 0, 1) := by decide +kernel
theorem dX11_form_22 : decode cX11_form 22 = .ok (.invokevirtual 163, 3) := by decide +kernel
theorem dX11_form_25 : decode cX11_form 25 = .ok (.aload_n 0, 1) := by decide +kernel
theorem dX11_form_26 : decode cX11_form 26 = .ok (.invokevirtual 166, 3) := by decide +kernel
theorem dX11_form_29 : decode cX11_form 29 = .ok (.ifCond .ne 5, 3) := by decide +kernel
theorem dX11_form_32 : decode cX11_form 32 = .ok (.iconst 0, 1) := by decide +kernel
theorem dX11_form_33 : decode cX11_form 33 = .ok (.ireturn, 1) := by decide +kernel
theorem dX11_form_34 : decode cX11_form 34 = .ok (.aload_n 0, 1) := by decide +kernel
theorem dX11_form_35 : decode cX11_form 35 = .ok (.getfield 152, 3) := by decide +kernel
theorem dX11_form_38 : decode cX11_form 38 = .ok (.istore_n 3, 1) := by decide +kernel
theorem dX11_form_39 : decode cX11_form 39 = .ok (.aload_n 0, 1) := by decide +kernel
theorem dX11_form_40 : decode cX11_form 40 = .ok (.invokevirtual 163, 3) := by decide +kernel
theorem dX11_form_43 : decode cX11_form 43 = .ok (.iload_n 2, 1) := by decide +kernel
theorem dX11_form_44 : decode cX11_form 44 = .ok (.ifCond .ne 16, 3) := by decide +kernel
theorem dX11_form_47 : decode cX11_form 47 = .ok (.aload_n 0, 1) := by decide +kernel
theorem dX11_form_48 : decode cX11_form 48 = .ok (.bipush 42, 2) := by decide +kernel
theorem dX11_form_50 : decode cX11_form 50 = .ok (.invokevirtual 159, 3) := by decide +kernel
theorem dX11_form_53 : decode cX11_form 53 = .ok (.ifCond .eq 7, 3) := by decide +kernel
theorem dX11_form_56 : decode cX11_form 56 = .ok (.iconst 1, 1) := by decide +kernel
theorem dX11_form_57 : decode cX11_form 57 = .ok (.goto 4, 3) := by decide +kernel
theorem dX11_form_60 : decode cX11_form 60 = .ok (.iconst 0, 1) := by decide +kernel
theorem dX11_form_61 : decode cX11_form 61 = .ok (.istore 4, 2) := by decide +kernel
theorem dX11_form_63 : decode cX11_form 63 = .ok (.iload 4, 2) := by decide +kernel
theorem dX11_form_65 : decode cX11_form 65 = .ok (.ifCond .eq 29, 3) := by decide +kernel
theorem dX11_form_68 : decode cX11_form 68 = .ok (.aload_n 0, 1) := by decide +kernel
theorem dX11_form_69 : decode cX11_form 69 = .ok (.invokevirtual 163, 3) := by decide +kernel
theorem dX11_form_72 : decode cX11_form 72 = .ok (.aload_n 0, 1) := by decide +kernel
theorem dX11_form_73 : decode cX11_form 73 = .ok (.getfield 149, 3) := by decide +kernel
theorem dX11_form_76 : decode cX11_form 76 = .ok (.iconst 1, 1) := by decide +kernel
theorem dX11_form_77 : decode cX11_form 77 = .ok (.if_icmp .ne 11, 3) := by decide +kernel
theorem dX11_form_80 : decode cX11_form 80 = .ok (.aload_n 0, 1) := by decide +kernel
theorem dX11_form_81 : decode cX11_form 81 = .ok (.getfield 152, 3) := by decide +kernel
theorem dX11_form_84 : decode cX11_form 84 = .ok (.iload_n 3, 1) := by decide +kernel
theorem dX11_form_85 : decode cX11_form 85 = .ok (.if_icmp .eq 5, 3) := by decide +kernel
theorem dX11_form_88 : decode cX11_form 88 = .ok (.iconst 0, 1) := by decide +kernel
theorem dX11_form_89 : decode cX11_form 89 = .ok (.ireturn, 1) := by decide +kernel
theorem dX11_form_90 : decode cX11_form 90 = .ok (.aload_n 0, 1) := by decide +kernel
theorem dX11_form_91 : decode cX11_form 91 = .ok (.invokevirtual 163, 3) := by decide +kernel
theorem dX11_form_94 : decode cX11_form 94 = .ok (.aload_n 0, 1) := by decide +kernel
theorem dX11_form_95 : decode cX11_form 95 = .ok (.getfield 13, 3) := by decide +kernel
theorem dX11_form_98 : decode cX11_form 98 = .ok (.aload_n 0, 1) := by decide +kernel
theorem dX11_form_99 : decode cX11_form 99 = .ok (.getfield 156, 3) := by decide +kernel
theorem dX11_form_102 : decode cX11_form 102 = .ok (.iload_n 3, 1) := by decide +kernel
theorem dX11_form_103 : decode cX11_form 103 = .ok (.iastore, 1) := by decide +kernel
theorem dX11_form_104 : decode cX11_form 104 = .ok (.aload_n 0, 1) := by decide +kernel
theorem dX11_form_105 : decode cX11_form 105 = .ok (.getfield 17, 3) := by decide +kernel
theorem dX11_form_108 : decode cX11_form 108 = .ok (.aload_n 0, 1) := by decide +kernel
theorem dX11_form_109 : decode cX11_form 109 = .ok (.getfield 156, 3) := by decide +kernel
theorem dX11_form_112 : decode cX11_form 112 = .ok (.iload_n 2, 1) := by decide +kernel
theorem dX11_form_113 : decode cX11_form 113 = .ok (.ifCond .eq 7, 3) := by decide +kernel
theorem dX11_form_116 : decode cX11_form 116 = .ok (.iconst 2, 1) := by decide +kernel
theorem dX11_form_117 : decode cX11_form 117 = .ok (.goto 13, 3) := by decide +kernel
theorem dX11_form_120 : decode cX11_form 120 = .ok (.iload 4, 2) := by decide +kernel
theorem dX11_form_122 : decode cX11_form 122 = .ok (.ifCond .eq 7, 3) := by decide +kernel
theorem dX11_form_125 : decode cX11_form 125 = .ok (.iconst 1, 1) := by decide +kernel
theorem dX11_form_126 : decode cX11_form 126 = .ok (.goto 4, 3) := by decide +kernel
theorem dX11_form_129 : decode cX11_form 129 = .ok (.iconst 0, 1) := by decide +kernel
theorem dX11_form_130 : decode cX11_form 130 = .ok (.iastore, 1) := by decide +kernel
theorem dX11_form_131 : decode cX11_form 131 = .ok (.aload_n 0, 1) := by decide +kernel
theorem dX11_form_132 : decode cX11_form 132 = .ok (.getfield 20, 3) := by decide +kernel
theorem dX11_form_135 : decode cX11_form 135 = .ok (.aload_n 0, 1) := by decide +kernel
theorem dX11_form_136 : decode cX11_form 136 = .ok (.getfield 156, 3) := by decide +kernel
theorem dX11_form_139 : decode cX11_form 139 = .ok (.iload_n 1, 1) := by decide +kernel
theorem dX11_form_140 : decode cX11_form 140 = .ok (.iastore, 1) := by decide +kernel
theorem dX11_form_141 : decode cX11_form 141 = .ok (.aload_n 0, 1) := by decide +kernel
theorem dX11_form_142 : decode cX11_form 142 = .ok (.dup, 1) := by decide +kernel
theorem dX11_form_143 : decode cX11_form 143 = .ok (.getfield 156, 3) := by decide +kernel
theorem dX11_form_146 : decode cX11_form 146 = .ok (.iconst 1, 1) := by decide +kernel
theorem dX11_form_147 : decode cX11_form 147 = .ok (.iadd, 1) := by decide +kernel
theorem dX11_form_148 : decode cX11_form 148 = .ok (.putfield 156, 3) := by decide +kernel
theorem dX11_form_151 : decode cX11_form 151 = .ok (.iconst 1, 1) := by decide +kernel
theorem dX11_form_152 : decode cX11_form 152 = .ok (.ireturn, 1) := by decide +kernel
theorem dX11_part_0 : decode cX11_part 0 = .ok (.aload_n 0, 1) := by decide +kernel
theorem dX11_part_1 : decode cX11_part 1 = .ok (.bipush 45, 2) := by decide +kernel
theorem dX11_part_3 : decode cX11_part 3 = .ok (.invokevirtual 159, 3) := by decide +kernel
theorem dX11_part_6 : decode cX11_part 6 = .ok (.ifCond .eq 7, 3) := by decide +kernel
theorem dX11_part_9 : decode cX11_part 9 = .ok (.iconst (-1), 1) := by decide +kernel
theorem dX11_part_10 : decode cX11_part 10 = .ok (.goto 4, 3) := by decide +kernel
theorem dX11_part_13 : decode cX11_part 13 = .ok (.iconst 1, 1) := by decide +kernel
theorem dX11_part_14 : decode cX11_part 14 = .ok (.istore_n 1, 1) := by decide +kernel
theorem dX11_part_15 : decode cX11_part 15 = .ok (.aload_n 0, 1) := by decide +kernel
theorem dX11_part_16 : decode cX11_part 16 = .ok (.invokevirtual 163, 3) := by decide +kernel
theorem dX11_part_19 : decode cX11_part 19 = .ok (.aload_n 0, 1) := by decide +kernel
theorem dX11_part_20 : decode cX11_part 20 = .ok (.getfield 149, 3) := by decide +kernel
theorem dX11_part_23 : decode cX11_part 23 = .ok (.iconst 2, 1) := by decide +kernel
theorem dX11_part_24 : decode cX11_part 24 = .ok (.if_icmp .eq 9, 3) := by decide +kernel
theorem dX11_part_27 : decode cX11_part 27 = .ok (.aload_n 0, 1) := by decide +kernel
theorem dX11_part_28 : decode cX11_part 28 = .ok (.iload_n 1, 1) := by decide +kernel
theorem dX11_part_29 : decode cX11_part 29 = .ok (.invokevirtual 170, 3) := by decide +kernel
theorem dX11_part_32 : decode cX11_part 32 = .ok (.ireturn, 1) := by decide +kernel
theorem dX11_part_33 : decode cX11_part 33 = .ok (.aload_n 0, 1) := by decide +kernel
theorem dX11_part_34 : decode cX11_part 34 = .ok (.getfield 152, 3) := by decide +kernel
theorem dX11_part_37 : decode cX11_part 37 = .ok (.sipush 9999, 3) := by decide +kernel
theorem dX11_part_40 : decode cX11_part 40 = .ok (.if_icmp .le 5, 3) := by decide +kernel
theorem dX11_part_43 : decode cX11_part 43 = .ok (.iconst 0, 1) := by decide +kernel
theorem dX11_part_44 : decode cX11_part 44 = .ok (.ireturn, 1) := by decide +kernel
theorem dX11_part_45 : decode cX11_part 45 = .ok (.aload_n 0, 1) := by decide +kernel
theorem dX11_part_46 : decode cX11_part 46 = .ok (.dup, 1) := by decide +kernel
theorem dX11_part_47 : decode cX11_part 47 = .ok (.getfield 173, 3) := by decide +kernel
theorem dX11_part_50 : decode cX11_part 50 = .ok (.iload_n 1, 1) := by decide +kernel
theorem dX11_part_51 : decode cX11_part 51 = .ok (.aload_n 0, 1) := by decide +kernel
theorem dX11_part_52 : decode cX11_part 52 = .ok (.getfield 152, 3) := by decide +kernel
theorem dX11_part_55 : decode cX11_part 55 = .ok (.imul, 1) := by decide +kernel
theorem dX11_part_56 : decode cX11_part 56 = .ok (.iadd, 1) := by decide +kernel
theorem dX11_part_57 : decode cX11_part 57 = .ok (.putfield 173, 3) := by decide +kernel
theorem dX11_part_60 : decode cX11_part 60 = .ok (.aload_n 0, 1) := by decide +kernel
theorem dX11_part_61 : decode cX11_part 61 = .ok (.invokevirtual 163, 3) := by decide +kernel
theorem dX11_part_64 : decode cX11_part 64 = .ok (.iconst 1, 1) := by decide +kernel
theorem dX11_part_65 : decode cX11_part 65 = .ok (.ireturn, 1) := by decide +kernel
theorem dX11_whole_0 : decode cX11_whole 0 = .ok (.aload_n 0, 1) := by decide +kernel
theorem dX11_whole_1 : decode cX11_whole 1 = .ok (.iconst 1, 1) := by decide +kernel
theorem dX11_whole_2 : decode cX11_whole 2 = .ok (.invokevirtual 170, 3) := by decide +kernel
theorem dX11_whole_5 : decode cX11_whole 5 = .ok (.ifCond .eq 12, 3) := by decide +kernel
theorem dX11_whole_8 : decode cX11_whole 8 = .ok (.aload_n 0, 1) := by decide +kernel
theorem dX11_whole_9 : decode cX11_whole 9 = .ok (.bipush 61, 2) := by decide +kernel
theorem dX11_whole_11 : decode cX11_whole 11 = .ok (.invokevirtual 159, 3) := by decide +kernel
theorem dX11_whole_14 : decode cX11_whole 14 = .ok (.ifCond .ne 5, 3) := by decide +kernel
theorem dX11_whole_17 : decode cX11_whole 17 = .ok (.iconst 0, 1) := by decide +kernel
theorem dX11_whole_18 : decode cX11_whole 18 = .ok (.ireturn, 1) := by decide +kernel
theorem dX11_whole_19 : decode cX11_whole 19 = .ok (.aload_n 0, 1) := by decide +kernel
theorem dX11_whole_20 : decode cX11_whole 20 = .ok (.invokevirtual 163, 3) := by decide +kernel
theorem dX11_whole_23 : decode cX11_whole 23 = .ok (.aload_n 0, 1) := by decide +kernel
theorem dX11_whole_24 : decode cX11_whole 24 = .ok (.bipush 45, 2) := by decide +kernel
theorem dX11_whole_26 : decode cX11_whole 26 = .ok (.invokevirtual 159, 3) := by decide +kernel
theorem dX11_whole_29 : decode cX11_whole 29 = .ok (.istore_n 1, 1) := by decide +kernel
theorem dX11_whole_30 : decode cX11_whole 30 = .ok (.iload_n 1, 1) := by decide +kernel
theorem dX11_whole_31 : decode cX11_whole 31 = .ok (.ifCond .eq 7, 3) := by decide +kernel
theorem dX11_whole_34 : decode cX11_whole 34 = .ok (.aload_n 0, 1) := by decide +kernel
theorem dX11_whole_35 : decode cX11_whole 35 = .ok (.invokevirtual 163, 3) := by decide +kernel
theorem dX11_whole_38 : decode cX11_whole 38 = .ok (.aload_n 0, 1) := by decide +kernel
theorem dX11_whole_39 : decode cX11_whole 39 = .ok (.iload_n 1, 1) := by decide +kernel
theorem dX11_whole_40 : decode cX11_whole 40 = .ok (.ifCond .eq 7, 3) := by decide +kernel
theorem dX11_whole_43 : decode cX11_whole 43 = .ok (.iconst (-1), 1) := by decide +kernel
theorem dX11_whole_44 : decode cX11_whole 44 = .ok (.goto 4, 3) := by decide +kernel
theorem dX11_whole_47 : decode cX11_whole 47 = .ok (.iconst 1, 1) := by decide +kernel
theorem dX11_whole_48 : decode cX11_whole 48 = .ok (.invokevirtual 170, 3) := by decide +kernel
theorem dX11_whole_51 : decode cX11_whole 51 = .ok (.ifCond .ne 5, 3) := by decide +kernel
theorem dX11_whole_54 : decode cX11_whole 54 = .ok (.iconst 0, 1) := by decide +kernel
theorem dX11_whole_55 : decode cX11_whole 55 = .ok (.ireturn, 1) := by decide +kernel
theorem dX11_whole_56 : decode cX11_whole 56 = .ok (.aload_n 0, 1) := by decide +kernel
theorem dX11_whole_57 : decode cX11_whole 57 = .ok (.bipush 43, 2) := by decide +kernel
theorem dX11_whole_59 : decode cX11_whole 59 = .ok (.invokevirtual 159, 3) := by decide +kernel
theorem dX11_whole_62 : decode cX11_whole 62 = .ok (.ifCond .ne 12, 3) := by decide +kernel
theorem dX11_whole_65 : decode cX11_whole 65 = .ok (.aload_n 0, 1) := by decide +kernel
theorem dX11_whole_66 : decode cX11_whole 66 = .ok (.bipush 45, 2) := by decide +kernel
theorem dX11_whole_68 : decode cX11_whole 68 = .ok (.invokevirtual 159, 3) := by decide +kernel
theorem dX11_whole_71 : decode cX11_whole 71 = .ok (.ifCond .eq 12, 3) := by decide +kernel
theorem dX11_whole_74 : decode cX11_whole 74 = .ok (.aload_n 0, 1) := by decide +kernel
theorem dX11_whole_75 : decode cX11_whole 75 = .ok (.invokevirtual 176, 3) := by decide +kernel
theorem dX11_whole_78 : decode cX11_whole 78 = .ok (.ifCond .ne (-22), 3) := by decide +kernel
theorem dX11_whole_81 : decode cX11_whole 81 = .ok (.iconst 0, 1) := by decide +kernel
theorem dX11_whole_82 : decode cX11_whole 82 = .ok (.ireturn, 1) := by decide +kernel
theorem dX11_whole_83 : decode cX11_whole 83 = .ok (.aload_n 0, 1) := by decide +kernel
theorem dX11_whole_84 : decode cX11_whole 84 = .ok (.bipush 59, 2) := by decide +kernel
theorem dX11_whole_86 : decode cX11_whole 86 = .ok (.invokevirtual 159, 3) := by decide +kernel
theorem dX11_whole_89 : decode cX11_whole 89 = .ok (.ifCond .eq 11, 3) := by decide +kernel
theorem dX11_whole_92 : decode cX11_whole 92 = .ok (.aload_n 0, 1) := by decide +kernel
theorem dX11_whole_93 : decode cX11_whole 93 = .ok (.getfield 156, 3) := by decide +kernel
theorem dX11_whole_96 : decode cX11_whole 96 = .ok (.iconst 3, 1) := by decide +kernel
theorem dX11_whole_97 : decode cX11_whole 97 = .ok (.if_icmp .ge 5, 3) := by decide +kernel
theorem dX11_whole_100 : decode cX11_whole 100 = .ok (.iconst 0, 1) := by decide +kernel
theorem dX11_whole_101 : decode cX11_whole 101 = .ok (.ireturn, 1) := by decide +kernel
theorem dX11_whole_102 : decode cX11_whole 102 = .ok (.aload_n 0, 1) := by decide +kernel
theorem dX11_whole_103 : decode cX11_whole 103 = .ok (.invokevirtual 163, 3) := by decide +kernel
theorem dX11_whole_106 : decode cX11_whole 106 = .ok (.aload_n 0, 1) := by decide +kernel
theorem dX11_whole_107 : decode cX11_whole 107 = .ok (.getfield 149, 3) := by decide +kernel
theorem dX11_whole_110 : decode cX11_whole 110 = .ok (.ifCond .ne 7, 3) := by decide +kernel
theorem dX11_whole_113 : decode cX11_whole 113 = .ok (.iconst 1, 1) := by decide +kernel
theorem dX11_whole_114 : decode cX11_whole 114 = .ok (.goto 4, 3) := by decide +kernel
theorem dX11_whole_117 : decode cX11_whole 117 = .ok (.iconst 0, 1) := by decide +kernel
theorem dX11_whole_118 : decode cX11_whole 118 = .ok (.ireturn, 1) := by decide +kernel
theorem dX11_reads_0 : decode cX11_reads 0 = .ok (.aload_n 0, 1) := by decide +kernel
theorem dX11_reads_1 : decode cX11_reads 1 = .ok (.iconst 0, 1) := by decide +kernel
theorem dX11_reads_2 : decode cX11_reads 2 = .ok (.putfield 143, 3) := by decide +kernel
theorem dX11_reads_5 : decode cX11_reads 5 = .ok (.aload_n 0, 1) := by decide +kernel
theorem dX11_reads_6 : decode cX11_reads 6 = .ok (.iconst 0, 1) := by decide +kernel
theorem dX11_reads_7 : decode cX11_reads 7 = .ok (.putfield 156, 3) := by decide +kernel
theorem dX11_reads_10 : decode cX11_reads 10 = .ok (.aload_n 0, 1) := by decide +kernel
theorem dX11_reads_11 : decode cX11_reads 11 = .ok (.iconst 0, 1) := by decide +kernel
theorem dX11_reads_12 : decode cX11_reads 12 = .ok (.putfield 173, 3) := by decide +kernel
theorem dX11_reads_15 : decode cX11_reads 15 = .ok (.aload_n 0, 1) := by decide +kernel
theorem dX11_reads_16 : decode cX11_reads 16 = .ok (.invokevirtual 163, 3) := by decide +kernel
theorem dX11_reads_19 : decode cX11_reads 19 = .ok (.aload_n 0, 1) := by decide +kernel
theorem dX11_reads_20 : decode cX11_reads 20 = .ok (.invokevirtual 179, 3) := by decide +kernel
theorem dX11_reads_23 : decode cX11_reads 23 = .ok (.ifCond .eq 7, 3) := by decide +kernel
theorem dX11_reads_26 : decode cX11_reads 26 = .ok (.iconst (-1), 1) := by decide +kernel
theorem dX11_reads_27 : decode cX11_reads 27 = .ok (.goto 7, 3) := by decide +kernel
theorem dX11_reads_30 : decode cX11_reads 30 = .ok (.aload_n 0, 1) := by decide +kernel
theorem dX11_reads_31 : decode cX11_reads 31 = .ok (.getfield 146, 3) := by decide +kernel
theorem dX11_reads_34 : decode cX11_reads 34 = .ok (.ireturn, 1) := by decide +kernel
theorem dX11_fault_0 : decode cX11_fault 0 = .ok (.aload_n 0, 1) := by decide +kernel
theorem dX11_fault_1 : decode cX11_fault 1 = .ok (.invokevirtual 182, 3) := by decide +kernel
theorem dX11_fault_4 : decode cX11_fault 4 = .ok (.ireturn, 1) := by decide +kernel
theorem dX11_rule_0 : decode cX11_rule 0 = .ok (.aload_n 0, 1) := by decide +kernel
theorem dX11_rule_1 : decode cX11_rule 1 = .ok (.getfield 186, 3) := by decide +kernel
theorem dX11_rule_4 : decode cX11_rule 4 = .ok (.bipush 6, 2) := by decide +kernel
theorem dX11_rule_6 : decode cX11_rule 6 = .ok (.if_icmp .eq 11, 3) := by decide +kernel
theorem dX11_rule_9 : decode cX11_rule 9 = .ok (.aload_n 0, 1) := by decide +kernel
theorem dX11_rule_10 : decode cX11_rule 10 = .ok (.invokevirtual 182, 3) := by decide +kernel
theorem dX11_rule_13 : decode cX11_rule 13 = .ok (.iconst (-1), 1) := by decide +kernel
theorem dX11_rule_14 : decode cX11_rule 14 = .ok (.if_icmp .eq 5, 3) := by decide +kernel
theorem dX11_rule_17 : decode cX11_rule 17 = .ok (.iconst (-1), 1) := by decide +kernel
theorem dX11_rule_18 : decode cX11_rule 18 = .ok (.ireturn, 1) := by decide +kernel
theorem dX11_rule_19 : decode cX11_rule 19 = .ok (.aload_n 0, 1) := by decide +kernel
theorem dX11_rule_20 : decode cX11_rule 20 = .ok (.getfield 23, 3) := by decide +kernel
theorem dX11_rule_23 : decode cX11_rule 23 = .ok (.aload_n 0, 1) := by decide +kernel
theorem dX11_rule_24 : decode cX11_rule 24 = .ok (.getfield 186, 3) := by decide +kernel
theorem dX11_rule_27 : decode cX11_rule 27 = .ok (.aload_n 0, 1) := by decide +kernel
theorem dX11_rule_28 : decode cX11_rule 28 = .ok (.getfield 156, 3) := by decide +kernel
theorem dX11_rule_31 : decode cX11_rule 31 = .ok (.iastore, 1) := by decide +kernel
theorem dX11_rule_32 : decode cX11_rule 32 = .ok (.aload_n 0, 1) := by decide +kernel
theorem dX11_rule_33 : decode cX11_rule 33 = .ok (.getfield 26, 3) := by decide +kernel
theorem dX11_rule_36 : decode cX11_rule 36 = .ok (.aload_n 0, 1) := by decide +kernel
theorem dX11_rule_37 : decode cX11_rule 37 = .ok (.getfield 186, 3) := by decide +kernel
theorem dX11_rule_40 : decode cX11_rule 40 = .ok (.aload_n 0, 1) := by decide +kernel
theorem dX11_rule_41 : decode cX11_rule 41 = .ok (.getfield 173, 3) := by decide +kernel
theorem dX11_rule_44 : decode cX11_rule 44 = .ok (.iastore, 1) := by decide +kernel
theorem dX11_rule_45 : decode cX11_rule 45 = .ok (.iconst 0, 1) := by decide +kernel
theorem dX11_rule_46 : decode cX11_rule 46 = .ok (.istore_n 1, 1) := by decide +kernel
theorem dX11_rule_47 : decode cX11_rule 47 = .ok (.iload_n 1, 1) := by decide +kernel
theorem dX11_rule_48 : decode cX11_rule 48 = .ok (.aload_n 0, 1) := by decide +kernel
theorem dX11_rule_49 : decode cX11_rule 49 = .ok (.getfield 156, 3) := by decide +kernel
theorem dX11_rule_52 : decode cX11_rule 52 = .ok (.if_icmp .ge 47, 3) := by decide +kernel
theorem dX11_rule_55 : decode cX11_rule 55 = .ok (.aload_n 0, 1) := by decide +kernel
theorem dX11_rule_56 : decode cX11_rule 56 = .ok (.getfield 29, 3) := by decide +kernel
theorem dX11_rule_59 : decode cX11_rule 59 = .ok (.iconst 5, 1) := by decide +kernel
theorem dX11_rule_60 : decode cX11_rule 60 = .ok (.aload_n 0, 1) := by decide +kernel
theorem dX11_rule_61 : decode cX11_rule 61 = .ok (.getfield 186, 3) := by decide +kernel
theorem dX11_rule_64 : decode cX11_rule 64 = .ok (.imul, 1) := by decide +kernel
theorem dX11_rule_65 : decode cX11_rule 65 = .ok (.iload_n 1, 1) := by decide +kernel
theorem dX11_rule_66 : decode cX11_rule 66 = .ok (.iadd, 1) := by decide +kernel
theorem dX11_rule_67 : decode cX11_rule 67 = .ok (.aload_n 0, 1) := by decide +kernel
theorem dX11_rule_68 : decode cX11_rule 68 = .ok (.getfield 17, 3) := by decide +kernel
theorem dX11_rule_71 : decode cX11_rule 71 = .ok (.iload_n 1, 1) := by decide +kernel
theorem dX11_rule_72 : decode cX11_rule 72 = .ok (.iaload, 1) := by decide +kernel
theorem dX11_rule_73 : decode cX11_rule 73 = .ok (.iastore, 1) := by decide +kernel
theorem dX11_rule_74 : decode cX11_rule 74 = .ok (.aload_n 0, 1) := by decide +kernel
theorem dX11_rule_75 : decode cX11_rule 75 = .ok (.getfield 32, 3) := by decide +kernel
theorem dX11_rule_78 : decode cX11_rule 78 = .ok (.iconst 5, 1) := by decide +kernel
theorem dX11_rule_79 : decode cX11_rule 79 = .ok (.aload_n 0, 1) := by decide +kernel
theorem dX11_rule_80 : decode cX11_rule 80 = .ok (.getfield 186, 3) := by decide +kernel
theorem dX11_rule_83 : decode cX11_rule 83 = .ok (.imul, 1) := by decide +kernel
theorem dX11_rule_84 : decode cX11_rule 84 = .ok (.iload_n 1, 1) := by decide +kernel
theorem dX11_rule_85 : decode cX11_rule 85 = .ok (.iadd, 1) := by decide +kernel
theorem dX11_rule_86 : decode cX11_rule 86 = .ok (.aload_n 0, 1) := by decide +kernel
theorem dX11_rule_87 : decode cX11_rule 87 = .ok (.getfield 20, 3) := by decide +kernel
theorem dX11_rule_90 : decode cX11_rule 90 = .ok (.iload_n 1, 1) := by decide +kernel
theorem dX11_rule_91 : decode cX11_rule 91 = .ok (.iaload, 1) := by decide +kernel
theorem dX11_rule_92 : decode cX11_rule 92 = .ok (.iastore, 1) := by decide +kernel
theorem dX11_rule_93 : decode cX11_rule 93 = .ok (.iinc 1 1, 3) := by decide +kernel
theorem dX11_rule_96 : decode cX11_rule 96 = .ok (.goto (-49), 3) := by decide +kernel
theorem dX11_rule_99 : decode cX11_rule 99 = .ok (.aload_n 0, 1) := by decide +kernel
theorem dX11_rule_100 : decode cX11_rule 100 = .ok (.iconst 0, 1) := by decide +kernel
theorem dX11_rule_101 : decode cX11_rule 101 = .ok (.putfield 136, 3) := by decide +kernel
theorem dX11_rule_104 : decode cX11_rule 104 = .ok (.aload_n 0, 1) := by decide +kernel
theorem dX11_rule_105 : decode cX11_rule 105 = .ok (.dup, 1) := by decide +kernel
theorem dX11_rule_106 : decode cX11_rule 106 = .ok (.getfield 186, 3) := by decide +kernel
theorem dX11_rule_109 : decode cX11_rule 109 = .ok (.iconst 1, 1) := by decide +kernel
theorem dX11_rule_110 : decode cX11_rule 110 = .ok (.iadd, 1) := by decide +kernel
theorem dX11_rule_111 : decode cX11_rule 111 = .ok (.putfield 186, 3) := by decide +kernel
theorem dX11_rule_114 : decode cX11_rule 114 = .ok (.aload_n 0, 1) := by decide +kernel
theorem dX11_rule_115 : decode cX11_rule 115 = .ok (.getfield 186, 3) := by decide +kernel
theorem dX11_rule_118 : decode cX11_rule 118 = .ok (.iconst 1, 1) := by decide +kernel
theorem dX11_rule_119 : decode cX11_rule 119 = .ok (.isub, 1) := by decide +kernel
theorem dX11_rule_120 : decode cX11_rule 120 = .ok (.ireturn, 1) := by decide +kernel
theorem dX11_isTerm_0 : decode cX11_isTerm 0 = .ok (.iload_n 1, 1) := by decide +kernel
theorem dX11_isTerm_1 : decode cX11_isTerm 1 = .ok (.i2l, 1) := by decide +kernel
theorem dX11_isTerm_2 : decode cX11_isTerm 2 = .ok (.lconst 0, 1) := by decide +kernel
theorem dX11_isTerm_3 : decode cX11_isTerm 3 = .ok (.aload_n 0, 1) := by decide +kernel
theorem dX11_isTerm_4 : decode cX11_isTerm 4 = .ok (.getfield 186, 3) := by decide +kernel
theorem dX11_isTerm_7 : decode cX11_isTerm 7 = .ok (.iconst 1, 1) := by decide +kernel
theorem dX11_isTerm_8 : decode cX11_isTerm 8 = .ok (.isub, 1) := by decide +kernel
theorem dX11_isTerm_9 : decode cX11_isTerm 9 = .ok (.i2l, 1) := by decide +kernel
theorem dX11_isTerm_10 : decode cX11_isTerm 10 = .ok (.invokestatic 139, 3) := by decide +kernel
theorem dX11_isTerm_13 : decode cX11_isTerm 13 = .ok (.ifCond .eq 25, 3) := by decide +kernel
theorem dX11_isTerm_16 : decode cX11_isTerm 16 = .ok (.iload_n 2, 1) := by decide +kernel
theorem dX11_isTerm_17 : decode cX11_isTerm 17 = .ok (.i2l, 1) := by decide +kernel
theorem dX11_isTerm_18 : decode cX11_isTerm 18 = .ok (.lconst 0, 1) := by decide +kernel
theorem dX11_isTerm_19 : decode cX11_isTerm 19 = .ok (.aload_n 0, 1) := by decide +kernel
theorem dX11_isTerm_20 : decode cX11_isTerm 20 = .ok (.getfield 23, 3) := by decide +kernel
theorem dX11_isTerm_23 : decode cX11_isTerm 23 = .ok (.iload_n 1, 1) := by decide +kernel
theorem dX11_isTerm_24 : decode cX11_isTerm 24 = .ok (.iaload, 1) := by decide +kernel
theorem dX11_isTerm_25 : decode cX11_isTerm 25 = .ok (.iconst 1, 1) := by decide +kernel
theorem dX11_isTerm_26 : decode cX11_isTerm 26 = .ok (.isub, 1) := by decide +kernel
theorem dX11_isTerm_27 : decode cX11_isTerm 27 = .ok (.i2l, 1) := by decide +kernel
theorem dX11_isTerm_28 : decode cX11_isTerm 28 = .ok (.invokestatic 139, 3) := by decide +kernel
theorem dX11_isTerm_31 : decode cX11_isTerm 31 = .ok (.ifCond .eq 7, 3) := by decide +kernel
theorem dX11_isTerm_34 : decode cX11_isTerm 34 = .ok (.iconst 1, 1) := by decide +kernel
theorem dX11_isTerm_35 : decode cX11_isTerm 35 = .ok (.goto 4, 3) := by decide +kernel
theorem dX11_isTerm_38 : decode cX11_isTerm 38 = .ok (.iconst 0, 1) := by decide +kernel
theorem dX11_isTerm_39 : decode cX11_isTerm 39 = .ok (.ireturn, 1) := by decide +kernel
theorem dX11_told_0 : decode cX11_told 0 = .ok (.iload_n 1, 1) := by decide +kernel
theorem dX11_told_1 : decode cX11_told 1 = .ok (.i2l, 1) := by decide +kernel
theorem dX11_told_2 : decode cX11_told 2 = .ok (.lconst 0, 1) := by decide +kernel
theorem dX11_told_3 : decode cX11_told 3 = .ok (.aload_n 0, 1) := by decide +kernel
theorem dX11_told_4 : decode cX11_told 4 = .ok (.getfield 186, 3) := by decide +kernel
theorem dX11_told_7 : decode cX11_told 7 = .ok (.iconst 1, 1) := by decide +kernel
theorem dX11_told_8 : decode cX11_told 8 = .ok (.isub, 1) := by decide +kernel
theorem dX11_told_9 : decode cX11_told 9 = .ok (.i2l, 1) := by decide +kernel
theorem dX11_told_10 : decode cX11_told 10 = .ok (.invokestatic 139, 3) := by decide +kernel
theorem dX11_told_13 : decode cX11_told 13 = .ok (.ifCond .ne 6, 3) := by decide +kernel
theorem dX11_told_16 : decode cX11_told 16 = .ok (.ldc 189, 2) := by decide +kernel
theorem dX11_told_18 : decode cX11_told 18 = .ok (.ireturn, 1) := by decide +kernel
theorem dX11_told_19 : decode cX11_told 19 = .ok (.iload_n 2, 1) := by decide +kernel
theorem dX11_told_20 : decode cX11_told 20 = .ok (.ifCond .ne 10, 3) := by decide +kernel
theorem dX11_told_23 : decode cX11_told 23 = .ok (.aload_n 0, 1) := by decide +kernel
theorem dX11_told_24 : decode cX11_told 24 = .ok (.getfield 23, 3) := by decide +kernel
theorem dX11_told_27 : decode cX11_told 27 = .ok (.iload_n 1, 1) := by decide +kernel
theorem dX11_told_28 : decode cX11_told 28 = .ok (.iaload, 1) := by decide +kernel
theorem dX11_told_29 : decode cX11_told 29 = .ok (.ireturn, 1) := by decide +kernel
theorem dX11_told_30 : decode cX11_told 30 = .ok (.iload_n 2, 1) := by decide +kernel
theorem dX11_told_31 : decode cX11_told 31 = .ok (.iconst 1, 1) := by decide +kernel
theorem dX11_told_32 : decode cX11_told 32 = .ok (.if_icmp .ne 10, 3) := by decide +kernel
theorem dX11_told_35 : decode cX11_told 35 = .ok (.aload_n 0, 1) := by decide +kernel
theorem dX11_told_36 : decode cX11_told 36 = .ok (.getfield 26, 3) := by decide +kernel
theorem dX11_told_39 : decode cX11_told 39 = .ok (.iload_n 1, 1) := by decide +kernel
theorem dX11_told_40 : decode cX11_told 40 = .ok (.iaload, 1) := by decide +kernel
theorem dX11_told_41 : decode cX11_told 41 = .ok (.ireturn, 1) := by decide +kernel
theorem dX11_told_42 : decode cX11_told 42 = .ok (.iload_n 2, 1) := by decide +kernel
theorem dX11_told_43 : decode cX11_told 43 = .ok (.bipush 10, 2) := by decide +kernel
theorem dX11_told_45 : decode cX11_told 45 = .ok (.irem, 1) := by decide +kernel
theorem dX11_told_46 : decode cX11_told 46 = .ok (.istore_n 3, 1) := by decide +kernel
theorem dX11_told_47 : decode cX11_told 47 = .ok (.iload_n 2, 1) := by decide +kernel
theorem dX11_told_48 : decode cX11_told 48 = .ok (.i2l, 1) := by decide +kernel
theorem dX11_told_49 : decode cX11_told 49 = .ok (.ldc2_w 190, 3) := by decide +kernel
theorem dX11_told_52 : decode cX11_told 52 = .ok (.ldc2_w 192, 3) := by decide +kernel
theorem dX11_told_55 : decode cX11_told 55 = .ok (.invokestatic 139, 3) := by decide +kernel
theorem dX11_told_58 : decode cX11_told 58 = .ok (.ifCond .eq 12, 3) := by decide +kernel
theorem dX11_told_61 : decode cX11_told 61 = .ok (.aload_n 0, 1) := by decide +kernel
theorem dX11_told_62 : decode cX11_told 62 = .ok (.iload_n 1, 1) := by decide +kernel
theorem dX11_told_63 : decode cX11_told 63 = .ok (.iload_n 3, 1) := by decide +kernel
theorem dX11_told_64 : decode cX11_told 64 = .ok (.invokevirtual 194, 3) := by decide +kernel
theorem dX11_told_67 : decode cX11_told 67 = .ok (.ifCond .ne 6, 3) := by decide +kernel
theorem dX11_told_70 : decode cX11_told 70 = .ok (.ldc 189, 2) := by decide +kernel
theorem dX11_told_72 : decode cX11_told 72 = .ok (.ireturn, 1) := by decide +kernel
theorem dX11_told_73 : decode cX11_told 73 = .ok (.iload_n 2, 1) := by decide +kernel
theorem dX11_told_74 : decode cX11_told 74 = .ok (.bipush 20, 2) := by decide +kernel
theorem dX11_told_76 : decode cX11_told 76 = .ok (.if_icmp .ge 16, 3) := by decide +kernel
theorem dX11_told_79 : decode cX11_told 79 = .ok (.aload_n 0, 1) := by decide +kernel
theorem dX11_told_80 : decode cX11_told 80 = .ok (.getfield 29, 3) := by decide +kernel
theorem dX11_told_83 : decode cX11_told 83 = .ok (.iconst 5, 1) := by decide +kernel
theorem dX11_told_84 : decode cX11_told 84 = .ok (.iload_n 1, 1) := by decide +kernel
theorem dX11_told_85 : decode cX11_told 85 = .ok (.imul, 1) := by decide +kernel
theorem dX11_told_86 : decode cX11_told 86 = .ok (.iload_n 3, 1) := by decide +kernel
theorem dX11_told_87 : decode cX11_told 87 = .ok (.iadd, 1) := by decide +kernel
theorem dX11_told_88 : decode cX11_told 88 = .ok (.iaload, 1) := by decide +kernel
theorem dX11_told_89 : decode cX11_told 89 = .ok (.goto 13, 3) := by decide +kernel
theorem dX11_told_92 : decode cX11_told 92 = .ok (.aload_n 0, 1) := by decide +kernel
theorem dX11_told_93 : decode cX11_told 93 = .ok (.getfield 32, 3) := by decide +kernel
theorem dX11_told_96 : decode cX11_told 96 = .ok (.iconst 5, 1) := by decide +kernel
theorem dX11_told_97 : decode cX11_told 97 = .ok (.iload_n 1, 1) := by decide +kernel
theorem dX11_told_98 : decode cX11_told 98 = .ok (.imul, 1) := by decide +kernel
theorem dX11_told_99 : decode cX11_told 99 = .ok (.iload_n 3, 1) := by decide +kernel
theorem dX11_told_100 : decode cX11_told 100 = .ok (.iadd, 1) := by decide +kernel
theorem dX11_told_101 : decode cX11_told 101 = .ok (.iaload, 1) := by decide +kernel
theorem dX11_told_102 : decode cX11_told 102 = .ok (.ireturn, 1) := by decide +kernel
theorem dX11_range_0 : decode cX11_range 0 = .ok (.aload_n 0, 1) := by decide +kernel
theorem dX11_range_1 : decode cX11_range 1 = .ok (.iload_n 1, 1) := by decide +kernel
theorem dX11_range_2 : decode cX11_range 2 = .ok (.iload_n 2, 1) := by decide +kernel
theorem dX11_range_3 : decode cX11_range 3 = .ok (.invokevirtual 194, 3) := by decide +kernel
theorem dX11_range_6 : decode cX11_range 6 = .ok (.ifCond .eq 44, 3) := by decide +kernel
theorem dX11_range_9 : decode cX11_range 9 = .ok (.aload_n 0, 1) := by decide +kernel
theorem dX11_range_10 : decode cX11_range 10 = .ok (.getfield 35, 3) := by decide +kernel
theorem dX11_range_13 : decode cX11_range 13 = .ok (.iconst 5, 1) := by decide +kernel
theorem dX11_range_14 : decode cX11_range 14 = .ok (.iload_n 1, 1) := by decide +kernel
theorem dX11_range_15 : decode cX11_range 15 = .ok (.imul, 1) := by decide +kernel
theorem dX11_range_16 : decode cX11_range 16 = .ok (.iload_n 2, 1) := by decide +kernel
theorem dX11_range_17 : decode cX11_range 17 = .ok (.iadd, 1) := by decide +kernel
theorem dX11_range_18 : decode cX11_range 18 = .ok (.iaload, 1) := by decide +kernel
theorem dX11_range_19 : decode cX11_range 19 = .ok (.ifCond .gt 31, 3) := by decide +kernel
theorem dX11_range_22 : decode cX11_range 22 = .ok (.iload 4, 2) := by decide +kernel
theorem dX11_range_24 : decode cX11_range 24 = .ok (.i2l, 1) := by decide +kernel
theorem dX11_range_25 : decode cX11_range 25 = .ok (.lconst 1, 1) := by decide +kernel
theorem dX11_range_26 : decode cX11_range 26 = .ok (.ldc2_w 198, 3) := by decide +kernel
theorem dX11_range_29 : decode cX11_range 29 = .ok (.invokestatic 139, 3) := by decide +kernel
theorem dX11_range_32 : decode cX11_range 32 = .ok (.ifCond .eq 18, 3) := by decide +kernel
theorem dX11_range_35 : decode cX11_range 35 = .ok (.iload 5, 2) := by decide +kernel
theorem dX11_range_37 : decode cX11_range 37 = .ok (.i2l, 1) := by decide +kernel
theorem dX11_range_38 : decode cX11_range 38 = .ok (.ldc2_w 130, 3) := by decide +kernel
theorem dX11_range_41 : decode cX11_range 41 = .ok (.ldc2_w 200, 3) := by decide +kernel
theorem dX11_range_44 : decode cX11_range 44 = .ok (.invokestatic 139, 3) := by decide +kernel
theorem dX11_range_47 : decode cX11_range 47 = .ok (.ifCond .ne 5, 3) := by decide +kernel
theorem dX11_range_50 : decode cX11_range 50 = .ok (.iconst (-1), 1) := by decide +kernel
theorem dX11_range_51 : decode cX11_range 51 = .ok (.ireturn, 1) := by decide +kernel
theorem dX11_range_52 : decode cX11_range 52 = .ok (.aload_n 0, 1) := by decide +kernel
theorem dX11_range_53 : decode cX11_range 53 = .ok (.getfield 29, 3) := by decide +kernel
theorem dX11_range_56 : decode cX11_range 56 = .ok (.iconst 5, 1) := by decide +kernel
theorem dX11_range_57 : decode cX11_range 57 = .ok (.iload_n 1, 1) := by decide +kernel
theorem dX11_range_58 : decode cX11_range 58 = .ok (.imul, 1) := by decide +kernel
theorem dX11_range_59 : decode cX11_range 59 = .ok (.iload_n 2, 1) := by decide +kernel
theorem dX11_range_60 : decode cX11_range 60 = .ok (.iadd, 1) := by decide +kernel
theorem dX11_range_61 : decode cX11_range 61 = .ok (.iaload, 1) := by decide +kernel
theorem dX11_range_62 : decode cX11_range 62 = .ok (.istore 6, 2) := by decide +kernel
theorem dX11_range_64 : decode cX11_range 64 = .ok (.iload_n 3, 1) := by decide +kernel
theorem dX11_range_65 : decode cX11_range 65 = .ok (.i2l, 1) := by decide +kernel
theorem dX11_range_66 : decode cX11_range 66 = .ok (.iload 4, 2) := by decide +kernel
theorem dX11_range_68 : decode cX11_range 68 = .ok (.i2l, 1) := by decide +kernel
theorem dX11_range_69 : decode cX11_range 69 = .ok (.iload 5, 2) := by decide +kernel
theorem dX11_range_71 : decode cX11_range 71 = .ok (.iconst 1, 1) := by decide +kernel
theorem dX11_range_72 : decode cX11_range 72 = .ok (.isub, 1) := by decide +kernel
theorem dX11_range_73 : decode cX11_range 73 = .ok (.i2l, 1) := by decide +kernel
theorem dX11_range_74 : decode cX11_range 74 = .ok (.lmul, 1) := by decide +kernel
theorem dX11_range_75 : decode cX11_range 75 = .ok (.ladd, 1) := by decide +kernel
theorem dX11_range_76 : decode cX11_range 76 = .ok (.lstore 7, 2) := by decide +kernel
theorem dX11_range_78 : decode cX11_range 78 = .ok (.iload 6, 2) := by decide +kernel
theorem dX11_range_80 : decode cX11_range 80 = .ok (.ifCond .ne 9, 3) := by decide +kernel
theorem dX11_range_83 : decode cX11_range 83 = .ok (.sipush (-999), 3) := by decide +kernel
theorem dX11_range_86 : decode cX11_range 86 = .ok (.goto 14, 3) := by decide +kernel
theorem dX11_range_89 : decode cX11_range 89 = .ok (.iload 6, 2) := by decide +kernel
theorem dX11_range_91 : decode cX11_range 91 = .ok (.iconst 1, 1) := by decide +kernel
theorem dX11_range_92 : decode cX11_range 92 = .ok (.if_icmp .ne 7, 3) := by decide +kernel
theorem dX11_range_95 : decode cX11_range 95 = .ok (.iconst 0, 1) := by decide +kernel
theorem dX11_range_96 : decode cX11_range 96 = .ok (.goto 4, 3) := by decide +kernel
theorem dX11_range_99 : decode cX11_range 99 = .ok (.iconst 1, 1) := by decide +kernel
theorem dX11_range_100 : decode cX11_range 100 = .ok (.istore 9, 2) := by decide +kernel
theorem dX11_range_102 : decode cX11_range 102 = .ok (.iload 6, 2) := by decide +kernel
theorem dX11_range_104 : decode cX11_range 104 = .ok (.iconst 1, 1) := by decide +kernel
theorem dX11_range_105 : decode cX11_range 105 = .ok (.if_icmp .ne 8, 3) := by decide +kernel
theorem dX11_range_108 : decode cX11_range 108 = .ok (.bipush 99, 2) := by decide +kernel
theorem dX11_range_110 : decode cX11_range 110 = .ok (.goto 6, 3) := by decide +kernel
theorem dX11_range_113 : decode cX11_range 113 = .ok (.sipush 999, 3) := by decide +kernel
theorem dX11_range_116 : decode cX11_range 116 = .ok (.istore 10, 2) := by decide +kernel
theorem dX11_range_118 : decode cX11_range 118 = .ok (.iload_n 3, 1) := by decide +kernel
theorem dX11_range_119 : decode cX11_range 119 = .ok (.iload 9, 2) := by decide +kernel
theorem dX11_range_121 : decode cX11_range 121 = .ok (.if_icmp .lt 12, 3) := by decide +kernel
theorem dX11_range_124 : decode cX11_range 124 = .ok (.lload 7, 2) := by decide +kernel
theorem dX11_range_126 : decode cX11_range 126 = .ok (.iload 10, 2) := by decide +kernel
theorem dX11_range_128 : decode cX11_range 128 = .ok (.i2l, 1) := by decide +kernel
theorem dX11_range_129 : decode cX11_range 129 = .ok (.lcmp, 1) := by decide +kernel
theorem dX11_range_130 : decode cX11_range 130 = .ok (.ifCond .le 5, 3) := by decide +kernel
theorem dX11_range_133 : decode cX11_range 133 = .ok (.iconst (-1), 1) := by decide +kernel
theorem dX11_range_134 : decode cX11_range 134 = .ok (.ireturn, 1) := by decide +kernel
theorem dX11_range_135 : decode cX11_range 135 = .ok (.iconst 0, 1) := by decide +kernel
theorem dX11_range_136 : decode cX11_range 136 = .ok (.istore 11, 2) := by decide +kernel
theorem dX11_range_138 : decode cX11_range 138 = .ok (.iload 11, 2) := by decide +kernel
theorem dX11_range_140 : decode cX11_range 140 = .ok (.iload 5, 2) := by decide +kernel
theorem dX11_range_142 : decode cX11_range 142 = .ok (.if_icmp .ge 68, 3) := by decide +kernel
theorem dX11_range_145 : decode cX11_range 145 = .ok (.iload_n 3, 1) := by decide +kernel
theorem dX11_range_146 : decode cX11_range 146 = .ok (.iload 11, 2) := by decide +kernel
theorem dX11_range_148 : decode cX11_range 148 = .ok (.iload 4, 2) := by decide +kernel
theorem dX11_range_150 : decode cX11_range 150 = .ok (.imul, 1) := by decide +kernel
theorem dX11_range_151 : decode cX11_range 151 = .ok (.iadd, 1) := by decide +kernel
theorem dX11_range_152 : decode cX11_range 152 = .ok (.istore 12, 2) := by decide +kernel
theorem dX11_range_154 : decode cX11_range 154 = .ok (.aload_n 0, 1) := by decide +kernel
theorem dX11_range_155 : decode cX11_range 155 = .ok (.getfield 38, 3) := by decide +kernel
theorem dX11_range_158 : decode cX11_range 158 = .ok (.bipush 40, 2) := by decide +kernel
theorem dX11_range_160 : decode cX11_range 160 = .ok (.iconst 5, 1) := by decide +kernel
theorem dX11_range_161 : decode cX11_range 161 = .ok (.iload_n 1, 1) := by decide +kernel
theorem dX11_range_162 : decode cX11_range 162 = .ok (.imul, 1) := by decide +kernel
theorem dX11_range_163 : decode cX11_range 163 = .ok (.iload_n 2, 1) := by decide +kernel
theorem dX11_range_164 : decode cX11_range 164 = .ok (.iadd, 1) := by decide +kernel
theorem dX11_range_165 : decode cX11_range 165 = .ok (.imul, 1) := by decide +kernel
theorem dX11_range_166 : decode cX11_range 166 = .ok (.iload 11, 2) := by decide +kernel
theorem dX11_range_168 : decode cX11_range 168 = .ok (.iadd, 1) := by decide +kernel
theorem dX11_range_169 : decode cX11_range 169 = .ok (.iload 6, 2) := by decide +kernel
theorem dX11_range_171 : decode cX11_range 171 = .ok (.ifCond .ne 8, 3) := by decide +kernel
theorem dX11_range_174 : decode cX11_range 174 = .ok (.iload 12, 2) := by decide +kernel
theorem dX11_range_176 : decode cX11_range 176 = .ok (.goto 27, 3) := by decide +kernel
theorem dX11_range_179 : decode cX11_range 179 = .ok (.iload 6, 2) := by decide +kernel
theorem dX11_range_181 : decode cX11_range 181 = .ok (.iconst 1, 1) := by decide +kernel
theorem dX11_range_182 : decode cX11_range 182 = .ok (.if_icmp .ne 11, 3) := by decide +kernel
theorem dX11_range_185 : decode cX11_range 185 = .ok (.iload 12, 2) := by decide +kernel
theorem dX11_range_187 : decode cX11_range 187 = .ok (.iload 12, 2) := by decide +kernel
theorem dX11_range_189 : decode cX11_range 189 = .ok (.imul, 1) := by decide +kernel
theorem dX11_range_190 : decode cX11_range 190 = .ok (.goto 13, 3) := by decide +kernel
theorem dX11_range_193 : decode cX11_range 193 = .ok (.ldc2_w 202, 3) := by decide +kernel
theorem dX11_range_196 : decode cX11_range 196 = .ok (.iload 12, 2) := by decide +kernel
theorem dX11_range_198 : decode cX11_range 198 = .ok (.i2l, 1) := by decide +kernel
theorem dX11_range_199 : decode cX11_range 199 = .ok (.invokestatic 204, 3) := by decide +kernel
theorem dX11_range_202 : decode cX11_range 202 = .ok (.l2i, 1) := by decide +kernel
theorem dX11_range_203 : decode cX11_range 203 = .ok (.iastore, 1) := by decide +kernel
theorem dX11_range_204 : decode cX11_range 204 = .ok (.iinc 11 1, 3) := by decide +kernel
theorem dX11_range_207 : decode cX11_range 207 = .ok (.goto (-69), 3) := by decide +kernel
theorem dX11_range_210 : decode cX11_range 210 = .ok (.aload_n 0, 1) := by decide +kernel
theorem dX11_range_211 : decode cX11_range 211 = .ok (.getfield 35, 3) := by decide +kernel
theorem dX11_range_214 : decode cX11_range 214 = .ok (.iconst 5, 1) := by decide +kernel
theorem dX11_range_215 : decode cX11_range 215 = .ok (.iload_n 1, 1) := by decide +kernel
theorem dX11_range_216 : decode cX11_range 216 = .ok (.imul, 1) := by decide +kernel
theorem dX11_range_217 : decode cX11_range 217 = .ok (.iload_n 2, 1) := by decide +kernel
theorem dX11_range_218 : decode cX11_range 218 = .ok (.iadd, 1) := by decide +kernel
theorem dX11_range_219 : decode cX11_range 219 = .ok (.iload 5, 2) := by decide +kernel
theorem dX11_range_221 : decode cX11_range 221 = .ok (.iastore, 1) := by decide +kernel
theorem dX11_range_222 : decode cX11_range 222 = .ok (.iload 5, 2) := by decide +kernel
theorem dX11_range_224 : decode cX11_range 224 = .ok (.ireturn, 1) := by decide +kernel
theorem dX11_valueOf_0 : decode cX11_valueOf 0 = .ok (.aload_n 0, 1) := by decide +kernel
theorem dX11_valueOf_1 : decode cX11_valueOf 1 = .ok (.getfield 38, 3) := by decide +kernel
theorem dX11_valueOf_4 : decode cX11_valueOf 4 = .ok (.bipush 40, 2) := by decide +kernel
theorem dX11_valueOf_6 : decode cX11_valueOf 6 = .ok (.iconst 5, 1) := by decide +kernel
theorem dX11_valueOf_7 : decode cX11_valueOf 7 = .ok (.iload_n 1, 1) := by decide +kernel
theorem dX11_valueOf_8 : decode cX11_valueOf 8 = .ok (.imul, 1) := by decide +kernel
theorem dX11_valueOf_9 : decode cX11_valueOf 9 = .ok (.iload_n 2, 1) := by decide +kernel
theorem dX11_valueOf_10 : decode cX11_valueOf 10 = .ok (.iadd, 1) := by decide +kernel
theorem dX11_valueOf_11 : decode cX11_valueOf 11 = .ok (.imul, 1) := by decide +kernel
theorem dX11_valueOf_12 : decode cX11_valueOf 12 = .ok (.iload_n 3, 1) := by decide +kernel
theorem dX11_valueOf_13 : decode cX11_valueOf 13 = .ok (.iadd, 1) := by decide +kernel
theorem dX11_valueOf_14 : decode cX11_valueOf 14 = .ok (.iaload, 1) := by decide +kernel
theorem dX11_valueOf_15 : decode cX11_valueOf 15 = .ok (.ireturn, 1) := by decide +kernel
theorem dX11_mark_0 : decode cX11_mark 0 = .ok (.aload_n 0, 1) := by decide +kernel
theorem dX11_mark_1 : decode cX11_mark 1 = .ok (.iload_n 1, 1) := by decide +kernel
theorem dX11_mark_2 : decode cX11_mark 2 = .ok (.iload_n 2, 1) := by decide +kernel
theorem dX11_mark_3 : decode cX11_mark 3 = .ok (.invokevirtual 194, 3) := by decide +kernel
theorem dX11_mark_6 : decode cX11_mark 6 = .ok (.ifCond .eq 35, 3) := by decide +kernel
theorem dX11_mark_9 : decode cX11_mark 9 = .ok (.iload_n 3, 1) := by decide +kernel
theorem dX11_mark_10 : decode cX11_mark 10 = .ok (.i2l, 1) := by decide +kernel
theorem dX11_mark_11 : decode cX11_mark 11 = .ok (.lconst 0, 1) := by decide +kernel
theorem dX11_mark_12 : decode cX11_mark 12 = .ok (.aload_n 0, 1) := by decide +kernel
theorem dX11_mark_13 : decode cX11_mark 13 = .ok (.getfield 35, 3) := by decide +kernel
theorem dX11_mark_16 : decode cX11_mark 16 = .ok (.iconst 5, 1) := by decide +kernel
theorem dX11_mark_17 : decode cX11_mark 17 = .ok (.iload_n 1, 1) := by decide +kernel
theorem dX11_mark_18 : decode cX11_mark 18 = .ok (.imul, 1) := by decide +kernel
theorem dX11_mark_19 : decode cX11_mark 19 = .ok (.iload_n 2, 1) := by decide +kernel
theorem dX11_mark_20 : decode cX11_mark 20 = .ok (.iadd, 1) := by decide +kernel
theorem dX11_mark_21 : decode cX11_mark 21 = .ok (.iaload, 1) := by decide +kernel
theorem dX11_mark_22 : decode cX11_mark 22 = .ok (.iconst 1, 1) := by decide +kernel
theorem dX11_mark_23 : decode cX11_mark 23 = .ok (.isub, 1) := by decide +kernel
theorem dX11_mark_24 : decode cX11_mark 24 = .ok (.i2l, 1) := by decide +kernel
theorem dX11_mark_25 : decode cX11_mark 25 = .ok (.invokestatic 139, 3) := by decide +kernel
theorem dX11_mark_28 : decode cX11_mark 28 = .ok (.ifCond .eq 13, 3) := by decide +kernel
theorem dX11_mark_31 : decode cX11_mark 31 = .ok (.aload_n 0, 1) := by decide +kernel
theorem dX11_mark_32 : decode cX11_mark 32 = .ok (.iload_n 1, 1) := by decide +kernel
theorem dX11_mark_33 : decode cX11_mark 33 = .ok (.iload_n 2, 1) := by decide +kernel
theorem dX11_mark_34 : decode cX11_mark 34 = .ok (.iload_n 3, 1) := by decide +kernel
theorem dX11_mark_35 : decode cX11_mark 35 = .ok (.invokevirtual 207, 3) := by decide +kernel
theorem dX11_mark_38 : decode cX11_mark 38 = .ok (.goto 5, 3) := by decide +kernel
theorem dX11_mark_41 : decode cX11_mark 41 = .ok (.ldc 189, 2) := by decide +kernel
theorem dX11_mark_43 : decode cX11_mark 43 = .ok (.ireturn, 1) := by decide +kernel
theorem dX11_isChart_0 : decode cX11_isChart 0 = .ok (.iload_n 1, 1) := by decide +kernel
theorem dX11_isChart_1 : decode cX11_isChart 1 = .ok (.i2l, 1) := by decide +kernel
theorem dX11_isChart_2 : decode cX11_isChart 2 = .ok (.lconst 0, 1) := by decide +kernel
theorem dX11_isChart_3 : decode cX11_isChart 3 = .ok (.aload_n 0, 1) := by decide +kernel
theorem dX11_isChart_4 : decode cX11_isChart 4 = .ok (.getfield 211, 3) := by decide +kernel
theorem dX11_isChart_7 : decode cX11_isChart 7 = .ok (.iconst 1, 1) := by decide +kernel
theorem dX11_isChart_8 : decode cX11_isChart 8 = .ok (.isub, 1) := by decide +kernel
theorem dX11_isChart_9 : decode cX11_isChart 9 = .ok (.i2l, 1) := by decide +kernel
theorem dX11_isChart_10 : decode cX11_isChart 10 = .ok (.invokestatic 139, 3) := by decide +kernel
theorem dX11_isChart_13 : decode cX11_isChart 13 = .ok (.ireturn, 1) := by decide +kernel
theorem dX11_pagesOf_0 : decode cX11_pagesOf 0 = .ok (.aload_n 0, 1) := by decide +kernel
theorem dX11_pagesOf_1 : decode cX11_pagesOf 1 = .ok (.getfield 23, 3) := by decide +kernel
theorem dX11_pagesOf_4 : decode cX11_pagesOf 4 = .ok (.aload_n 0, 1) := by decide +kernel
theorem dX11_pagesOf_5 : decode cX11_pagesOf 5 = .ok (.getfield 41, 3) := by decide +kernel
theorem dX11_pagesOf_8 : decode cX11_pagesOf 8 = .ok (.iload_n 1, 1) := by decide +kernel
theorem dX11_pagesOf_9 : decode cX11_pagesOf 9 = .ok (.iaload, 1) := by decide +kernel
theorem dX11_pagesOf_10 : decode cX11_pagesOf 10 = .ok (.iaload, 1) := by decide +kernel
theorem dX11_pagesOf_11 : decode cX11_pagesOf 11 = .ok (.iconst 2, 1) := by decide +kernel
theorem dX11_pagesOf_12 : decode cX11_pagesOf 12 = .ok (.isub, 1) := by decide +kernel
theorem dX11_pagesOf_13 : decode cX11_pagesOf 13 = .ok (.ireturn, 1) := by decide +kernel
theorem dX11_isModulus_0 : decode cX11_isModulus 0 = .ok (.iload_n 0, 1) := by decide +kernel
theorem dX11_isModulus_1 : decode cX11_isModulus 1 = .ok (.ifCond .lt 37, 3) := by decide +kernel
theorem dX11_isModulus_4 : decode cX11_isModulus 4 = .ok (.iload_n 0, 1) := by decide +kernel
theorem dX11_isModulus_5 : decode cX11_isModulus 5 = .ok (.bipush 100, 2) := by decide +kernel
theorem dX11_isModulus_7 : decode cX11_isModulus 7 = .ok (.idiv, 1) := by decide +kernel
theorem dX11_isModulus_8 : decode cX11_isModulus 8 = .ok (.i2l, 1) := by decide +kernel
theorem dX11_isModulus_9 : decode cX11_isModulus 9 = .ok (.lconst 1, 1) := by decide +kernel
theorem dX11_isModulus_10 : decode cX11_isModulus 10 = .ok (.ldc2_w 214, 3) := by decide +kernel
theorem dX11_isModulus_13 : decode cX11_isModulus 13 = .ok (.invokestatic 139, 3) := by decide +kernel
theorem dX11_isModulus_16 : decode cX11_isModulus 16 = .ok (.ifCond .eq 22, 3) := by decide +kernel
theorem dX11_isModulus_19 : decode cX11_isModulus 19 = .ok (.iload_n 0, 1) := by decide +kernel
theorem dX11_isModulus_20 : decode cX11_isModulus 20 = .ok (.bipush 100, 2) := by decide +kernel
theorem dX11_isModulus_22 : decode cX11_isModulus 22 = .ok (.irem, 1) := by decide +kernel
theorem dX11_isModulus_23 : decode cX11_isModulus 23 = .ok (.i2l, 1) := by decide +kernel
theorem dX11_isModulus_24 : decode cX11_isModulus 24 = .ok (.lconst 1, 1) := by decide +kernel
theorem dX11_isModulus_25 : decode cX11_isModulus 25 = .ok (.ldc2_w 214, 3) := by decide +kernel
theorem dX11_isModulus_28 : decode cX11_isModulus 28 = .ok (.invokestatic 139, 3) := by decide +kernel
theorem dX11_isModulus_31 : decode cX11_isModulus 31 = .ok (.ifCond .eq 7, 3) := by decide +kernel
theorem dX11_isModulus_34 : decode cX11_isModulus 34 = .ok (.iconst 1, 1) := by decide +kernel
theorem dX11_isModulus_35 : decode cX11_isModulus 35 = .ok (.goto 4, 3) := by decide +kernel
theorem dX11_isModulus_38 : decode cX11_isModulus 38 = .ok (.iconst 0, 1) := by decide +kernel
theorem dX11_isModulus_39 : decode cX11_isModulus 39 = .ok (.ireturn, 1) := by decide +kernel
theorem dX11_chart_0 : decode cX11_chart 0 = .ok (.iload_n 1, 1) := by decide +kernel
theorem dX11_chart_1 : decode cX11_chart 1 = .ok (.i2l, 1) := by decide +kernel
theorem dX11_chart_2 : decode cX11_chart 2 = .ok (.lconst 0, 1) := by decide +kernel
theorem dX11_chart_3 : decode cX11_chart 3 = .ok (.aload_n 0, 1) := by decide +kernel
theorem dX11_chart_4 : decode cX11_chart 4 = .ok (.getfield 186, 3) := by decide +kernel
theorem dX11_chart_7 : decode cX11_chart 7 = .ok (.iconst 1, 1) := by decide +kernel
theorem dX11_chart_8 : decode cX11_chart 8 = .ok (.isub, 1) := by decide +kernel
theorem dX11_chart_9 : decode cX11_chart 9 = .ok (.i2l, 1) := by decide +kernel
theorem dX11_chart_10 : decode cX11_chart 10 = .ok (.invokestatic 139, 3) := by decide +kernel
theorem dX11_chart_13 : decode cX11_chart 13 = .ok (.ifCond .eq 30, 3) := by decide +kernel
theorem dX11_chart_16 : decode cX11_chart 16 = .ok (.iload_n 2, 1) := by decide +kernel
theorem dX11_chart_17 : decode cX11_chart 17 = .ok (.ifCond .lt 26, 3) := by decide +kernel
theorem dX11_chart_20 : decode cX11_chart 20 = .ok (.iload_n 3, 1) := by decide +kernel
theorem dX11_chart_21 : decode cX11_chart 21 = .ok (.i2l, 1) := by decide +kernel
theorem dX11_chart_22 : decode cX11_chart 22 = .ok (.ldc2_w 190, 3) := by decide +kernel
theorem dX11_chart_25 : decode cX11_chart 25 = .ok (.ldc2_w 216, 3) := by decide +kernel
theorem dX11_chart_28 : decode cX11_chart 28 = .ok (.invokestatic 139, 3) := by decide +kernel
theorem dX11_chart_31 : decode cX11_chart 31 = .ok (.ifCond .eq 12, 3) := by decide +kernel
theorem dX11_chart_34 : decode cX11_chart 34 = .ok (.aload_n 0, 1) := by decide +kernel
theorem dX11_chart_35 : decode cX11_chart 35 = .ok (.getfield 211, 3) := by decide +kernel
theorem dX11_chart_38 : decode cX11_chart 38 = .ok (.bipush 6, 2) := by decide +kernel
theorem dX11_chart_40 : decode cX11_chart 40 = .ok (.if_icmp .ne 5, 3) := by decide +kernel
theorem dX11_chart_43 : decode cX11_chart 43 = .ok (.iconst (-1), 1) := by decide +kernel
theorem dX11_chart_44 : decode cX11_chart 44 = .ok (.ireturn, 1) := by decide +kernel
theorem dX11_chart_45 : decode cX11_chart 45 = .ok (.aload_n 0, 1) := by decide +kernel
theorem dX11_chart_46 : decode cX11_chart 46 = .ok (.getfield 23, 3) := by decide +kernel
theorem dX11_chart_49 : decode cX11_chart 49 = .ok (.iload_n 1, 1) := by decide +kernel
theorem dX11_chart_50 : decode cX11_chart 50 = .ok (.iaload, 1) := by decide +kernel
theorem dX11_chart_51 : decode cX11_chart 51 = .ok (.iconst 1, 1) := by decide +kernel
theorem dX11_chart_52 : decode cX11_chart 52 = .ok (.isub, 1) := by decide +kernel
theorem dX11_chart_53 : decode cX11_chart 53 = .ok (.istore 7, 2) := by decide +kernel
theorem dX11_chart_55 : decode cX11_chart 55 = .ok (.iload_n 2, 1) := by decide +kernel
theorem dX11_chart_56 : decode cX11_chart 56 = .ok (.istore 8, 2) := by decide +kernel
theorem dX11_chart_58 : decode cX11_chart 58 = .ok (.iconst 0, 1) := by decide +kernel
theorem dX11_chart_59 : decode cX11_chart 59 = .ok (.istore 9, 2) := by decide +kernel
theorem dX11_chart_61 : decode cX11_chart 61 = .ok (.iload 7, 2) := by decide +kernel
theorem dX11_chart_63 : decode cX11_chart 63 = .ok (.iconst 1, 1) := by decide +kernel
theorem dX11_chart_64 : decode cX11_chart 64 = .ok (.isub, 1) := by decide +kernel
theorem dX11_chart_65 : decode cX11_chart 65 = .ok (.istore 10, 2) := by decide +kernel
theorem dX11_chart_67 : decode cX11_chart 67 = .ok (.iload 10, 2) := by decide +kernel
theorem dX11_chart_69 : decode cX11_chart 69 = .ok (.ifCond .lt 74, 3) := by decide +kernel
theorem dX11_chart_72 : decode cX11_chart 72 = .ok (.iload 8, 2) := by decide +kernel
theorem dX11_chart_74 : decode cX11_chart 74 = .ok (.bipush 10, 2) := by decide +kernel
theorem dX11_chart_76 : decode cX11_chart 76 = .ok (.irem, 1) := by decide +kernel
theorem dX11_chart_77 : decode cX11_chart 77 = .ok (.istore 11, 2) := by decide +kernel
theorem dX11_chart_79 : decode cX11_chart 79 = .ok (.iload 8, 2) := by decide +kernel
theorem dX11_chart_81 : decode cX11_chart 81 = .ok (.bipush 10, 2) := by decide +kernel
theorem dX11_chart_83 : decode cX11_chart 83 = .ok (.idiv, 1) := by decide +kernel
theorem dX11_chart_84 : decode cX11_chart 84 = .ok (.istore 8, 2) := by decide +kernel
theorem dX11_chart_86 : decode cX11_chart 86 = .ok (.iload 11, 2) := by decide +kernel
theorem dX11_chart_88 : decode cX11_chart 88 = .ok (.i2l, 1) := by decide +kernel
theorem dX11_chart_89 : decode cX11_chart 89 = .ok (.lconst 1, 1) := by decide +kernel
theorem dX11_chart_90 : decode cX11_chart 90 = .ok (.iload 7, 2) := by decide +kernel
theorem dX11_chart_92 : decode cX11_chart 92 = .ok (.i2l, 1) := by decide +kernel
theorem dX11_chart_93 : decode cX11_chart 93 = .ok (.invokestatic 139, 3) := by decide +kernel
theorem dX11_chart_96 : decode cX11_chart 96 = .ok (.ifCond .eq 14, 3) := by decide +kernel
theorem dX11_chart_99 : decode cX11_chart 99 = .ok (.iload 9, 2) := by decide +kernel
theorem dX11_chart_101 : decode cX11_chart 101 = .ok (.iload 11, 2) := by decide +kernel
theorem dX11_chart_103 : decode cX11_chart 103 = .ok (.ishr, 1) := by decide +kernel
theorem dX11_chart_104 : decode cX11_chart 104 = .ok (.iconst 1, 1) := by decide +kernel
theorem dX11_chart_105 : decode cX11_chart 105 = .ok (.iand, 1) := by decide +kernel
theorem dX11_chart_106 : decode cX11_chart 106 = .ok (.iconst 1, 1) := by decide +kernel
theorem dX11_chart_107 : decode cX11_chart 107 = .ok (.if_icmp .ne 5, 3) := by decide +kernel
theorem dX11_chart_110 : decode cX11_chart 110 = .ok (.iconst (-1), 1) := by decide +kernel
theorem dX11_chart_111 : decode cX11_chart 111 = .ok (.ireturn, 1) := by decide +kernel
theorem dX11_chart_112 : decode cX11_chart 112 = .ok (.iload 9, 2) := by decide +kernel
theorem dX11_chart_114 : decode cX11_chart 114 = .ok (.iconst 1, 1) := by decide +kernel
theorem dX11_chart_115 : decode cX11_chart 115 = .ok (.iload 11, 2) := by decide +kernel
theorem dX11_chart_117 : decode cX11_chart 117 = .ok (.ishl, 1) := by decide +kernel
theorem dX11_chart_118 : decode cX11_chart 118 = .ok (.ior, 1) := by decide +kernel
theorem dX11_chart_119 : decode cX11_chart 119 = .ok (.istore 9, 2) := by decide +kernel
theorem dX11_chart_121 : decode cX11_chart 121 = .ok (.aload_n 0, 1) := by decide +kernel
theorem dX11_chart_122 : decode cX11_chart 122 = .ok (.getfield 44, 3) := by decide +kernel
theorem dX11_chart_125 : decode cX11_chart 125 = .ok (.iconst 4, 1) := by decide +kernel
theorem dX11_chart_126 : decode cX11_chart 126 = .ok (.aload_n 0, 1) := by decide +kernel
theorem dX11_chart_127 : decode cX11_chart 127 = .ok (.getfield 211, 3) := by decide +kernel
theorem dX11_chart_130 : decode cX11_chart 130 = .ok (.imul, 1) := by decide +kernel
theorem dX11_chart_131 : decode cX11_chart 131 = .ok (.iload 10, 2) := by decide +kernel
theorem dX11_chart_133 : decode cX11_chart 133 = .ok (.iadd, 1) := by decide +kernel
theorem dX11_chart_134 : decode cX11_chart 134 = .ok (.iload 11, 2) := by decide +kernel
theorem dX11_chart_136 : decode cX11_chart 136 = .ok (.iastore, 1) := by decide +kernel
theorem dX11_chart_137 : decode cX11_chart 137 = .ok (.iinc 10 (-1), 3) := by decide +kernel
theorem dX11_chart_140 : decode cX11_chart 140 = .ok (.goto (-73), 3) := by decide +kernel
theorem dX11_chart_143 : decode cX11_chart 143 = .ok (.iload 8, 2) := by decide +kernel
theorem dX11_chart_145 : decode cX11_chart 145 = .ok (.ifCond .le 5, 3) := by decide +kernel
theorem dX11_chart_148 : decode cX11_chart 148 = .ok (.iconst (-1), 1) := by decide +kernel
theorem dX11_chart_149 : decode cX11_chart 149 = .ok (.ireturn, 1) := by decide +kernel
theorem dX11_chart_150 : decode cX11_chart 150 = .ok (.iconst 0, 1) := by decide +kernel
theorem dX11_chart_151 : decode cX11_chart 151 = .ok (.istore 10, 2) := by decide +kernel
theorem dX11_chart_153 : decode cX11_chart 153 = .ok (.iload 10, 2) := by decide +kernel
theorem dX11_chart_155 : decode cX11_chart 155 = .ok (.iload 7, 2) := by decide +kernel
theorem dX11_chart_157 : decode cX11_chart 157 = .ok (.if_icmp .gt 25, 3) := by decide +kernel
theorem dX11_chart_160 : decode cX11_chart 160 = .ok (.aload_n 0, 1) := by decide +kernel
theorem dX11_chart_161 : decode cX11_chart 161 = .ok (.getfield 35, 3) := by decide +kernel
theorem dX11_chart_164 : decode cX11_chart 164 = .ok (.iconst 5, 1) := by decide +kernel
theorem dX11_chart_165 : decode cX11_chart 165 = .ok (.iload_n 1, 1) := by decide +kernel
theorem dX11_chart_166 : decode cX11_chart 166 = .ok (.imul, 1) := by decide +kernel
theorem dX11_chart_167 : decode cX11_chart 167 = .ok (.iload 10, 2) := by decide +kernel
theorem dX11_chart_169 : decode cX11_chart 169 = .ok (.iadd, 1) := by decide +kernel
theorem dX11_chart_170 : decode cX11_chart 170 = .ok (.iaload, 1) := by decide +kernel
theorem dX11_chart_171 : decode cX11_chart 171 = .ok (.ifCond .ne 5, 3) := by decide +kernel
theorem dX11_chart_174 : decode cX11_chart 174 = .ok (.iconst (-1), 1) := by decide +kernel
theorem dX11_chart_175 : decode cX11_chart 175 = .ok (.ireturn, 1) := by decide +kernel
theorem dX11_chart_176 : decode cX11_chart 176 = .ok (.iinc 10 1, 3) := by decide +kernel
theorem dX11_chart_179 : decode cX11_chart 179 = .ok (.goto (-26), 3) := by decide +kernel
theorem dX11_chart_182 : decode cX11_chart 182 = .ok (.iconst 0, 1) := by decide +kernel
theorem dX11_chart_183 : decode cX11_chart 183 = .ok (.istore 10, 2) := by decide +kernel
theorem dX11_chart_185 : decode cX11_chart 185 = .ok (.iload 10, 2) := by decide +kernel
theorem dX11_chart_187 : decode cX11_chart 187 = .ok (.iconst 3, 1) := by decide +kernel
theorem dX11_chart_188 : decode cX11_chart 188 = .ok (.if_icmp .ge 99, 3) := by decide +kernel
theorem dX11_chart_191 : decode cX11_chart 191 = .ok (.iload 10, 2) := by decide +kernel
theorem dX11_chart_193 : decode cX11_chart 193 = .ok (.ifCond .ne 8, 3) := by decide +kernel
theorem dX11_chart_196 : decode cX11_chart 196 = .ok (.iload 4, 2) := by decide +kernel
theorem dX11_chart_198 : decode cX11_chart 198 = .ok (.goto 16, 3) := by decide +kernel
theorem dX11_chart_201 : decode cX11_chart 201 = .ok (.iload 10, 2) := by decide +kernel
theorem dX11_chart_203 : decode cX11_chart 203 = .ok (.iconst 1, 1) := by decide +kernel
theorem dX11_chart_204 : decode cX11_chart 204 = .ok (.if_icmp .ne 8, 3) := by decide +kernel
theorem dX11_chart_207 : decode cX11_chart 207 = .ok (.iload 5, 2) := by decide +kernel
theorem dX11_chart_209 : decode cX11_chart 209 = .ok (.goto 5, 3) := by decide +kernel
theorem dX11_chart_212 : decode cX11_chart 212 = .ok (.iload 6, 2) := by decide +kernel
theorem dX11_chart_214 : decode cX11_chart 214 = .ok (.istore 11, 2) := by decide +kernel
theorem dX11_chart_216 : decode cX11_chart 216 = .ok (.iload 10, 2) := by decide +kernel
theorem dX11_chart_218 : decode cX11_chart 218 = .ok (.iload 7, 2) := by decide +kernel
theorem dX11_chart_220 : decode cX11_chart 220 = .ok (.iconst 1, 1) := by decide +kernel
theorem dX11_chart_221 : decode cX11_chart 221 = .ok (.isub, 1) := by decide +kernel
theorem dX11_chart_222 : decode cX11_chart 222 = .ok (.if_icmp .ge 14, 3) := by decide +kernel
theorem dX11_chart_225 : decode cX11_chart 225 = .ok (.iload 11, 2) := by decide +kernel
theorem dX11_chart_227 : decode cX11_chart 227 = .ok (.invokestatic 218, 3) := by decide +kernel
theorem dX11_chart_230 : decode cX11_chart 230 = .ok (.ifCond .ne 13, 3) := by decide +kernel
theorem dX11_chart_233 : decode cX11_chart 233 = .ok (.goto 8, 3) := by decide +kernel
theorem dX11_chart_236 : decode cX11_chart 236 = .ok (.iload 11, 2) := by decide +kernel
theorem dX11_chart_238 : decode cX11_chart 238 = .ok (.ifCond .eq 5, 3) := by decide +kernel
theorem dX11_chart_241 : decode cX11_chart 241 = .ok (.iconst (-1), 1) := by decide +kernel
theorem dX11_chart_242 : decode cX11_chart 242 = .ok (.ireturn, 1) := by decide +kernel
theorem dX11_chart_243 : decode cX11_chart 243 = .ok (.aload_n 0, 1) := by decide +kernel
theorem dX11_chart_244 : decode cX11_chart 244 = .ok (.getfield 50, 3) := by decide +kernel
theorem dX11_chart_247 : decode cX11_chart 247 = .ok (.iconst 3, 1) := by decide +kernel
theorem dX11_chart_248 : decode cX11_chart 248 = .ok (.aload_n 0, 1) := by decide +kernel
theorem dX11_chart_249 : decode cX11_chart 249 = .ok (.getfield 211, 3) := by decide +kernel
theorem dX11_chart_252 : decode cX11_chart 252 = .ok (.imul, 1) := by decide +kernel
theorem dX11_chart_253 : decode cX11_chart 253 = .ok (.iload 10, 2) := by decide +kernel
theorem dX11_chart_255 : decode cX11_chart 255 = .ok (.iadd, 1) := by decide +kernel
theorem dX11_chart_256 : decode cX11_chart 256 = .ok (.iload 11, 2) := by decide +kernel
theorem dX11_chart_258 : decode cX11_chart 258 = .ok (.bipush 100, 2) := by decide +kernel
theorem dX11_chart_260 : decode cX11_chart 260 = .ok (.idiv, 1) := by decide +kernel
theorem dX11_chart_261 : decode cX11_chart 261 = .ok (.iastore, 1) := by decide +kernel
theorem dX11_chart_262 : decode cX11_chart 262 = .ok (.aload_n 0, 1) := by decide +kernel
theorem dX11_chart_263 : decode cX11_chart 263 = .ok (.getfield 53, 3) := by decide +kernel
theorem dX11_chart_266 : decode cX11_chart 266 = .ok (.iconst 3, 1) := by decide +kernel
theorem dX11_chart_267 : decode cX11_chart 267 = .ok (.aload_n 0, 1) := by decide +kernel
theorem dX11_chart_268 : decode cX11_chart 268 = .ok (.getfield 211, 3) := by decide +kernel
theorem dX11_chart_271 : decode cX11_chart 271 = .ok (.imul, 1) := by decide +kernel
theorem dX11_chart_272 : decode cX11_chart 272 = .ok (.iload 10, 2) := by decide +kernel
theorem dX11_chart_274 : decode cX11_chart 274 = .ok (.iadd, 1) := by decide +kernel
theorem dX11_chart_275 : decode cX11_chart 275 = .ok (.iload 11, 2) := by decide +kernel
theorem dX11_chart_277 : decode cX11_chart 277 = .ok (.bipush 100, 2) := by decide +kernel
theorem dX11_chart_279 : decode cX11_chart 279 = .ok (.irem, 1) := by decide +kernel
theorem dX11_chart_280 : decode cX11_chart 280 = .ok (.iastore, 1) := by decide +kernel
theorem dX11_chart_281 : decode cX11_chart 281 = .ok (.iinc 10 1, 3) := by decide +kernel
theorem dX11_chart_284 : decode cX11_chart 284 = .ok (.goto (-99), 3) := by decide +kernel
theorem dX11_chart_287 : decode cX11_chart 287 = .ok (.aload_n 0, 1) := by decide +kernel
theorem dX11_chart_288 : decode cX11_chart 288 = .ok (.getfield 41, 3) := by decide +kernel
theorem dX11_chart_291 : decode cX11_chart 291 = .ok (.aload_n 0, 1) := by decide +kernel
theorem dX11_chart_292 : decode cX11_chart 292 = .ok (.getfield 211, 3) := by decide +kernel
theorem dX11_chart_295 : decode cX11_chart 295 = .ok (.iload_n 1, 1) := by decide +kernel
theorem dX11_chart_296 : decode cX11_chart 296 = .ok (.iastore, 1) := by decide +kernel
theorem dX11_chart_297 : decode cX11_chart 297 = .ok (.aload_n 0, 1) := by decide +kernel
theorem dX11_chart_298 : decode cX11_chart 298 = .ok (.getfield 47, 3) := by decide +kernel
theorem dX11_chart_301 : decode cX11_chart 301 = .ok (.aload_n 0, 1) := by decide +kernel
theorem dX11_chart_302 : decode cX11_chart 302 = .ok (.getfield 211, 3) := by decide +kernel
theorem dX11_chart_305 : decode cX11_chart 305 = .ok (.iload_n 3, 1) := by decide +kernel
theorem dX11_chart_306 : decode cX11_chart 306 = .ok (.iastore, 1) := by decide +kernel
theorem dX11_chart_307 : decode cX11_chart 307 = .ok (.aload_n 0, 1) := by decide +kernel
theorem dX11_chart_308 : decode cX11_chart 308 = .ok (.dup, 1) := by decide +kernel
theorem dX11_chart_309 : decode cX11_chart 309 = .ok (.getfield 211, 3) := by decide +kernel
theorem dX11_chart_312 : decode cX11_chart 312 = .ok (.iconst 1, 1) := by decide +kernel
theorem dX11_chart_313 : decode cX11_chart 313 = .ok (.iadd, 1) := by decide +kernel
theorem dX11_chart_314 : decode cX11_chart 314 = .ok (.putfield 211, 3) := by decide +kernel
theorem dX11_chart_317 : decode cX11_chart 317 = .ok (.aload_n 0, 1) := by decide +kernel
theorem dX11_chart_318 : decode cX11_chart 318 = .ok (.getfield 211, 3) := by decide +kernel
theorem dX11_chart_321 : decode cX11_chart 321 = .ok (.iconst 1, 1) := by decide +kernel
theorem dX11_chart_322 : decode cX11_chart 322 = .ok (.isub, 1) := by decide +kernel
theorem dX11_chart_323 : decode cX11_chart 323 = .ok (.ireturn, 1) := by decide +kernel
theorem dX11_reading_0 : decode cX11_reading 0 = .ok (.aload_n 0, 1) := by decide +kernel
theorem dX11_reading_1 : decode cX11_reading 1 = .ok (.iload_n 1, 1) := by decide +kernel
theorem dX11_reading_2 : decode cX11_reading 2 = .ok (.invokevirtual 221, 3) := by decide +kernel
theorem dX11_reading_5 : decode cX11_reading 5 = .ok (.ifCond .eq 7, 3) := by decide +kernel
theorem dX11_reading_8 : decode cX11_reading 8 = .ok (.iload_n 2, 1) := by decide +kernel
theorem dX11_reading_9 : decode cX11_reading 9 = .ok (.ifCond .ge 5, 3) := by decide +kernel
theorem dX11_reading_12 : decode cX11_reading 12 = .ok (.iconst 0, 1) := by decide +kernel
theorem dX11_reading_13 : decode cX11_reading 13 = .ok (.ireturn, 1) := by decide +kernel
theorem dX11_reading_14 : decode cX11_reading 14 = .ok (.aload_n 0, 1) := by decide +kernel
theorem dX11_reading_15 : decode cX11_reading 15 = .ok (.getfield 41, 3) := by decide +kernel
theorem dX11_reading_18 : decode cX11_reading 18 = .ok (.iload_n 1, 1) := by decide +kernel
theorem dX11_reading_19 : decode cX11_reading 19 = .ok (.iaload, 1) := by decide +kernel
theorem dX11_reading_20 : decode cX11_reading 20 = .ok (.istore_n 3, 1) := by decide +kernel
theorem dX11_reading_21 : decode cX11_reading 21 = .ok (.aload_n 0, 1) := by decide +kernel
theorem dX11_reading_22 : decode cX11_reading 22 = .ok (.getfield 23, 3) := by decide +kernel
theorem dX11_reading_25 : decode cX11_reading 25 = .ok (.iload_n 3, 1) := by decide +kernel
theorem dX11_reading_26 : decode cX11_reading 26 = .ok (.iaload, 1) := by decide +kernel
theorem dX11_reading_27 : decode cX11_reading 27 = .ok (.iconst 1, 1) := by decide +kernel
theorem dX11_reading_28 : decode cX11_reading 28 = .ok (.isub, 1) := by decide +kernel
theorem dX11_reading_29 : decode cX11_reading 29 = .ok (.istore 4, 2) := by decide +kernel
theorem dX11_reading_31 : decode cX11_reading 31 = .ok (.iload_n 2, 1) := by decide +kernel
theorem dX11_reading_32 : decode cX11_reading 32 = .ok (.istore 5, 2) := by decide +kernel
theorem dX11_reading_34 : decode cX11_reading 34 = .ok (.iload 4, 2) := by decide +kernel
theorem dX11_reading_36 : decode cX11_reading 36 = .ok (.iconst 1, 1) := by decide +kernel
theorem dX11_reading_37 : decode cX11_reading 37 = .ok (.isub, 1) := by decide +kernel
theorem dX11_reading_38 : decode cX11_reading 38 = .ok (.istore 6, 2) := by decide +kernel
theorem dX11_reading_40 : decode cX11_reading 40 = .ok (.iload 6, 2) := by decide +kernel
theorem dX11_reading_42 : decode cX11_reading 42 = .ok (.ifCond .lt 46, 3) := by decide +kernel
theorem dX11_reading_45 : decode cX11_reading 45 = .ok (.iload 5, 2) := by decide +kernel
theorem dX11_reading_47 : decode cX11_reading 47 = .ok (.bipush 100, 2) := by decide +kernel
theorem dX11_reading_49 : decode cX11_reading 49 = .ok (.irem, 1) := by decide +kernel
theorem dX11_reading_50 : decode cX11_reading 50 = .ok (.aload_n 0, 1) := by decide +kernel
theorem dX11_reading_51 : decode cX11_reading 51 = .ok (.getfield 35, 3) := by decide +kernel
theorem dX11_reading_54 : decode cX11_reading 54 = .ok (.iconst 5, 1) := by decide +kernel
theorem dX11_reading_55 : decode cX11_reading 55 = .ok (.iload_n 3, 1) := by decide +kernel
theorem dX11_reading_56 : decode cX11_reading 56 = .ok (.imul, 1) := by decide +kernel
theorem dX11_reading_57 : decode cX11_reading 57 = .ok (.aload_n 0, 1) := by decide +kernel
theorem dX11_reading_58 : decode cX11_reading 58 = .ok (.getfield 44, 3) := by decide +kernel
theorem dX11_reading_61 : decode cX11_reading 61 = .ok (.iconst 4, 1) := by decide +kernel
theorem dX11_reading_62 : decode cX11_reading 62 = .ok (.iload_n 1, 1) := by decide +kernel
theorem dX11_reading_63 : decode cX11_reading 63 = .ok (.imul, 1) := by decide +kernel
theorem dX11_reading_64 : decode cX11_reading 64 = .ok (.iload 6, 2) := by decide +kernel
theorem dX11_reading_66 : decode cX11_reading 66 = .ok (.iadd, 1) := by decide +kernel
theorem dX11_reading_67 : decode cX11_reading 67 = .ok (.iaload, 1) := by decide +kernel
theorem dX11_reading_68 : decode cX11_reading 68 = .ok (.iadd, 1) := by decide +kernel
theorem dX11_reading_69 : decode cX11_reading 69 = .ok (.iaload, 1) := by decide +kernel
theorem dX11_reading_70 : decode cX11_reading 70 = .ok (.if_icmp .lt 5, 3) := by decide +kernel
theorem dX11_reading_73 : decode cX11_reading 73 = .ok (.iconst 0, 1) := by decide +kernel
theorem dX11_reading_74 : decode cX11_reading 74 = .ok (.ireturn, 1) := by decide +kernel
theorem dX11_reading_75 : decode cX11_reading 75 = .ok (.iload 5, 2) := by decide +kernel
theorem dX11_reading_77 : decode cX11_reading 77 = .ok (.bipush 100, 2) := by decide +kernel
theorem dX11_reading_79 : decode cX11_reading 79 = .ok (.idiv, 1) := by decide +kernel
theorem dX11_reading_80 : decode cX11_reading 80 = .ok (.istore 5, 2) := by decide +kernel
theorem dX11_reading_82 : decode cX11_reading 82 = .ok (.iinc 6 (-1), 3) := by decide +kernel
theorem dX11_reading_85 : decode cX11_reading 85 = .ok (.goto (-45), 3) := by decide +kernel
theorem dX11_reading_88 : decode cX11_reading 88 = .ok (.iload 5, 2) := by decide +kernel
theorem dX11_reading_90 : decode cX11_reading 90 = .ok (.ifCond .le 5, 3) := by decide +kernel
theorem dX11_reading_93 : decode cX11_reading 93 = .ok (.iconst 0, 1) := by decide +kernel
theorem dX11_reading_94 : decode cX11_reading 94 = .ok (.ireturn, 1) := by decide +kernel
theorem dX11_reading_95 : decode cX11_reading 95 = .ok (.iload_n 2, 1) := by decide +kernel
theorem dX11_reading_96 : decode cX11_reading 96 = .ok (.istore 5, 2) := by decide +kernel
theorem dX11_reading_98 : decode cX11_reading 98 = .ok (.iload 4, 2) := by decide +kernel
theorem dX11_reading_100 : decode cX11_reading 100 = .ok (.iconst 1, 1) := by decide +kernel
theorem dX11_reading_101 : decode cX11_reading 101 = .ok (.isub, 1) := by decide +kernel
theorem dX11_reading_102 : decode cX11_reading 102 = .ok (.istore 6, 2) := by decide +kernel
theorem dX11_reading_104 : decode cX11_reading 104 = .ok (.iload 6, 2) := by decide +kernel
theorem dX11_reading_106 : decode cX11_reading 106 = .ok (.ifCond .lt 28, 3) := by decide +kernel
theorem dX11_reading_109 : decode cX11_reading 109 = .ok (.aload_n 0, 1) := by decide +kernel
theorem dX11_reading_110 : decode cX11_reading 110 = .ok (.getfield 69, 3) := by decide +kernel
theorem dX11_reading_113 : decode cX11_reading 113 = .ok (.iload 6, 2) := by decide +kernel
theorem dX11_reading_115 : decode cX11_reading 115 = .ok (.iload 5, 2) := by decide +kernel
theorem dX11_reading_117 : decode cX11_reading 117 = .ok (.bipush 100, 2) := by decide +kernel
theorem dX11_reading_119 : decode cX11_reading 119 = .ok (.irem, 1) := by decide +kernel
theorem dX11_reading_120 : decode cX11_reading 120 = .ok (.iastore, 1) := by decide +kernel
theorem dX11_reading_121 : decode cX11_reading 121 = .ok (.iload 5, 2) := by decide +kernel
theorem dX11_reading_123 : decode cX11_reading 123 = .ok (.bipush 100, 2) := by decide +kernel
theorem dX11_reading_125 : decode cX11_reading 125 = .ok (.idiv, 1) := by decide +kernel
theorem dX11_reading_126 : decode cX11_reading 126 = .ok (.istore 5, 2) := by decide +kernel
theorem dX11_reading_128 : decode cX11_reading 128 = .ok (.iinc 6 (-1), 3) := by decide +kernel
theorem dX11_reading_131 : decode cX11_reading 131 = .ok (.goto (-27), 3) := by decide +kernel
theorem dX11_reading_134 : decode cX11_reading 134 = .ok (.aload_n 0, 1) := by decide +kernel
theorem dX11_reading_135 : decode cX11_reading 135 = .ok (.iload_n 1, 1) := by decide +kernel
theorem dX11_reading_136 : decode cX11_reading 136 = .ok (.putfield 65, 3) := by decide +kernel
theorem dX11_reading_139 : decode cX11_reading 139 = .ok (.iconst 1, 1) := by decide +kernel
theorem dX11_reading_140 : decode cX11_reading 140 = .ok (.ireturn, 1) := by decide +kernel
theorem dX11_cut_0 : decode cX11_cut 0 = .ok (.lload_n 0, 1) := by decide +kernel
theorem dX11_cut_1 : decode cX11_cut 1 = .ok (.iload_n 2, 1) := by decide +kernel
theorem dX11_cut_2 : decode cX11_cut 2 = .ok (.i2l, 1) := by decide +kernel
theorem dX11_cut_3 : decode cX11_cut 3 = .ok (.lmul, 1) := by decide +kernel
theorem dX11_cut_4 : decode cX11_cut 4 = .ok (.ldc2_w 216, 3) := by decide +kernel
theorem dX11_cut_7 : decode cX11_cut 7 = .ok (.ldiv, 1) := by decide +kernel
theorem dX11_cut_8 : decode cX11_cut 8 = .ok (.lreturn, 1) := by decide +kernel
theorem dX11_swells_0 : decode cX11_swells 0 = .ok (.lload_n 2, 1) := by decide +kernel
theorem dX11_swells_1 : decode cX11_swells 1 = .ok (.aload_n 0, 1) := by decide +kernel
theorem dX11_swells_2 : decode cX11_swells 2 = .ok (.getfield 56, 3) := by decide +kernel
theorem dX11_swells_5 : decode cX11_swells 5 = .ok (.iload_n 1, 1) := by decide +kernel
theorem dX11_swells_6 : decode cX11_swells 6 = .ok (.iaload, 1) := by decide +kernel
theorem dX11_swells_7 : decode cX11_swells 7 = .ok (.i2l, 1) := by decide +kernel
theorem dX11_swells_8 : decode cX11_swells 8 = .ok (.lcmp, 1) := by decide +kernel
theorem dX11_swells_9 : decode cX11_swells 9 = .ok (.ifCond .gt 16, 3) := by decide +kernel
theorem dX11_swells_12 : decode cX11_swells 12 = .ok (.lload_n 2, 1) := by decide +kernel
theorem dX11_swells_13 : decode cX11_swells 13 = .ok (.lload_n 2, 1) := by decide +kernel
theorem dX11_swells_14 : decode cX11_swells 14 = .ok (.aload_n 0, 1) := by decide +kernel
theorem dX11_swells_15 : decode cX11_swells 15 = .ok (.getfield 59, 3) := by decide +kernel
theorem dX11_swells_18 : decode cX11_swells 18 = .ok (.iload_n 1, 1) := by decide +kernel
theorem dX11_swells_19 : decode cX11_swells 19 = .ok (.iaload, 1) := by decide +kernel
theorem dX11_swells_20 : decode cX11_swells 20 = .ok (.invokestatic 224, 3) := by decide +kernel
theorem dX11_swells_23 : decode cX11_swells 23 = .ok (.ladd, 1) := by decide +kernel
theorem dX11_swells_24 : decode cX11_swells 24 = .ok (.lreturn, 1) := by decide +kernel
theorem dX11_swells_25 : decode cX11_swells 25 = .ok (.lload_n 2, 1) := by decide +kernel
theorem dX11_swells_26 : decode cX11_swells 26 = .ok (.aload_n 0, 1) := by decide +kernel
theorem dX11_swells_27 : decode cX11_swells 27 = .ok (.getfield 56, 3) := by decide +kernel
theorem dX11_swells_30 : decode cX11_swells 30 = .ok (.iload_n 1, 1) := by decide +kernel
theorem dX11_swells_31 : decode cX11_swells 31 = .ok (.iaload, 1) := by decide +kernel
theorem dX11_swells_32 : decode cX11_swells 32 = .ok (.i2l, 1) := by decide +kernel
theorem dX11_swells_33 : decode cX11_swells 33 = .ok (.lsub, 1) := by decide +kernel
theorem dX11_swells_34 : decode cX11_swells 34 = .ok (.lstore 4, 2) := by decide +kernel
theorem dX11_swells_36 : decode cX11_swells 36 = .ok (.aload_n 0, 1) := by decide +kernel
theorem dX11_swells_37 : decode cX11_swells 37 = .ok (.getfield 56, 3) := by decide +kernel
theorem dX11_swells_40 : decode cX11_swells 40 = .ok (.iload_n 1, 1) := by decide +kernel
theorem dX11_swells_41 : decode cX11_swells 41 = .ok (.iaload, 1) := by decide +kernel
theorem dX11_swells_42 : decode cX11_swells 42 = .ok (.i2l, 1) := by decide +kernel
theorem dX11_swells_43 : decode cX11_swells 43 = .ok (.aload_n 0, 1) := by decide +kernel
theorem dX11_swells_44 : decode cX11_swells 44 = .ok (.getfield 56, 3) := by decide +kernel
theorem dX11_swells_47 : decode cX11_swells 47 = .ok (.iload_n 1, 1) := by decide +kernel
theorem dX11_swells_48 : decode cX11_swells 48 = .ok (.iaload, 1) := by decide +kernel
theorem dX11_swells_49 : decode cX11_swells 49 = .ok (.i2l, 1) := by decide +kernel
theorem dX11_swells_50 : decode cX11_swells 50 = .ok (.aload_n 0, 1) := by decide +kernel
theorem dX11_swells_51 : decode cX11_swells 51 = .ok (.getfield 59, 3) := by decide +kernel
theorem dX11_swells_54 : decode cX11_swells 54 = .ok (.iload_n 1, 1) := by decide +kernel
theorem dX11_swells_55 : decode cX11_swells 55 = .ok (.iaload, 1) := by decide +kernel
theorem dX11_swells_56 : decode cX11_swells 56 = .ok (.invokestatic 224, 3) := by decide +kernel
theorem dX11_swells_59 : decode cX11_swells 59 = .ok (.ladd, 1) := by decide +kernel
theorem dX11_swells_60 : decode cX11_swells 60 = .ok (.lload 4, 2) := by decide +kernel
theorem dX11_swells_62 : decode cX11_swells 62 = .ok (.ladd, 1) := by decide +kernel
theorem dX11_swells_63 : decode cX11_swells 63 = .ok (.lload 4, 2) := by decide +kernel
theorem dX11_swells_65 : decode cX11_swells 65 = .ok (.aload_n 0, 1) := by decide +kernel
theorem dX11_swells_66 : decode cX11_swells 66 = .ok (.getfield 62, 3) := by decide +kernel
theorem dX11_swells_69 : decode cX11_swells 69 = .ok (.iload_n 1, 1) := by decide +kernel
theorem dX11_swells_70 : decode cX11_swells 70 = .ok (.iaload, 1) := by decide +kernel
theorem dX11_swells_71 : decode cX11_swells 71 = .ok (.invokestatic 224, 3) := by decide +kernel
theorem dX11_swells_74 : decode cX11_swells 74 = .ok (.ladd, 1) := by decide +kernel
theorem dX11_swells_75 : decode cX11_swells 75 = .ok (.lreturn, 1) := by decide +kernel
theorem dX11_back_0 : decode cX11_back 0 = .ok (.ldc2_w 228, 3) := by decide +kernel
theorem dX11_back_3 : decode cX11_back 3 = .ok (.lstore 4, 2) := by decide +kernel
theorem dX11_back_5 : decode cX11_back 5 = .ok (.ldc2_w 230, 3) := by decide +kernel
theorem dX11_back_8 : decode cX11_back 8 = .ok (.lstore 6, 2) := by decide +kernel
theorem dX11_back_10 : decode cX11_back 10 = .ok (.lload 4, 2) := by decide +kernel
theorem dX11_back_12 : decode cX11_back 12 = .ok (.lload 6, 2) := by decide +kernel
theorem dX11_back_14 : decode cX11_back 14 = .ok (.lcmp, 1) := by decide +kernel
theorem dX11_back_15 : decode cX11_back 15 = .ok (.ifCond .ge 46, 3) := by decide +kernel
theorem dX11_back_18 : decode cX11_back 18 = .ok (.lload 4, 2) := by decide +kernel
theorem dX11_back_20 : decode cX11_back 20 = .ok (.lload 6, 2) := by decide +kernel
theorem dX11_back_22 : decode cX11_back 22 = .ok (.ladd, 1) := by decide +kernel
theorem dX11_back_23 : decode cX11_back 23 = .ok (.lconst 1, 1) := by decide +kernel
theorem dX11_back_24 : decode cX11_back 24 = .ok (.ladd, 1) := by decide +kernel
theorem dX11_back_25 : decode cX11_back 25 = .ok (.ldc2_w 130, 3) := by decide +kernel
theorem dX11_back_28 : decode cX11_back 28 = .ok (.invokestatic 132, 3) := by decide +kernel
theorem dX11_back_31 : decode cX11_back 31 = .ok (.lstore 8, 2) := by decide +kernel
theorem dX11_back_33 : decode cX11_back 33 = .ok (.aload_n 0, 1) := by decide +kernel
theorem dX11_back_34 : decode cX11_back 34 = .ok (.iload_n 1, 1) := by decide +kernel
theorem dX11_back_35 : decode cX11_back 35 = .ok (.lload 8, 2) := by decide +kernel
theorem dX11_back_37 : decode cX11_back 37 = .ok (.invokevirtual 232, 3) := by decide +kernel
theorem dX11_back_40 : decode cX11_back 40 = .ok (.lload_n 2, 1) := by decide +kernel
theorem dX11_back_41 : decode cX11_back 41 = .ok (.lcmp, 1) := by decide +kernel
theorem dX11_back_42 : decode cX11_back 42 = .ok (.ifCond .gt 10, 3) := by decide +kernel
theorem dX11_back_45 : decode cX11_back 45 = .ok (.lload 8, 2) := by decide +kernel
theorem dX11_back_47 : decode cX11_back 47 = .ok (.lstore 4, 2) := by decide +kernel
theorem dX11_back_49 : decode cX11_back 49 = .ok (.goto 9, 3) := by decide +kernel
theorem dX11_back_52 : decode cX11_back 52 = .ok (.lload 8, 2) := by decide +kernel
theorem dX11_back_54 : decode cX11_back 54 = .ok (.lconst 1, 1) := by decide +kernel
theorem dX11_back_55 : decode cX11_back 55 = .ok (.lsub, 1) := by decide +kernel
theorem dX11_back_56 : decode cX11_back 56 = .ok (.lstore 6, 2) := by decide +kernel
theorem dX11_back_58 : decode cX11_back 58 = .ok (.goto (-48), 3) := by decide +kernel
theorem dX11_back_61 : decode cX11_back 61 = .ok (.lload 4, 2) := by decide +kernel
theorem dX11_back_63 : decode cX11_back 63 = .ok (.lreturn, 1) := by decide +kernel
theorem dX11_paper_0 : decode cX11_paper 0 = .ok (.aload_n 0, 1) := by decide +kernel
theorem dX11_paper_1 : decode cX11_paper 1 = .ok (.iload_n 1, 1) := by decide +kernel
theorem dX11_paper_2 : decode cX11_paper 2 = .ok (.invokevirtual 221, 3) := by decide +kernel
theorem dX11_paper_5 : decode cX11_paper 5 = .ok (.ifCond .eq 46, 3) := by decide +kernel
theorem dX11_paper_8 : decode cX11_paper 8 = .ok (.iload_n 2, 1) := by decide +kernel
theorem dX11_paper_9 : decode cX11_paper 9 = .ok (.i2l, 1) := by decide +kernel
theorem dX11_paper_10 : decode cX11_paper 10 = .ok (.ldc2_w 236, 3) := by decide +kernel
theorem dX11_paper_13 : decode cX11_paper 13 = .ok (.ldc2_w 238, 3) := by decide +kernel
theorem dX11_paper_16 : decode cX11_paper 16 = .ok (.invokestatic 139, 3) := by decide +kernel
theorem dX11_paper_19 : decode cX11_paper 19 = .ok (.ifCond .eq 32, 3) := by decide +kernel
theorem dX11_paper_22 : decode cX11_paper 22 = .ok (.iload_n 3, 1) := by decide +kernel
theorem dX11_paper_23 : decode cX11_paper 23 = .ok (.i2l, 1) := by decide +kernel
theorem dX11_paper_24 : decode cX11_paper 24 = .ok (.ldc2_w 240, 3) := by decide +kernel
theorem dX11_paper_27 : decode cX11_paper 27 = .ok (.ldc2_w 214, 3) := by decide +kernel
theorem dX11_paper_30 : decode cX11_paper 30 = .ok (.invokestatic 139, 3) := by decide +kernel
theorem dX11_paper_33 : decode cX11_paper 33 = .ok (.ifCond .eq 18, 3) := by decide +kernel
theorem dX11_paper_36 : decode cX11_paper 36 = .ok (.iload 4, 2) := by decide +kernel
theorem dX11_paper_38 : decode cX11_paper 38 = .ok (.i2l, 1) := by decide +kernel
theorem dX11_paper_39 : decode cX11_paper 39 = .ok (.ldc2_w 240, 3) := by decide +kernel
theorem dX11_paper_42 : decode cX11_paper 42 = .ok (.ldc2_w 214, 3) := by decide +kernel
theorem dX11_paper_45 : decode cX11_paper 45 = .ok (.invokestatic 139, 3) := by decide +kernel
theorem dX11_paper_48 : decode cX11_paper 48 = .ok (.ifCond .ne 5, 3) := by decide +kernel
theorem dX11_paper_51 : decode cX11_paper 51 = .ok (.iconst 0, 1) := by decide +kernel
theorem dX11_paper_52 : decode cX11_paper 52 = .ok (.ireturn, 1) := by decide +kernel
theorem dX11_paper_53 : decode cX11_paper 53 = .ok (.aload_n 0, 1) := by decide +kernel
theorem dX11_paper_54 : decode cX11_paper 54 = .ok (.getfield 56, 3) := by decide +kernel
theorem dX11_paper_57 : decode cX11_paper 57 = .ok (.iload_n 1, 1) := by decide +kernel
theorem dX11_paper_58 : decode cX11_paper 58 = .ok (.iload_n 2, 1) := by decide +kernel
theorem dX11_paper_59 : decode cX11_paper 59 = .ok (.iastore, 1) := by decide +kernel
theorem dX11_paper_60 : decode cX11_paper 60 = .ok (.aload_n 0, 1) := by decide +kernel
theorem dX11_paper_61 : decode cX11_paper 61 = .ok (.getfield 59, 3) := by decide +kernel
theorem dX11_paper_64 : decode cX11_paper 64 = .ok (.iload_n 1, 1) := by decide +kernel
theorem dX11_paper_65 : decode cX11_paper 65 = .ok (.iload_n 3, 1) := by decide +kernel
theorem dX11_paper_66 : decode cX11_paper 66 = .ok (.iastore, 1) := by decide +kernel
theorem dX11_paper_67 : decode cX11_paper 67 = .ok (.aload_n 0, 1) := by decide +kernel
theorem dX11_paper_68 : decode cX11_paper 68 = .ok (.getfield 62, 3) := by decide +kernel
theorem dX11_paper_71 : decode cX11_paper 71 = .ok (.iload_n 1, 1) := by decide +kernel
theorem dX11_paper_72 : decode cX11_paper 72 = .ok (.iload 4, 2) := by decide +kernel
theorem dX11_paper_74 : decode cX11_paper 74 = .ok (.iastore, 1) := by decide +kernel
theorem dX11_paper_75 : decode cX11_paper 75 = .ok (.iconst 1, 1) := by decide +kernel
theorem dX11_paper_76 : decode cX11_paper 76 = .ok (.ireturn, 1) := by decide +kernel
theorem dX11_swelled_0 : decode cX11_swelled 0 = .ok (.aload_n 0, 1) := by decide +kernel
theorem dX11_swelled_1 : decode cX11_swelled 1 = .ok (.iload_n 1, 1) := by decide +kernel
theorem dX11_swelled_2 : decode cX11_swelled 2 = .ok (.invokevirtual 221, 3) := by decide +kernel
theorem dX11_swelled_5 : decode cX11_swelled 5 = .ok (.ifCond .eq 17, 3) := by decide +kernel
theorem dX11_swelled_8 : decode cX11_swelled 8 = .ok (.iload_n 2, 1) := by decide +kernel
theorem dX11_swelled_9 : decode cX11_swelled 9 = .ok (.i2l, 1) := by decide +kernel
theorem dX11_swelled_10 : decode cX11_swelled 10 = .ok (.ldc2_w 242, 3) := by decide +kernel
theorem dX11_swelled_13 : decode cX11_swelled 13 = .ok (.ldc2_w 244, 3) := by decide +kernel
theorem dX11_swelled_16 : decode cX11_swelled 16 = .ok (.invokestatic 139, 3) := by decide +kernel
theorem dX11_swelled_19 : decode cX11_swelled 19 = .ok (.ifCond .ne 6, 3) := by decide +kernel
theorem dX11_swelled_22 : decode cX11_swelled 22 = .ok (.ldc 189, 2) := by decide +kernel
theorem dX11_swelled_24 : decode cX11_swelled 24 = .ok (.ireturn, 1) := by decide +kernel
theorem dX11_swelled_25 : decode cX11_swelled 25 = .ok (.iload_n 3, 1) := by decide +kernel
theorem dX11_swelled_26 : decode cX11_swelled 26 = .ok (.ifCond .eq 13, 3) := by decide +kernel
theorem dX11_swelled_29 : decode cX11_swelled 29 = .ok (.aload_n 0, 1) := by decide +kernel
theorem dX11_swelled_30 : decode cX11_swelled 30 = .ok (.iload_n 1, 1) := by decide +kernel
theorem dX11_swelled_31 : decode cX11_swelled 31 = .ok (.iload_n 2, 1) := by decide +kernel
theorem dX11_swelled_32 : decode cX11_swelled 32 = .ok (.i2l, 1) := by decide +kernel
theorem dX11_swelled_33 : decode cX11_swelled 33 = .ok (.invokevirtual 246, 3) := by decide +kernel
theorem dX11_swelled_36 : decode cX11_swelled 36 = .ok (.goto 10, 3) := by decide +kernel
theorem dX11_swelled_39 : decode cX11_swelled 39 = .ok (.aload_n 0, 1) := by decide +kernel
theorem dX11_swelled_40 : decode cX11_swelled 40 = .ok (.iload_n 1, 1) := by decide +kernel
theorem dX11_swelled_41 : decode cX11_swelled 41 = .ok (.iload_n 2, 1) := by decide +kernel
theorem dX11_swelled_42 : decode cX11_swelled 42 = .ok (.i2l, 1) := by decide +kernel
theorem dX11_swelled_43 : decode cX11_swelled 43 = .ok (.invokevirtual 232, 3) := by decide +kernel
theorem dX11_swelled_46 : decode cX11_swelled 46 = .ok (.l2i, 1) := by decide +kernel
theorem dX11_swelled_47 : decode cX11_swelled 47 = .ok (.ireturn, 1) := by decide +kernel
theorem dX11_numberOf_0 : decode cX11_numberOf 0 = .ok (.aload_n 0, 1) := by decide +kernel
theorem dX11_numberOf_1 : decode cX11_numberOf 1 = .ok (.getfield 249, 3) := by decide +kernel
theorem dX11_numberOf_4 : decode cX11_numberOf 4 = .ok (.iconst 1, 1) := by decide +kernel
theorem dX11_numberOf_5 : decode cX11_numberOf 5 = .ok (.isub, 1) := by decide +kernel
theorem dX11_numberOf_6 : decode cX11_numberOf 6 = .ok (.istore 5, 2) := by decide +kernel
theorem dX11_numberOf_8 : decode cX11_numberOf 8 = .ok (.iload 5, 2) := by decide +kernel
theorem dX11_numberOf_10 : decode cX11_numberOf 10 = .ok (.ifCond .lt 62, 3) := by decide +kernel
theorem dX11_numberOf_13 : decode cX11_numberOf 13 = .ok (.aload_n 0, 1) := by decide +kernel
theorem dX11_numberOf_14 : decode cX11_numberOf 14 = .ok (.getfield 72, 3) := by decide +kernel
theorem dX11_numberOf_17 : decode cX11_numberOf 17 = .ok (.iload 5, 2) := by decide +kernel
theorem dX11_numberOf_19 : decode cX11_numberOf 19 = .ok (.iaload, 1) := by decide +kernel
theorem dX11_numberOf_20 : decode cX11_numberOf 20 = .ok (.iload_n 1, 1) := by decide +kernel
theorem dX11_numberOf_21 : decode cX11_numberOf 21 = .ok (.if_icmp .ne 45, 3) := by decide +kernel
theorem dX11_numberOf_24 : decode cX11_numberOf 24 = .ok (.aload_n 0, 1) := by decide +kernel
theorem dX11_numberOf_25 : decode cX11_numberOf 25 = .ok (.getfield 75, 3) := by decide +kernel
theorem dX11_numberOf_28 : decode cX11_numberOf 28 = .ok (.iload 5, 2) := by decide +kernel
theorem dX11_numberOf_30 : decode cX11_numberOf 30 = .ok (.iaload, 1) := by decide +kernel
theorem dX11_numberOf_31 : decode cX11_numberOf 31 = .ok (.iload_n 2, 1) := by decide +kernel
theorem dX11_numberOf_32 : decode cX11_numberOf 32 = .ok (.if_icmp .ne 34, 3) := by decide +kernel
theorem dX11_numberOf_35 : decode cX11_numberOf 35 = .ok (.aload_n 0, 1) := by decide +kernel
theorem dX11_numberOf_36 : decode cX11_numberOf 36 = .ok (.getfield 78, 3) := by decide +kernel
theorem dX11_numberOf_39 : decode cX11_numberOf 39 = .ok (.iload 5, 2) := by decide +kernel
theorem dX11_numberOf_41 : decode cX11_numberOf 41 = .ok (.iaload, 1) := by decide +kernel
theorem dX11_numberOf_42 : decode cX11_numberOf 42 = .ok (.iload_n 3, 1) := by decide +kernel
theorem dX11_numberOf_43 : decode cX11_numberOf 43 = .ok (.if_icmp .ne 23, 3) := by decide +kernel
theorem dX11_numberOf_46 : decode cX11_numberOf 46 = .ok (.aload_n 0, 1) := by decide +kernel
theorem dX11_numberOf_47 : decode cX11_numberOf 47 = .ok (.getfield 84, 3) := by decide +kernel
theorem dX11_numberOf_50 : decode cX11_numberOf 50 = .ok (.iload 5, 2) := by decide +kernel
theorem dX11_numberOf_52 : decode cX11_numberOf 52 = .ok (.iaload, 1) := by decide +kernel
theorem dX11_numberOf_53 : decode cX11_numberOf 53 = .ok (.iload 4, 2) := by decide +kernel
theorem dX11_numberOf_55 : decode cX11_numberOf 55 = .ok (.if_icmp .gt 11, 3) := by decide +kernel
theorem dX11_numberOf_58 : decode cX11_numberOf 58 = .ok (.aload_n 0, 1) := by decide +kernel
theorem dX11_numberOf_59 : decode cX11_numberOf 59 = .ok (.getfield 81, 3) := by decide +kernel
theorem dX11_numberOf_62 : decode cX11_numberOf 62 = .ok (.iload 5, 2) := by decide +kernel
theorem dX11_numberOf_64 : decode cX11_numberOf 64 = .ok (.iaload, 1) := by decide +kernel
theorem dX11_numberOf_65 : decode cX11_numberOf 65 = .ok (.ireturn, 1) := by decide +kernel
theorem dX11_numberOf_66 : decode cX11_numberOf 66 = .ok (.iinc 5 (-1), 3) := by decide +kernel
theorem dX11_numberOf_69 : decode cX11_numberOf 69 = .ok (.goto (-61), 3) := by decide +kernel
theorem dX11_numberOf_72 : decode cX11_numberOf 72 = .ok (.aload_n 0, 1) := by decide +kernel
theorem dX11_numberOf_73 : decode cX11_numberOf 73 = .ok (.getfield 41, 3) := by decide +kernel
theorem dX11_numberOf_76 : decode cX11_numberOf 76 = .ok (.iload_n 1, 1) := by decide +kernel
theorem dX11_numberOf_77 : decode cX11_numberOf 77 = .ok (.iaload, 1) := by decide +kernel
theorem dX11_numberOf_78 : decode cX11_numberOf 78 = .ok (.istore 5, 2) := by decide +kernel
theorem dX11_numberOf_80 : decode cX11_numberOf 80 = .ok (.aload_n 0, 1) := by decide +kernel
theorem dX11_numberOf_81 : decode cX11_numberOf 81 = .ok (.getfield 32, 3) := by decide +kernel
theorem dX11_numberOf_84 : decode cX11_numberOf 84 = .ok (.iconst 5, 1) := by decide +kernel
theorem dX11_numberOf_85 : decode cX11_numberOf 85 = .ok (.iload 5, 2) := by decide +kernel
theorem dX11_numberOf_87 : decode cX11_numberOf 87 = .ok (.imul, 1) := by decide +kernel
theorem dX11_numberOf_88 : decode cX11_numberOf 88 = .ok (.iload_n 2, 1) := by decide +kernel
theorem dX11_numberOf_89 : decode cX11_numberOf 89 = .ok (.iadd, 1) := by decide +kernel
theorem dX11_numberOf_90 : decode cX11_numberOf 90 = .ok (.iaload, 1) := by decide +kernel
theorem dX11_numberOf_91 : decode cX11_numberOf 91 = .ok (.aload_n 0, 1) := by decide +kernel
theorem dX11_numberOf_92 : decode cX11_numberOf 92 = .ok (.iload 5, 2) := by decide +kernel
theorem dX11_numberOf_94 : decode cX11_numberOf 94 = .ok (.iload_n 2, 1) := by decide +kernel
theorem dX11_numberOf_95 : decode cX11_numberOf 95 = .ok (.iload_n 3, 1) := by decide +kernel
theorem dX11_numberOf_96 : decode cX11_numberOf 96 = .ok (.invokevirtual 207, 3) := by decide +kernel
theorem dX11_numberOf_99 : decode cX11_numberOf 99 = .ok (.imul, 1) := by decide +kernel
theorem dX11_numberOf_100 : decode cX11_numberOf 100 = .ok (.ireturn, 1) := by decide +kernel
theorem dX11_mid_0 : decode cX11_mid 0 = .ok (.aload_n 0, 1) := by decide +kernel
theorem dX11_mid_1 : decode cX11_mid 1 = .ok (.getfield 50, 3) := by decide +kernel
theorem dX11_mid_4 : decode cX11_mid 4 = .ok (.iconst 3, 1) := by decide +kernel
theorem dX11_mid_5 : decode cX11_mid 5 = .ok (.iload_n 1, 1) := by decide +kernel
theorem dX11_mid_6 : decode cX11_mid 6 = .ok (.imul, 1) := by decide +kernel
theorem dX11_mid_7 : decode cX11_mid 7 = .ok (.iload_n 2, 1) := by decide +kernel
theorem dX11_mid_8 : decode cX11_mid 8 = .ok (.iadd, 1) := by decide +kernel
theorem dX11_mid_9 : decode cX11_mid 9 = .ok (.iaload, 1) := by decide +kernel
theorem dX11_mid_10 : decode cX11_mid 10 = .ok (.istore_n 3, 1) := by decide +kernel
theorem dX11_mid_11 : decode cX11_mid 11 = .ok (.aload_n 0, 1) := by decide +kernel
theorem dX11_mid_12 : decode cX11_mid 12 = .ok (.getfield 47, 3) := by decide +kernel
theorem dX11_mid_15 : decode cX11_mid 15 = .ok (.iload_n 1, 1) := by decide +kernel
theorem dX11_mid_16 : decode cX11_mid 16 = .ok (.iaload, 1) := by decide +kernel
theorem dX11_mid_17 : decode cX11_mid 17 = .ok (.iload_n 3, 1) := by decide +kernel
theorem dX11_mid_18 : decode cX11_mid 18 = .ok (.imul, 1) := by decide +kernel
theorem dX11_mid_19 : decode cX11_mid 19 = .ok (.iload_n 3, 1) := by decide +kernel
theorem dX11_mid_20 : decode cX11_mid 20 = .ok (.aload_n 0, 1) := by decide +kernel
theorem dX11_mid_21 : decode cX11_mid 21 = .ok (.getfield 53, 3) := by decide +kernel
theorem dX11_mid_24 : decode cX11_mid 24 = .ok (.iconst 3, 1) := by decide +kernel
theorem dX11_mid_25 : decode cX11_mid 25 = .ok (.iload_n 1, 1) := by decide +kernel
theorem dX11_mid_26 : decode cX11_mid 26 = .ok (.imul, 1) := by decide +kernel
theorem dX11_mid_27 : decode cX11_mid 27 = .ok (.iload_n 2, 1) := by decide +kernel
theorem dX11_mid_28 : decode cX11_mid 28 = .ok (.iadd, 1) := by decide +kernel
theorem dX11_mid_29 : decode cX11_mid 29 = .ok (.iaload, 1) := by decide +kernel
theorem dX11_mid_30 : decode cX11_mid 30 = .ok (.iadd, 1) := by decide +kernel
theorem dX11_mid_31 : decode cX11_mid 31 = .ok (.idiv, 1) := by decide +kernel
theorem dX11_mid_32 : decode cX11_mid 32 = .ok (.ireturn, 1) := by decide +kernel
theorem dX11_sumAt_0 : decode cX11_sumAt 0 = .ok (.aload_n 0, 1) := by decide +kernel
theorem dX11_sumAt_1 : decode cX11_sumAt 1 = .ok (.getfield 50, 3) := by decide +kernel
theorem dX11_sumAt_4 : decode cX11_sumAt 4 = .ok (.iconst 3, 1) := by decide +kernel
theorem dX11_sumAt_5 : decode cX11_sumAt 5 = .ok (.iload_n 1, 1) := by decide +kernel
theorem dX11_sumAt_6 : decode cX11_sumAt 6 = .ok (.imul, 1) := by decide +kernel
theorem dX11_sumAt_7 : decode cX11_sumAt 7 = .ok (.iload_n 2, 1) := by decide +kernel
theorem dX11_sumAt_8 : decode cX11_sumAt 8 = .ok (.iadd, 1) := by decide +kernel
theorem dX11_sumAt_9 : decode cX11_sumAt 9 = .ok (.iaload, 1) := by decide +kernel
theorem dX11_sumAt_10 : decode cX11_sumAt 10 = .ok (.i2l, 1) := by decide +kernel
theorem dX11_sumAt_11 : decode cX11_sumAt 11 = .ok (.lstore 5, 2) := by decide +kernel
theorem dX11_sumAt_13 : decode cX11_sumAt 13 = .ok (.aload_n 0, 1) := by decide +kernel
theorem dX11_sumAt_14 : decode cX11_sumAt 14 = .ok (.getfield 53, 3) := by decide +kernel
theorem dX11_sumAt_17 : decode cX11_sumAt 17 = .ok (.iconst 3, 1) := by decide +kernel
theorem dX11_sumAt_18 : decode cX11_sumAt 18 = .ok (.iload_n 1, 1) := by decide +kernel
theorem dX11_sumAt_19 : decode cX11_sumAt 19 = .ok (.imul, 1) := by decide +kernel
theorem dX11_sumAt_20 : decode cX11_sumAt 20 = .ok (.iload_n 2, 1) := by decide +kernel
theorem dX11_sumAt_21 : decode cX11_sumAt 21 = .ok (.iadd, 1) := by decide +kernel
theorem dX11_sumAt_22 : decode cX11_sumAt 22 = .ok (.iaload, 1) := by decide +kernel
theorem dX11_sumAt_23 : decode cX11_sumAt 23 = .ok (.i2l, 1) := by decide +kernel
theorem dX11_sumAt_24 : decode cX11_sumAt 24 = .ok (.lstore 7, 2) := by decide +kernel
theorem dX11_sumAt_26 : decode cX11_sumAt 26 = .ok (.lload_n 3, 1) := by decide +kernel
theorem dX11_sumAt_27 : decode cX11_sumAt 27 = .ok (.lload 5, 2) := by decide +kernel
theorem dX11_sumAt_29 : decode cX11_sumAt 29 = .ok (.lload 7, 2) := by decide +kernel
theorem dX11_sumAt_31 : decode cX11_sumAt 31 = .ok (.ladd, 1) := by decide +kernel
theorem dX11_sumAt_32 : decode cX11_sumAt 32 = .ok (.lmul, 1) := by decide +kernel
theorem dX11_sumAt_33 : decode cX11_sumAt 33 = .ok (.lload 5, 2) := by decide +kernel
theorem dX11_sumAt_35 : decode cX11_sumAt 35 = .ok (.lload 7, 2) := by decide +kernel
theorem dX11_sumAt_37 : decode cX11_sumAt 37 = .ok (.lmul, 1) := by decide +kernel
theorem dX11_sumAt_38 : decode cX11_sumAt 38 = .ok (.invokestatic 204, 3) := by decide +kernel
theorem dX11_sumAt_41 : decode cX11_sumAt 41 = .ok (.lreturn, 1) := by decide +kernel
theorem dX11_goes_0 : decode cX11_goes 0 = .ok (.aload_n 0, 1) := by decide +kernel
theorem dX11_goes_1 : decode cX11_goes 1 = .ok (.iload_n 1, 1) := by decide +kernel
theorem dX11_goes_2 : decode cX11_goes 2 = .ok (.aload_n 0, 1) := by decide +kernel
theorem dX11_goes_3 : decode cX11_goes 3 = .ok (.getfield 44, 3) := by decide +kernel
theorem dX11_goes_6 : decode cX11_goes 6 = .ok (.iconst 4, 1) := by decide +kernel
theorem dX11_goes_7 : decode cX11_goes 7 = .ok (.iload_n 1, 1) := by decide +kernel
theorem dX11_goes_8 : decode cX11_goes 8 = .ok (.imul, 1) := by decide +kernel
theorem dX11_goes_9 : decode cX11_goes 9 = .ok (.iaload, 1) := by decide +kernel
theorem dX11_goes_10 : decode cX11_goes 10 = .ok (.aload_n 0, 1) := by decide +kernel
theorem dX11_goes_11 : decode cX11_goes 11 = .ok (.getfield 105, 3) := by decide +kernel
theorem dX11_goes_14 : decode cX11_goes 14 = .ok (.iconst 0, 1) := by decide +kernel
theorem dX11_goes_15 : decode cX11_goes 15 = .ok (.iaload, 1) := by decide +kernel
theorem dX11_goes_16 : decode cX11_goes 16 = .ok (.iload_n 2, 1) := by decide +kernel
theorem dX11_goes_17 : decode cX11_goes 17 = .ok (.invokevirtual 252, 3) := by decide +kernel
theorem dX11_goes_20 : decode cX11_goes 20 = .ok (.i2l, 1) := by decide +kernel
theorem dX11_goes_21 : decode cX11_goes 21 = .ok (.lstore_n 3, 1) := by decide +kernel
theorem dX11_goes_22 : decode cX11_goes 22 = .ok (.iconst 0, 1) := by decide +kernel
theorem dX11_goes_23 : decode cX11_goes 23 = .ok (.istore 5, 2) := by decide +kernel
theorem dX11_goes_25 : decode cX11_goes 25 = .ok (.iload 5, 2) := by decide +kernel
theorem dX11_goes_27 : decode cX11_goes 27 = .ok (.aload_n 0, 1) := by decide +kernel
theorem dX11_goes_28 : decode cX11_goes 28 = .ok (.iload_n 1, 1) := by decide +kernel
theorem dX11_goes_29 : decode cX11_goes 29 = .ok (.invokevirtual 256, 3) := by decide +kernel
theorem dX11_goes_32 : decode cX11_goes 32 = .ok (.if_icmp .ge 170, 3) := by decide +kernel
theorem dX11_goes_35 : decode cX11_goes 35 = .ok (.aload_n 0, 1) := by decide +kernel
theorem dX11_goes_36 : decode cX11_goes 36 = .ok (.iload_n 1, 1) := by decide +kernel
theorem dX11_goes_37 : decode cX11_goes 37 = .ok (.aload_n 0, 1) := by decide +kernel
theorem dX11_goes_38 : decode cX11_goes 38 = .ok (.getfield 44, 3) := by decide +kernel
theorem dX11_goes_41 : decode cX11_goes 41 = .ok (.iconst 4, 1) := by decide +kernel
theorem dX11_goes_42 : decode cX11_goes 42 = .ok (.iload_n 1, 1) := by decide +kernel
theorem dX11_goes_43 : decode cX11_goes 43 = .ok (.imul, 1) := by decide +kernel
theorem dX11_goes_44 : decode cX11_goes 44 = .ok (.iload 5, 2) := by decide +kernel
theorem dX11_goes_46 : decode cX11_goes 46 = .ok (.iadd, 1) := by decide +kernel
theorem dX11_goes_47 : decode cX11_goes 47 = .ok (.iconst 1, 1) := by decide +kernel
theorem dX11_goes_48 : decode cX11_goes 48 = .ok (.iadd, 1) := by decide +kernel
theorem dX11_goes_49 : decode cX11_goes 49 = .ok (.iaload, 1) := by decide +kernel
theorem dX11_goes_50 : decode cX11_goes 50 = .ok (.aload_n 0, 1) := by decide +kernel
theorem dX11_goes_51 : decode cX11_goes 51 = .ok (.getfield 105, 3) := by decide +kernel
theorem dX11_goes_54 : decode cX11_goes 54 = .ok (.iload 5, 2) := by decide +kernel
theorem dX11_goes_56 : decode cX11_goes 56 = .ok (.iconst 1, 1) := by decide +kernel
theorem dX11_goes_57 : decode cX11_goes 57 = .ok (.iadd, 1) := by decide +kernel
theorem dX11_goes_58 : decode cX11_goes 58 = .ok (.iaload, 1) := by decide +kernel
theorem dX11_goes_59 : decode cX11_goes 59 = .ok (.iload_n 2, 1) := by decide +kernel
theorem dX11_goes_60 : decode cX11_goes 60 = .ok (.invokevirtual 252, 3) := by decide +kernel
theorem dX11_goes_63 : decode cX11_goes 63 = .ok (.i2l, 1) := by decide +kernel
theorem dX11_goes_64 : decode cX11_goes 64 = .ok (.lstore 6, 2) := by decide +kernel
theorem dX11_goes_66 : decode cX11_goes 66 = .ok (.aload_n 0, 1) := by decide +kernel
theorem dX11_goes_67 : decode cX11_goes 67 = .ok (.getfield 108, 3) := by decide +kernel
theorem dX11_goes_70 : decode cX11_goes 70 = .ok (.iload 5, 2) := by decide +kernel
theorem dX11_goes_72 : decode cX11_goes 72 = .ok (.aload_n 0, 1) := by decide +kernel
theorem dX11_goes_73 : decode cX11_goes 73 = .ok (.iload_n 1, 1) := by decide +kernel
theorem dX11_goes_74 : decode cX11_goes 74 = .ok (.aload_n 0, 1) := by decide +kernel
theorem dX11_goes_75 : decode cX11_goes 75 = .ok (.getfield 50, 3) := by decide +kernel
theorem dX11_goes_78 : decode cX11_goes 78 = .ok (.iconst 3, 1) := by decide +kernel
theorem dX11_goes_79 : decode cX11_goes 79 = .ok (.iload_n 1, 1) := by decide +kernel
theorem dX11_goes_80 : decode cX11_goes 80 = .ok (.imul, 1) := by decide +kernel
theorem dX11_goes_81 : decode cX11_goes 81 = .ok (.iload 5, 2) := by decide +kernel
theorem dX11_goes_83 : decode cX11_goes 83 = .ok (.iadd, 1) := by decide +kernel
theorem dX11_goes_84 : decode cX11_goes 84 = .ok (.iaload, 1) := by decide +kernel
theorem dX11_goes_85 : decode cX11_goes 85 = .ok (.i2l, 1) := by decide +kernel
theorem dX11_goes_86 : decode cX11_goes 86 = .ok (.lload_n 3, 1) := by decide +kernel
theorem dX11_goes_87 : decode cX11_goes 87 = .ok (.lmul, 1) := by decide +kernel
theorem dX11_goes_88 : decode cX11_goes 88 = .ok (.invokevirtual 232, 3) := by decide +kernel
theorem dX11_goes_91 : decode cX11_goes 91 = .ok (.lastore, 1) := by decide +kernel
theorem dX11_goes_92 : decode cX11_goes 92 = .ok (.aload_n 0, 1) := by decide +kernel
theorem dX11_goes_93 : decode cX11_goes 93 = .ok (.getfield 112, 3) := by decide +kernel
theorem dX11_goes_96 : decode cX11_goes 96 = .ok (.iload 5, 2) := by decide +kernel
theorem dX11_goes_98 : decode cX11_goes 98 = .ok (.aload_n 0, 1) := by decide +kernel
theorem dX11_goes_99 : decode cX11_goes 99 = .ok (.iload_n 1, 1) := by decide +kernel
theorem dX11_goes_100 : decode cX11_goes 100 = .ok (.aload_n 0, 1) := by decide +kernel
theorem dX11_goes_101 : decode cX11_goes 101 = .ok (.getfield 53, 3) := by decide +kernel
theorem dX11_goes_104 : decode cX11_goes 104 = .ok (.iconst 3, 1) := by decide +kernel
theorem dX11_goes_105 : decode cX11_goes 105 = .ok (.iload_n 1, 1) := by decide +kernel
theorem dX11_goes_106 : decode cX11_goes 106 = .ok (.imul, 1) := by decide +kernel
theorem dX11_goes_107 : decode cX11_goes 107 = .ok (.iload 5, 2) := by decide +kernel
theorem dX11_goes_109 : decode cX11_goes 109 = .ok (.iadd, 1) := by decide +kernel
theorem dX11_goes_110 : decode cX11_goes 110 = .ok (.iaload, 1) := by decide +kernel
theorem dX11_goes_111 : decode cX11_goes 111 = .ok (.i2l, 1) := by decide +kernel
theorem dX11_goes_112 : decode cX11_goes 112 = .ok (.lload 6, 2) := by decide +kernel
theorem dX11_goes_114 : decode cX11_goes 114 = .ok (.lmul, 1) := by decide +kernel
theorem dX11_goes_115 : decode cX11_goes 115 = .ok (.invokevirtual 232, 3) := by decide +kernel
theorem dX11_goes_118 : decode cX11_goes 118 = .ok (.lastore, 1) := by decide +kernel
theorem dX11_goes_119 : decode cX11_goes 119 = .ok (.aload_n 0, 1) := by decide +kernel
theorem dX11_goes_120 : decode cX11_goes 120 = .ok (.getfield 115, 3) := by decide +kernel
theorem dX11_goes_123 : decode cX11_goes 123 = .ok (.iload 5, 2) := by decide +kernel
theorem dX11_goes_125 : decode cX11_goes 125 = .ok (.aload_n 0, 1) := by decide +kernel
theorem dX11_goes_126 : decode cX11_goes 126 = .ok (.getfield 108, 3) := by decide +kernel
theorem dX11_goes_129 : decode cX11_goes 129 = .ok (.iload 5, 2) := by decide +kernel
theorem dX11_goes_131 : decode cX11_goes 131 = .ok (.laload, 1) := by decide +kernel
theorem dX11_goes_132 : decode cX11_goes 132 = .ok (.aload_n 0, 1) := by decide +kernel
theorem dX11_goes_133 : decode cX11_goes 133 = .ok (.getfield 112, 3) := by decide +kernel
theorem dX11_goes_136 : decode cX11_goes 136 = .ok (.iload 5, 2) := by decide +kernel
theorem dX11_goes_138 : decode cX11_goes 138 = .ok (.laload, 1) := by decide +kernel
theorem dX11_goes_139 : decode cX11_goes 139 = .ok (.aload_n 0, 1) := by decide +kernel
theorem dX11_goes_140 : decode cX11_goes 140 = .ok (.getfield 108, 3) := by decide +kernel
theorem dX11_goes_143 : decode cX11_goes 143 = .ok (.iload 5, 2) := by decide +kernel
theorem dX11_goes_145 : decode cX11_goes 145 = .ok (.laload, 1) := by decide +kernel
theorem dX11_goes_146 : decode cX11_goes 146 = .ok (.lsub, 1) := by decide +kernel
theorem dX11_goes_147 : decode cX11_goes 147 = .ok (.aload_n 0, 1) := by decide +kernel
theorem dX11_goes_148 : decode cX11_goes 148 = .ok (.iload_n 1, 1) := by decide +kernel
theorem dX11_goes_149 : decode cX11_goes 149 = .ok (.iload 5, 2) := by decide +kernel
theorem dX11_goes_151 : decode cX11_goes 151 = .ok (.invokevirtual 260, 3) := by decide +kernel
theorem dX11_goes_154 : decode cX11_goes 154 = .ok (.i2l, 1) := by decide +kernel
theorem dX11_goes_155 : decode cX11_goes 155 = .ok (.lmul, 1) := by decide +kernel
theorem dX11_goes_156 : decode cX11_goes 156 = .ok (.aload_n 0, 1) := by decide +kernel
theorem dX11_goes_157 : decode cX11_goes 157 = .ok (.getfield 47, 3) := by decide +kernel
theorem dX11_goes_160 : decode cX11_goes 160 = .ok (.iload_n 1, 1) := by decide +kernel
theorem dX11_goes_161 : decode cX11_goes 161 = .ok (.iaload, 1) := by decide +kernel
theorem dX11_goes_162 : decode cX11_goes 162 = .ok (.i2l, 1) := by decide +kernel
theorem dX11_goes_163 : decode cX11_goes 163 = .ok (.invokestatic 204, 3) := by decide +kernel
theorem dX11_goes_166 : decode cX11_goes 166 = .ok (.ladd, 1) := by decide +kernel
theorem dX11_goes_167 : decode cX11_goes 167 = .ok (.lastore, 1) := by decide +kernel
theorem dX11_goes_168 : decode cX11_goes 168 = .ok (.aload_n 0, 1) := by decide +kernel
theorem dX11_goes_169 : decode cX11_goes 169 = .ok (.iload_n 1, 1) := by decide +kernel
theorem dX11_goes_170 : decode cX11_goes 170 = .ok (.iload 5, 2) := by decide +kernel
theorem dX11_goes_172 : decode cX11_goes 172 = .ok (.aload_n 0, 1) := by decide +kernel
theorem dX11_goes_173 : decode cX11_goes 173 = .ok (.iload_n 1, 1) := by decide +kernel
theorem dX11_goes_174 : decode cX11_goes 174 = .ok (.aload_n 0, 1) := by decide +kernel
theorem dX11_goes_175 : decode cX11_goes 175 = .ok (.getfield 115, 3) := by decide +kernel
theorem dX11_goes_178 : decode cX11_goes 178 = .ok (.iload 5, 2) := by decide +kernel
theorem dX11_goes_180 : decode cX11_goes 180 = .ok (.laload, 1) := by decide +kernel
theorem dX11_goes_181 : decode cX11_goes 181 = .ok (.invokevirtual 246, 3) := by decide +kernel
theorem dX11_goes_184 : decode cX11_goes 184 = .ok (.invokevirtual 264, 3) := by decide +kernel
theorem dX11_goes_187 : decode cX11_goes 187 = .ok (.lstore_n 3, 1) := by decide +kernel
theorem dX11_goes_188 : decode cX11_goes 188 = .ok (.aload_n 0, 1) := by decide +kernel
theorem dX11_goes_189 : decode cX11_goes 189 = .ok (.getfield 118, 3) := by decide +kernel
theorem dX11_goes_192 : decode cX11_goes 192 = .ok (.iload 5, 2) := by decide +kernel
theorem dX11_goes_194 : decode cX11_goes 194 = .ok (.lload_n 3, 1) := by decide +kernel
theorem dX11_goes_195 : decode cX11_goes 195 = .ok (.lastore, 1) := by decide +kernel
theorem dX11_goes_196 : decode cX11_goes 196 = .ok (.iinc 5 1, 3) := by decide +kernel
theorem dX11_goes_199 : decode cX11_goes 199 = .ok (.goto (-174), 3) := by decide +kernel
theorem dX11_goes_202 : decode cX11_goes 202 = .ok (.lload_n 3, 1) := by decide +kernel
theorem dX11_goes_203 : decode cX11_goes 203 = .ok (.aload_n 0, 1) := by decide +kernel
theorem dX11_goes_204 : decode cX11_goes 204 = .ok (.getfield 26, 3) := by decide +kernel
theorem dX11_goes_207 : decode cX11_goes 207 = .ok (.aload_n 0, 1) := by decide +kernel
theorem dX11_goes_208 : decode cX11_goes 208 = .ok (.getfield 41, 3) := by decide +kernel
theorem dX11_goes_211 : decode cX11_goes 211 = .ok (.iload_n 1, 1) := by decide +kernel
theorem dX11_goes_212 : decode cX11_goes 212 = .ok (.iaload, 1) := by decide +kernel
theorem dX11_goes_213 : decode cX11_goes 213 = .ok (.iaload, 1) := by decide +kernel
theorem dX11_goes_214 : decode cX11_goes 214 = .ok (.i2l, 1) := by decide +kernel
theorem dX11_goes_215 : decode cX11_goes 215 = .ok (.ladd, 1) := by decide +kernel
theorem dX11_goes_216 : decode cX11_goes 216 = .ok (.lreturn, 1) := by decide +kernel
theorem dX11_takes_0 : decode cX11_takes 0 = .ok (.iconst 0, 1) := by decide +kernel
theorem dX11_takes_1 : decode cX11_takes 1 = .ok (.istore_n 3, 1) := by decide +kernel
theorem dX11_takes_2 : decode cX11_takes 2 = .ok (.iload_n 3, 1) := by decide +kernel
theorem dX11_takes_3 : decode cX11_takes 3 = .ok (.iconst 4, 1) := by decide +kernel
theorem dX11_takes_4 : decode cX11_takes 4 = .ok (.if_icmp .ge 20, 3) := by decide +kernel
theorem dX11_takes_7 : decode cX11_takes 7 = .ok (.aload_n 0, 1) := by decide +kernel
theorem dX11_takes_8 : decode cX11_takes 8 = .ok (.getfield 105, 3) := by decide +kernel
theorem dX11_takes_11 : decode cX11_takes 11 = .ok (.iload_n 3, 1) := by decide +kernel
theorem dX11_takes_12 : decode cX11_takes 12 = .ok (.aload_n 1, 1) := by decide +kernel
theorem dX11_takes_13 : decode cX11_takes 13 = .ok (.iload_n 2, 1) := by decide +kernel
theorem dX11_takes_14 : decode cX11_takes 14 = .ok (.iload_n 3, 1) := by decide +kernel
theorem dX11_takes_15 : decode cX11_takes 15 = .ok (.iadd, 1) := by decide +kernel
theorem dX11_takes_16 : decode cX11_takes 16 = .ok (.iaload, 1) := by decide +kernel
theorem dX11_takes_17 : decode cX11_takes 17 = .ok (.iastore, 1) := by decide +kernel
theorem dX11_takes_18 : decode cX11_takes 18 = .ok (.iinc 3 1, 3) := by decide +kernel
theorem dX11_takes_21 : decode cX11_takes 21 = .ok (.goto (-19), 3) := by decide +kernel
theorem dX11_takes_24 : decode cX11_takes 24 = .ok (.return_, 1) := by decide +kernel
theorem dX11_tenths_0 : decode cX11_tenths 0 = .ok (.aload_n 0, 1) := by decide +kernel
theorem dX11_tenths_1 : decode cX11_tenths 1 = .ok (.getfield 35, 3) := by decide +kernel
theorem dX11_tenths_4 : decode cX11_tenths 4 = .ok (.iconst 5, 1) := by decide +kernel
theorem dX11_tenths_5 : decode cX11_tenths 5 = .ok (.iload_n 1, 1) := by decide +kernel
theorem dX11_tenths_6 : decode cX11_tenths 6 = .ok (.imul, 1) := by decide +kernel
theorem dX11_tenths_7 : decode cX11_tenths 7 = .ok (.iaload, 1) := by decide +kernel
theorem dX11_tenths_8 : decode cX11_tenths 8 = .ok (.istore 4, 2) := by decide +kernel
theorem dX11_tenths_10 : decode cX11_tenths 10 = .ok (.lconst 0, 1) := by decide +kernel
theorem dX11_tenths_11 : decode cX11_tenths 11 = .ok (.lstore 5, 2) := by decide +kernel
theorem dX11_tenths_13 : decode cX11_tenths 13 = .ok (.iconst 0, 1) := by decide +kernel
theorem dX11_tenths_14 : decode cX11_tenths 14 = .ok (.istore 7, 2) := by decide +kernel
theorem dX11_tenths_16 : decode cX11_tenths 16 = .ok (.iconst (-1), 1) := by decide +kernel
theorem dX11_tenths_17 : decode cX11_tenths 17 = .ok (.istore 8, 2) := by decide +kernel
theorem dX11_tenths_19 : decode cX11_tenths 19 = .ok (.lconst 0, 1) := by decide +kernel
theorem dX11_tenths_20 : decode cX11_tenths 20 = .ok (.lstore 9, 2) := by decide +kernel
theorem dX11_tenths_22 : decode cX11_tenths 22 = .ok (.iconst 0, 1) := by decide +kernel
theorem dX11_tenths_23 : decode cX11_tenths 23 = .ok (.istore 11, 2) := by decide +kernel
theorem dX11_tenths_25 : decode cX11_tenths 25 = .ok (.iload 11, 2) := by decide +kernel
theorem dX11_tenths_27 : decode cX11_tenths 27 = .ok (.iload 4, 2) := by decide +kernel
theorem dX11_tenths_29 : decode cX11_tenths 29 = .ok (.if_icmp .ge 161, 3) := by decide +kernel
theorem dX11_tenths_32 : decode cX11_tenths 32 = .ok (.iconst 0, 1) := by decide +kernel
theorem dX11_tenths_33 : decode cX11_tenths 33 = .ok (.istore 12, 2) := by decide +kernel
theorem dX11_tenths_35 : decode cX11_tenths 35 = .ok (.lconst 0, 1) := by decide +kernel
theorem dX11_tenths_36 : decode cX11_tenths 36 = .ok (.lstore 13, 2) := by decide +kernel
theorem dX11_tenths_38 : decode cX11_tenths 38 = .ok (.iconst 0, 1) := by decide +kernel
theorem dX11_tenths_39 : decode cX11_tenths 39 = .ok (.istore 15, 2) := by decide +kernel
theorem dX11_tenths_41 : decode cX11_tenths 41 = .ok (.iload 15, 2) := by decide +kernel
theorem dX11_tenths_43 : decode cX11_tenths 43 = .ok (.iload 4, 2) := by decide +kernel
theorem dX11_tenths_45 : decode cX11_tenths 45 = .ok (.if_icmp .ge 58, 3) := by decide +kernel
theorem dX11_tenths_48 : decode cX11_tenths 48 = .ok (.aload_n 0, 1) := by decide +kernel
theorem dX11_tenths_49 : decode cX11_tenths 49 = .ok (.iload_n 1, 1) := by decide +kernel
theorem dX11_tenths_50 : decode cX11_tenths 50 = .ok (.iconst 0, 1) := by decide +kernel
theorem dX11_tenths_51 : decode cX11_tenths 51 = .ok (.iload 15, 2) := by decide +kernel
theorem dX11_tenths_53 : decode cX11_tenths 53 = .ok (.invokevirtual 207, 3) := by decide +kernel
theorem dX11_tenths_56 : decode cX11_tenths 56 = .ok (.istore 16, 2) := by decide +kernel
theorem dX11_tenths_58 : decode cX11_tenths 58 = .ok (.iload 7, 2) := by decide +kernel
theorem dX11_tenths_60 : decode cX11_tenths 60 = .ok (.ifCond .eq 12, 3) := by decide +kernel
theorem dX11_tenths_63 : decode cX11_tenths 63 = .ok (.iload 16, 2) := by decide +kernel
theorem dX11_tenths_65 : decode cX11_tenths 65 = .ok (.i2l, 1) := by decide +kernel
theorem dX11_tenths_66 : decode cX11_tenths 66 = .ok (.lload 5, 2) := by decide +kernel
theorem dX11_tenths_68 : decode cX11_tenths 68 = .ok (.lcmp, 1) := by decide +kernel
theorem dX11_tenths_69 : decode cX11_tenths 69 = .ok (.ifCond .le 28, 3) := by decide +kernel
theorem dX11_tenths_72 : decode cX11_tenths 72 = .ok (.iload 12, 2) := by decide +kernel
theorem dX11_tenths_74 : decode cX11_tenths 74 = .ok (.ifCond .eq 15, 3) := by decide +kernel
theorem dX11_tenths_77 : decode cX11_tenths 77 = .ok (.iload 16, 2) := by decide +kernel
theorem dX11_tenths_79 : decode cX11_tenths 79 = .ok (.i2l, 1) := by decide +kernel
theorem dX11_tenths_80 : decode cX11_tenths 80 = .ok (.lload 13, 2) := by decide +kernel
theorem dX11_tenths_82 : decode cX11_tenths 82 = .ok (.lcmp, 1) := by decide +kernel
theorem dX11_tenths_83 : decode cX11_tenths 83 = .ok (.ifCond .lt 6, 3) := by decide +kernel
theorem dX11_tenths_86 : decode cX11_tenths 86 = .ok (.goto 11, 3) := by decide +kernel
theorem dX11_tenths_89 : decode cX11_tenths 89 = .ok (.iload 16, 2) := by decide +kernel
theorem dX11_tenths_91 : decode cX11_tenths 91 = .ok (.i2l, 1) := by decide +kernel
theorem dX11_tenths_92 : decode cX11_tenths 92 = .ok (.lstore 13, 2) := by decide +kernel
theorem dX11_tenths_94 : decode cX11_tenths 94 = .ok (.iconst 1, 1) := by decide +kernel
theorem dX11_tenths_95 : decode cX11_tenths 95 = .ok (.istore 12, 2) := by decide +kernel
theorem dX11_tenths_97 : decode cX11_tenths 97 = .ok (.iinc 15 1, 3) := by decide +kernel
theorem dX11_tenths_100 : decode cX11_tenths 100 = .ok (.goto (-59), 3) := by decide +kernel
theorem dX11_tenths_103 : decode cX11_tenths 103 = .ok (.iload 12, 2) := by decide +kernel
theorem dX11_tenths_105 : decode cX11_tenths 105 = .ok (.ifCond .ne 26, 3) := by decide +kernel
theorem dX11_tenths_108 : decode cX11_tenths 108 = .ok (.iload 8, 2) := by decide +kernel
theorem dX11_tenths_110 : decode cX11_tenths 110 = .ok (.iconst (-1), 1) := by decide +kernel
theorem dX11_tenths_111 : decode cX11_tenths 111 = .ok (.if_icmp .eq 18, 3) := by decide +kernel
theorem dX11_tenths_114 : decode cX11_tenths 114 = .ok (.lload_n 2, 1) := by decide +kernel
theorem dX11_tenths_115 : decode cX11_tenths 115 = .ok (.lload 9, 2) := by decide +kernel
theorem dX11_tenths_117 : decode cX11_tenths 117 = .ok (.lcmp, 1) := by decide +kernel
theorem dX11_tenths_118 : decode cX11_tenths 118 = .ok (.ifCond .ne 11, 3) := by decide +kernel
theorem dX11_tenths_121 : decode cX11_tenths 121 = .ok (.bipush 10, 2) := by decide +kernel
theorem dX11_tenths_123 : decode cX11_tenths 123 = .ok (.iload 8, 2) := by decide +kernel
theorem dX11_tenths_125 : decode cX11_tenths 125 = .ok (.imul, 1) := by decide +kernel
theorem dX11_tenths_126 : decode cX11_tenths 126 = .ok (.goto 4, 3) := by decide +kernel
theorem dX11_tenths_129 : decode cX11_tenths 129 = .ok (.iconst (-1), 1) := by decide +kernel
theorem dX11_tenths_130 : decode cX11_tenths 130 = .ok (.ireturn, 1) := by decide +kernel
theorem dX11_tenths_131 : decode cX11_tenths 131 = .ok (.lload 13, 2) := by decide +kernel
theorem dX11_tenths_133 : decode cX11_tenths 133 = .ok (.lload_n 2, 1) := by decide +kernel
theorem dX11_tenths_134 : decode cX11_tenths 134 = .ok (.lcmp, 1) := by decide +kernel
theorem dX11_tenths_135 : decode cX11_tenths 135 = .ok (.ifCond .le 35, 3) := by decide +kernel
theorem dX11_tenths_138 : decode cX11_tenths 138 = .ok (.iload 8, 2) := by decide +kernel
theorem dX11_tenths_140 : decode cX11_tenths 140 = .ok (.iconst (-1), 1) := by decide +kernel
theorem dX11_tenths_141 : decode cX11_tenths 141 = .ok (.if_icmp .ne 7, 3) := by decide +kernel
theorem dX11_tenths_144 : decode cX11_tenths 144 = .ok (.iconst (-1), 1) := by decide +kernel
theorem dX11_tenths_145 : decode cX11_tenths 145 = .ok (.goto 24, 3) := by decide +kernel
theorem dX11_tenths_148 : decode cX11_tenths 148 = .ok (.bipush 10, 2) := by decide +kernel
theorem dX11_tenths_150 : decode cX11_tenths 150 = .ok (.iload 8, 2) := by decide +kernel
theorem dX11_tenths_152 : decode cX11_tenths 152 = .ok (.imul, 1) := by decide +kernel
theorem dX11_tenths_153 : decode cX11_tenths 153 = .ok (.ldc2_w 190, 3) := by decide +kernel
theorem dX11_tenths_156 : decode cX11_tenths 156 = .ok (.lload_n 2, 1) := by decide +kernel
theorem dX11_tenths_157 : decode cX11_tenths 157 = .ok (.lload 9, 2) := by decide +kernel
theorem dX11_tenths_159 : decode cX11_tenths 159 = .ok (.lsub, 1) := by decide +kernel
theorem dX11_tenths_160 : decode cX11_tenths 160 = .ok (.lmul, 1) := by decide +kernel
theorem dX11_tenths_161 : decode cX11_tenths 161 = .ok (.lload 13, 2) := by decide +kernel
theorem dX11_tenths_163 : decode cX11_tenths 163 = .ok (.lload 9, 2) := by decide +kernel
theorem dX11_tenths_165 : decode cX11_tenths 165 = .ok (.lsub, 1) := by decide +kernel
theorem dX11_tenths_166 : decode cX11_tenths 166 = .ok (.ldiv, 1) := by decide +kernel
theorem dX11_tenths_167 : decode cX11_tenths 167 = .ok (.l2i, 1) := by decide +kernel
theorem dX11_tenths_168 : decode cX11_tenths 168 = .ok (.iadd, 1) := by decide +kernel
theorem dX11_tenths_169 : decode cX11_tenths 169 = .ok (.ireturn, 1) := by decide +kernel
theorem dX11_tenths_170 : decode cX11_tenths 170 = .ok (.lload 13, 2) := by decide +kernel
theorem dX11_tenths_172 : decode cX11_tenths 172 = .ok (.lstore 5, 2) := by decide +kernel
theorem dX11_tenths_174 : decode cX11_tenths 174 = .ok (.iconst 1, 1) := by decide +kernel
theorem dX11_tenths_175 : decode cX11_tenths 175 = .ok (.istore 7, 2) := by decide +kernel
theorem dX11_tenths_177 : decode cX11_tenths 177 = .ok (.iinc 8 1, 3) := by decide +kernel
theorem dX11_tenths_180 : decode cX11_tenths 180 = .ok (.lload 13, 2) := by decide +kernel
theorem dX11_tenths_182 : decode cX11_tenths 182 = .ok (.lstore 9, 2) := by decide +kernel
theorem dX11_tenths_184 : decode cX11_tenths 184 = .ok (.iinc 11 1, 3) := by decide +kernel
theorem dX11_tenths_187 : decode cX11_tenths 187 = .ok (.goto (-162), 3) := by decide +kernel
theorem dX11_tenths_190 : decode cX11_tenths 190 = .ok (.lload_n 2, 1) := by decide +kernel
theorem dX11_tenths_191 : decode cX11_tenths 191 = .ok (.lload 9, 2) := by decide +kernel
theorem dX11_tenths_193 : decode cX11_tenths 193 = .ok (.lcmp, 1) := by decide +kernel
theorem dX11_tenths_194 : decode cX11_tenths 194 = .ok (.ifCond .ne 11, 3) := by decide +kernel
theorem dX11_tenths_197 : decode cX11_tenths 197 = .ok (.bipush 10, 2) := by decide +kernel
theorem dX11_tenths_199 : decode cX11_tenths 199 = .ok (.iload 8, 2) := by decide +kernel
theorem dX11_tenths_201 : decode cX11_tenths 201 = .ok (.imul, 1) := by decide +kernel
theorem dX11_tenths_202 : decode cX11_tenths 202 = .ok (.goto 4, 3) := by decide +kernel
theorem dX11_tenths_205 : decode cX11_tenths 205 = .ok (.iconst (-1), 1) := by decide +kernel
theorem dX11_tenths_206 : decode cX11_tenths 206 = .ok (.ireturn, 1) := by decide +kernel
theorem dX11_read_0 : decode cX11_read 0 = .ok (.aload_n 0, 1) := by decide +kernel
theorem dX11_read_1 : decode cX11_read 1 = .ok (.getfield 65, 3) := by decide +kernel
theorem dX11_read_4 : decode cX11_read 4 = .ok (.iconst (-1), 1) := by decide +kernel
theorem dX11_read_5 : decode cX11_read 5 = .ok (.if_icmp .eq 29, 3) := by decide +kernel
theorem dX11_read_8 : decode cX11_read 8 = .ok (.iload_n 1, 1) := by decide +kernel
theorem dX11_read_9 : decode cX11_read 9 = .ok (.i2l, 1) := by decide +kernel
theorem dX11_read_10 : decode cX11_read 10 = .ok (.lconst 0, 1) := by decide +kernel
theorem dX11_read_11 : decode cX11_read 11 = .ok (.aload_n 0, 1) := by decide +kernel
theorem dX11_read_12 : decode cX11_read 12 = .ok (.getfield 268, 3) := by decide +kernel
theorem dX11_read_15 : decode cX11_read 15 = .ok (.i2l, 1) := by decide +kernel
theorem dX11_read_16 : decode cX11_read 16 = .ok (.invokestatic 139, 3) := by decide +kernel
theorem dX11_read_19 : decode cX11_read 19 = .ok (.ifCond .eq 15, 3) := by decide +kernel
theorem dX11_read_22 : decode cX11_read 22 = .ok (.iload_n 2, 1) := by decide +kernel
theorem dX11_read_23 : decode cX11_read 23 = .ok (.i2l, 1) := by decide +kernel
theorem dX11_read_24 : decode cX11_read 24 = .ok (.lconst 0, 1) := by decide +kernel
theorem dX11_read_25 : decode cX11_read 25 = .ok (.ldc2_w 130, 3) := by decide +kernel
theorem dX11_read_28 : decode cX11_read 28 = .ok (.invokestatic 139, 3) := by decide +kernel
theorem dX11_read_31 : decode cX11_read 31 = .ok (.ifCond .ne 6, 3) := by decide +kernel
theorem dX11_read_34 : decode cX11_read 34 = .ok (.ldc 189, 2) := by decide +kernel
theorem dX11_read_36 : decode cX11_read 36 = .ok (.ireturn, 1) := by decide +kernel
theorem dX11_read_37 : decode cX11_read 37 = .ok (.aload_n 0, 1) := by decide +kernel
theorem dX11_read_38 : decode cX11_read 38 = .ok (.getfield 41, 3) := by decide +kernel
theorem dX11_read_41 : decode cX11_read 41 = .ok (.aload_n 0, 1) := by decide +kernel
theorem dX11_read_42 : decode cX11_read 42 = .ok (.getfield 65, 3) := by decide +kernel
theorem dX11_read_45 : decode cX11_read 45 = .ok (.iaload, 1) := by decide +kernel
theorem dX11_read_46 : decode cX11_read 46 = .ok (.istore_n 3, 1) := by decide +kernel
theorem dX11_read_47 : decode cX11_read 47 = .ok (.aload_n 0, 1) := by decide +kernel
theorem dX11_read_48 : decode cX11_read 48 = .ok (.aload_n 0, 1) := by decide +kernel
theorem dX11_read_49 : decode cX11_read 49 = .ok (.getfield 69, 3) := by decide +kernel
theorem dX11_read_52 : decode cX11_read 52 = .ok (.iconst 0, 1) := by decide +kernel
theorem dX11_read_53 : decode cX11_read 53 = .ok (.invokevirtual 271, 3) := by decide +kernel
theorem dX11_read_56 : decode cX11_read 56 = .ok (.iload_n 2, 1) := by decide +kernel
theorem dX11_read_57 : decode cX11_read 57 = .ok (.iconst 2, 1) := by decide +kernel
theorem dX11_read_58 : decode cX11_read 58 = .ok (.if_icmp .ne 91, 3) := by decide +kernel
theorem dX11_read_61 : decode cX11_read 61 = .ok (.aload_n 0, 1) := by decide +kernel
theorem dX11_read_62 : decode cX11_read 62 = .ok (.getfield 26, 3) := by decide +kernel
theorem dX11_read_65 : decode cX11_read 65 = .ok (.iload_n 3, 1) := by decide +kernel
theorem dX11_read_66 : decode cX11_read 66 = .ok (.iaload, 1) := by decide +kernel
theorem dX11_read_67 : decode cX11_read 67 = .ok (.istore 4, 2) := by decide +kernel
theorem dX11_read_69 : decode cX11_read 69 = .ok (.iconst 0, 1) := by decide +kernel
theorem dX11_read_70 : decode cX11_read 70 = .ok (.istore 5, 2) := by decide +kernel
theorem dX11_read_72 : decode cX11_read 72 = .ok (.iload 5, 2) := by decide +kernel
theorem dX11_read_74 : decode cX11_read 74 = .ok (.aload_n 0, 1) := by decide +kernel
theorem dX11_read_75 : decode cX11_read 75 = .ok (.getfield 23, 3) := by decide +kernel
theorem dX11_read_78 : decode cX11_read 78 = .ok (.iload_n 3, 1) := by decide +kernel
theorem dX11_read_79 : decode cX11_read 79 = .ok (.iaload, 1) := by decide +kernel
theorem dX11_read_80 : decode cX11_read 80 = .ok (.iconst 1, 1) := by decide +kernel
theorem dX11_read_81 : decode cX11_read 81 = .ok (.isub, 1) := by decide +kernel
theorem dX11_read_82 : decode cX11_read 82 = .ok (.if_icmp .ge 64, 3) := by decide +kernel
theorem dX11_read_85 : decode cX11_read 85 = .ok (.iload 4, 2) := by decide +kernel
theorem dX11_read_87 : decode cX11_read 87 = .ok (.aload_n 0, 1) := by decide +kernel
theorem dX11_read_88 : decode cX11_read 88 = .ok (.getfield 32, 3) := by decide +kernel
theorem dX11_read_91 : decode cX11_read 91 = .ok (.iconst 5, 1) := by decide +kernel
theorem dX11_read_92 : decode cX11_read 92 = .ok (.iload_n 3, 1) := by decide +kernel
theorem dX11_read_93 : decode cX11_read 93 = .ok (.imul, 1) := by decide +kernel
theorem dX11_read_94 : decode cX11_read 94 = .ok (.aload_n 0, 1) := by decide +kernel
theorem dX11_read_95 : decode cX11_read 95 = .ok (.getfield 44, 3) := by decide +kernel
theorem dX11_read_98 : decode cX11_read 98 = .ok (.iconst 4, 1) := by decide +kernel
theorem dX11_read_99 : decode cX11_read 99 = .ok (.aload_n 0, 1) := by decide +kernel
theorem dX11_read_100 : decode cX11_read 100 = .ok (.getfield 65, 3) := by decide +kernel
theorem dX11_read_103 : decode cX11_read 103 = .ok (.imul, 1) := by decide +kernel
theorem dX11_read_104 : decode cX11_read 104 = .ok (.iload 5, 2) := by decide +kernel
theorem dX11_read_106 : decode cX11_read 106 = .ok (.iadd, 1) := by decide +kernel
theorem dX11_read_107 : decode cX11_read 107 = .ok (.iaload, 1) := by decide +kernel
theorem dX11_read_108 : decode cX11_read 108 = .ok (.iadd, 1) := by decide +kernel
theorem dX11_read_109 : decode cX11_read 109 = .ok (.iaload, 1) := by decide +kernel
theorem dX11_read_110 : decode cX11_read 110 = .ok (.aload_n 0, 1) := by decide +kernel
theorem dX11_read_111 : decode cX11_read 111 = .ok (.iload_n 3, 1) := by decide +kernel
theorem dX11_read_112 : decode cX11_read 112 = .ok (.aload_n 0, 1) := by decide +kernel
theorem dX11_read_113 : decode cX11_read 113 = .ok (.getfield 44, 3) := by decide +kernel
theorem dX11_read_116 : decode cX11_read 116 = .ok (.iconst 4, 1) := by decide +kernel
theorem dX11_read_117 : decode cX11_read 117 = .ok (.aload_n 0, 1) := by decide +kernel
theorem dX11_read_118 : decode cX11_read 118 = .ok (.getfield 65, 3) := by decide +kernel
theorem dX11_read_121 : decode cX11_read 121 = .ok (.imul, 1) := by decide +kernel
theorem dX11_read_122 : decode cX11_read 122 = .ok (.iload 5, 2) := by decide +kernel
theorem dX11_read_124 : decode cX11_read 124 = .ok (.iadd, 1) := by decide +kernel
theorem dX11_read_125 : decode cX11_read 125 = .ok (.iaload, 1) := by decide +kernel
theorem dX11_read_126 : decode cX11_read 126 = .ok (.aload_n 0, 1) := by decide +kernel
theorem dX11_read_127 : decode cX11_read 127 = .ok (.getfield 105, 3) := by decide +kernel
theorem dX11_read_130 : decode cX11_read 130 = .ok (.iload 5, 2) := by decide +kernel
theorem dX11_read_132 : decode cX11_read 132 = .ok (.iaload, 1) := by decide +kernel
theorem dX11_read_133 : decode cX11_read 133 = .ok (.invokevirtual 207, 3) := by decide +kernel
theorem dX11_read_136 : decode cX11_read 136 = .ok (.imul, 1) := by decide +kernel
theorem dX11_read_137 : decode cX11_read 137 = .ok (.iadd, 1) := by decide +kernel
theorem dX11_read_138 : decode cX11_read 138 = .ok (.istore 4, 2) := by decide +kernel
theorem dX11_read_140 : decode cX11_read 140 = .ok (.iinc 5 1, 3) := by decide +kernel
theorem dX11_read_143 : decode cX11_read 143 = .ok (.goto (-71), 3) := by decide +kernel
theorem dX11_read_146 : decode cX11_read 146 = .ok (.iload 4, 2) := by decide +kernel
theorem dX11_read_148 : decode cX11_read 148 = .ok (.ireturn, 1) := by decide +kernel
theorem dX11_read_149 : decode cX11_read 149 = .ok (.aload_n 0, 1) := by decide +kernel
theorem dX11_read_150 : decode cX11_read 150 = .ok (.aload_n 0, 1) := by decide +kernel
theorem dX11_read_151 : decode cX11_read 151 = .ok (.getfield 65, 3) := by decide +kernel
theorem dX11_read_154 : decode cX11_read 154 = .ok (.iload_n 1, 1) := by decide +kernel
theorem dX11_read_155 : decode cX11_read 155 = .ok (.invokevirtual 275, 3) := by decide +kernel
theorem dX11_read_158 : decode cX11_read 158 = .ok (.lstore 4, 2) := by decide +kernel
theorem dX11_read_160 : decode cX11_read 160 = .ok (.iload_n 2, 1) := by decide +kernel
theorem dX11_read_161 : decode cX11_read 161 = .ok (.ifCond .ne 9, 3) := by decide +kernel
theorem dX11_read_164 : decode cX11_read 164 = .ok (.lload 4, 2) := by decide +kernel
theorem dX11_read_166 : decode cX11_read 166 = .ok (.l2i, 1) := by decide +kernel
theorem dX11_read_167 : decode cX11_read 167 = .ok (.goto 10, 3) := by decide +kernel
theorem dX11_read_170 : decode cX11_read 170 = .ok (.aload_n 0, 1) := by decide +kernel
theorem dX11_read_171 : decode cX11_read 171 = .ok (.iload_n 3, 1) := by decide +kernel
theorem dX11_read_172 : decode cX11_read 172 = .ok (.lload 4, 2) := by decide +kernel
theorem dX11_read_174 : decode cX11_read 174 = .ok (.invokevirtual 279, 3) := by decide +kernel
theorem dX11_read_177 : decode cX11_read 177 = .ok (.ireturn, 1) := by decide +kernel
theorem dX11_lead_0 : decode cX11_lead 0 = .ok (.aload_n 0, 1) := by decide +kernel
theorem dX11_lead_1 : decode cX11_lead 1 = .ok (.getfield 65, 3) := by decide +kernel
theorem dX11_lead_4 : decode cX11_lead 4 = .ok (.iconst (-1), 1) := by decide +kernel
theorem dX11_lead_5 : decode cX11_lead 5 = .ok (.if_icmp .eq 35, 3) := by decide +kernel
theorem dX11_lead_8 : decode cX11_lead 8 = .ok (.iload_n 1, 1) := by decide +kernel
theorem dX11_lead_9 : decode cX11_lead 9 = .ok (.i2l, 1) := by decide +kernel
theorem dX11_lead_10 : decode cX11_lead 10 = .ok (.lconst 0, 1) := by decide +kernel
theorem dX11_lead_11 : decode cX11_lead 11 = .ok (.aload_n 0, 1) := by decide +kernel
theorem dX11_lead_12 : decode cX11_lead 12 = .ok (.aload_n 0, 1) := by decide +kernel
theorem dX11_lead_13 : decode cX11_lead 13 = .ok (.getfield 65, 3) := by decide +kernel
theorem dX11_lead_16 : decode cX11_lead 16 = .ok (.invokevirtual 256, 3) := by decide +kernel
theorem dX11_lead_19 : decode cX11_lead 19 = .ok (.iconst 1, 1) := by decide +kernel
theorem dX11_lead_20 : decode cX11_lead 20 = .ok (.isub, 1) := by decide +kernel
theorem dX11_lead_21 : decode cX11_lead 21 = .ok (.i2l, 1) := by decide +kernel
theorem dX11_lead_22 : decode cX11_lead 22 = .ok (.invokestatic 139, 3) := by decide +kernel
theorem dX11_lead_25 : decode cX11_lead 25 = .ok (.ifCond .eq 15, 3) := by decide +kernel
theorem dX11_lead_28 : decode cX11_lead 28 = .ok (.iload_n 2, 1) := by decide +kernel
theorem dX11_lead_29 : decode cX11_lead 29 = .ok (.i2l, 1) := by decide +kernel
theorem dX11_lead_30 : decode cX11_lead 30 = .ok (.lconst 0, 1) := by decide +kernel
theorem dX11_lead_31 : decode cX11_lead 31 = .ok (.ldc2_w 283, 3) := by decide +kernel
theorem dX11_lead_34 : decode cX11_lead 34 = .ok (.invokestatic 139, 3) := by decide +kernel
theorem dX11_lead_37 : decode cX11_lead 37 = .ok (.ifCond .ne 6, 3) := by decide +kernel
theorem dX11_lead_40 : decode cX11_lead 40 = .ok (.ldc 189, 2) := by decide +kernel
theorem dX11_lead_42 : decode cX11_lead 42 = .ok (.ireturn, 1) := by decide +kernel
theorem dX11_lead_43 : decode cX11_lead 43 = .ok (.aload_n 0, 1) := by decide +kernel
theorem dX11_lead_44 : decode cX11_lead 44 = .ok (.aload_n 0, 1) := by decide +kernel
theorem dX11_lead_45 : decode cX11_lead 45 = .ok (.getfield 69, 3) := by decide +kernel
theorem dX11_lead_48 : decode cX11_lead 48 = .ok (.iconst 0, 1) := by decide +kernel
theorem dX11_lead_49 : decode cX11_lead 49 = .ok (.invokevirtual 271, 3) := by decide +kernel
theorem dX11_lead_52 : decode cX11_lead 52 = .ok (.aload_n 0, 1) := by decide +kernel
theorem dX11_lead_53 : decode cX11_lead 53 = .ok (.aload_n 0, 1) := by decide +kernel
theorem dX11_lead_54 : decode cX11_lead 54 = .ok (.getfield 65, 3) := by decide +kernel
theorem dX11_lead_57 : decode cX11_lead 57 = .ok (.aload_n 0, 1) := by decide +kernel
theorem dX11_lead_58 : decode cX11_lead 58 = .ok (.getfield 268, 3) := by decide +kernel
theorem dX11_lead_61 : decode cX11_lead 61 = .ok (.invokevirtual 275, 3) := by decide +kernel
theorem dX11_lead_64 : decode cX11_lead 64 = .ok (.pop2, 1) := by decide +kernel
theorem dX11_lead_65 : decode cX11_lead 65 = .ok (.iload_n 2, 1) := by decide +kernel
theorem dX11_lead_66 : decode cX11_lead 66 = .ok (.ifCond .ne 12, 3) := by decide +kernel
theorem dX11_lead_69 : decode cX11_lead 69 = .ok (.aload_n 0, 1) := by decide +kernel
theorem dX11_lead_70 : decode cX11_lead 70 = .ok (.getfield 108, 3) := by decide +kernel
theorem dX11_lead_73 : decode cX11_lead 73 = .ok (.iload_n 1, 1) := by decide +kernel
theorem dX11_lead_74 : decode cX11_lead 74 = .ok (.laload, 1) := by decide +kernel
theorem dX11_lead_75 : decode cX11_lead 75 = .ok (.goto 37, 3) := by decide +kernel
theorem dX11_lead_78 : decode cX11_lead 78 = .ok (.iload_n 2, 1) := by decide +kernel
theorem dX11_lead_79 : decode cX11_lead 79 = .ok (.iconst 1, 1) := by decide +kernel
theorem dX11_lead_80 : decode cX11_lead 80 = .ok (.if_icmp .ne 12, 3) := by decide +kernel
theorem dX11_lead_83 : decode cX11_lead 83 = .ok (.aload_n 0, 1) := by decide +kernel
theorem dX11_lead_84 : decode cX11_lead 84 = .ok (.getfield 112, 3) := by decide +kernel
theorem dX11_lead_87 : decode cX11_lead 87 = .ok (.iload_n 1, 1) := by decide +kernel
theorem dX11_lead_88 : decode cX11_lead 88 = .ok (.laload, 1) := by decide +kernel
theorem dX11_lead_89 : decode cX11_lead 89 = .ok (.goto 23, 3) := by decide +kernel
theorem dX11_lead_92 : decode cX11_lead 92 = .ok (.iload_n 2, 1) := by decide +kernel
theorem dX11_lead_93 : decode cX11_lead 93 = .ok (.iconst 2, 1) := by decide +kernel
theorem dX11_lead_94 : decode cX11_lead 94 = .ok (.if_icmp .ne 12, 3) := by decide +kernel
theorem dX11_lead_97 : decode cX11_lead 97 = .ok (.aload_n 0, 1) := by decide +kernel
theorem dX11_lead_98 : decode cX11_lead 98 = .ok (.getfield 115, 3) := by decide +kernel
theorem dX11_lead_101 : decode cX11_lead 101 = .ok (.iload_n 1, 1) := by decide +kernel
theorem dX11_lead_102 : decode cX11_lead 102 = .ok (.laload, 1) := by decide +kernel
theorem dX11_lead_103 : decode cX11_lead 103 = .ok (.goto 9, 3) := by decide +kernel
theorem dX11_lead_106 : decode cX11_lead 106 = .ok (.aload_n 0, 1) := by decide +kernel
theorem dX11_lead_107 : decode cX11_lead 107 = .ok (.getfield 118, 3) := by decide +kernel
theorem dX11_lead_110 : decode cX11_lead 110 = .ok (.iload_n 1, 1) := by decide +kernel
theorem dX11_lead_111 : decode cX11_lead 111 = .ok (.laload, 1) := by decide +kernel
theorem dX11_lead_112 : decode cX11_lead 112 = .ok (.l2i, 1) := by decide +kernel
theorem dX11_lead_113 : decode cX11_lead 113 = .ok (.ireturn, 1) := by decide +kernel
theorem dX11_signed_0 : decode cX11_signed 0 = .ok (.aload_n 0, 1) := by decide +kernel
theorem dX11_signed_1 : decode cX11_signed 1 = .ok (.getfield 32, 3) := by decide +kernel
theorem dX11_signed_4 : decode cX11_signed 4 = .ok (.iconst 5, 1) := by decide +kernel
theorem dX11_signed_5 : decode cX11_signed 5 = .ok (.iload_n 1, 1) := by decide +kernel
theorem dX11_signed_6 : decode cX11_signed 6 = .ok (.imul, 1) := by decide +kernel
theorem dX11_signed_7 : decode cX11_signed 7 = .ok (.iload_n 2, 1) := by decide +kernel
theorem dX11_signed_8 : decode cX11_signed 8 = .ok (.iadd, 1) := by decide +kernel
theorem dX11_signed_9 : decode cX11_signed 9 = .ok (.iaload, 1) := by decide +kernel
theorem dX11_signed_10 : decode cX11_signed 10 = .ok (.aload_n 0, 1) := by decide +kernel
theorem dX11_signed_11 : decode cX11_signed 11 = .ok (.iload_n 1, 1) := by decide +kernel
theorem dX11_signed_12 : decode cX11_signed 12 = .ok (.iload_n 2, 1) := by decide +kernel
theorem dX11_signed_13 : decode cX11_signed 13 = .ok (.iload_n 3, 1) := by decide +kernel
theorem dX11_signed_14 : decode cX11_signed 14 = .ok (.invokevirtual 207, 3) := by decide +kernel
theorem dX11_signed_17 : decode cX11_signed 17 = .ok (.imul, 1) := by decide +kernel
theorem dX11_signed_18 : decode cX11_signed 18 = .ok (.i2l, 1) := by decide +kernel
theorem dX11_signed_19 : decode cX11_signed 19 = .ok (.lreturn, 1) := by decide +kernel
theorem dX11_spans_0 : decode cX11_spans 0 = .ok (.aload_n 0, 1) := by decide +kernel
theorem dX11_spans_1 : decode cX11_spans 1 = .ok (.getfield 41, 3) := by decide +kernel
theorem dX11_spans_4 : decode cX11_spans 4 = .ok (.iload_n 1, 1) := by decide +kernel
theorem dX11_spans_5 : decode cX11_spans 5 = .ok (.iaload, 1) := by decide +kernel
theorem dX11_spans_6 : decode cX11_spans 6 = .ok (.istore_n 3, 1) := by decide +kernel
theorem dX11_spans_7 : decode cX11_spans 7 = .ok (.aload_n 0, 1) := by decide +kernel
theorem dX11_spans_8 : decode cX11_spans 8 = .ok (.aload_n 0, 1) := by decide +kernel
theorem dX11_spans_9 : decode cX11_spans 9 = .ok (.iload_n 3, 1) := by decide +kernel
theorem dX11_spans_10 : decode cX11_spans 10 = .ok (.aload_n 0, 1) := by decide +kernel
theorem dX11_spans_11 : decode cX11_spans 11 = .ok (.getfield 121, 3) := by decide +kernel
theorem dX11_spans_14 : decode cX11_spans 14 = .ok (.iconst 0, 1) := by decide +kernel
theorem dX11_spans_15 : decode cX11_spans 15 = .ok (.iaload, 1) := by decide +kernel
theorem dX11_spans_16 : decode cX11_spans 16 = .ok (.aload_n 0, 1) := by decide +kernel
theorem dX11_spans_17 : decode cX11_spans 17 = .ok (.getfield 105, 3) := by decide +kernel
theorem dX11_spans_20 : decode cX11_spans 20 = .ok (.iconst 0, 1) := by decide +kernel
theorem dX11_spans_21 : decode cX11_spans 21 = .ok (.iaload, 1) := by decide +kernel
theorem dX11_spans_22 : decode cX11_spans 22 = .ok (.invokevirtual 285, 3) := by decide +kernel
theorem dX11_spans_25 : decode cX11_spans 25 = .ok (.putfield 289, 3) := by decide +kernel
theorem dX11_spans_28 : decode cX11_spans 28 = .ok (.aload_n 0, 1) := by decide +kernel
theorem dX11_spans_29 : decode cX11_spans 29 = .ok (.aload_n 0, 1) := by decide +kernel
theorem dX11_spans_30 : decode cX11_spans 30 = .ok (.getfield 289, 3) := by decide +kernel
theorem dX11_spans_33 : decode cX11_spans 33 = .ok (.putfield 293, 3) := by decide +kernel
theorem dX11_spans_36 : decode cX11_spans 36 = .ok (.iconst 0, 1) := by decide +kernel
theorem dX11_spans_37 : decode cX11_spans 37 = .ok (.istore 4, 2) := by decide +kernel
theorem dX11_spans_39 : decode cX11_spans 39 = .ok (.iload 4, 2) := by decide +kernel
theorem dX11_spans_41 : decode cX11_spans 41 = .ok (.aload_n 0, 1) := by decide +kernel
theorem dX11_spans_42 : decode cX11_spans 42 = .ok (.iload_n 1, 1) := by decide +kernel
theorem dX11_spans_43 : decode cX11_spans 43 = .ok (.invokevirtual 256, 3) := by decide +kernel
theorem dX11_spans_46 : decode cX11_spans 46 = .ok (.if_icmp .ge 167, 3) := by decide +kernel
theorem dX11_spans_49 : decode cX11_spans 49 = .ok (.aload_n 0, 1) := by decide +kernel
theorem dX11_spans_50 : decode cX11_spans 50 = .ok (.getfield 53, 3) := by decide +kernel
theorem dX11_spans_53 : decode cX11_spans 53 = .ok (.iconst 3, 1) := by decide +kernel
theorem dX11_spans_54 : decode cX11_spans 54 = .ok (.iload_n 1, 1) := by decide +kernel
theorem dX11_spans_55 : decode cX11_spans 55 = .ok (.imul, 1) := by decide +kernel
theorem dX11_spans_56 : decode cX11_spans 56 = .ok (.iload 4, 2) := by decide +kernel
theorem dX11_spans_58 : decode cX11_spans 58 = .ok (.iadd, 1) := by decide +kernel
theorem dX11_spans_59 : decode cX11_spans 59 = .ok (.iaload, 1) := by decide +kernel
theorem dX11_spans_60 : decode cX11_spans 60 = .ok (.i2l, 1) := by decide +kernel
theorem dX11_spans_61 : decode cX11_spans 61 = .ok (.aload_n 0, 1) := by decide +kernel
theorem dX11_spans_62 : decode cX11_spans 62 = .ok (.iload_n 3, 1) := by decide +kernel
theorem dX11_spans_63 : decode cX11_spans 63 = .ok (.aload_n 0, 1) := by decide +kernel
theorem dX11_spans_64 : decode cX11_spans 64 = .ok (.getfield 121, 3) := by decide +kernel
theorem dX11_spans_67 : decode cX11_spans 67 = .ok (.iload 4, 2) := by decide +kernel
theorem dX11_spans_69 : decode cX11_spans 69 = .ok (.iconst 1, 1) := by decide +kernel
theorem dX11_spans_70 : decode cX11_spans 70 = .ok (.iadd, 1) := by decide +kernel
theorem dX11_spans_71 : decode cX11_spans 71 = .ok (.iaload, 1) := by decide +kernel
theorem dX11_spans_72 : decode cX11_spans 72 = .ok (.aload_n 0, 1) := by decide +kernel
theorem dX11_spans_73 : decode cX11_spans 73 = .ok (.getfield 105, 3) := by decide +kernel
theorem dX11_spans_76 : decode cX11_spans 76 = .ok (.iload 4, 2) := by decide +kernel
theorem dX11_spans_78 : decode cX11_spans 78 = .ok (.iconst 1, 1) := by decide +kernel
theorem dX11_spans_79 : decode cX11_spans 79 = .ok (.iadd, 1) := by decide +kernel
theorem dX11_spans_80 : decode cX11_spans 80 = .ok (.iaload, 1) := by decide +kernel
theorem dX11_spans_81 : decode cX11_spans 81 = .ok (.invokevirtual 285, 3) := by decide +kernel
theorem dX11_spans_84 : decode cX11_spans 84 = .ok (.lmul, 1) := by decide +kernel
theorem dX11_spans_85 : decode cX11_spans 85 = .ok (.lstore 5, 2) := by decide +kernel
theorem dX11_spans_87 : decode cX11_spans 87 = .ok (.aload_n 0, 1) := by decide +kernel
theorem dX11_spans_88 : decode cX11_spans 88 = .ok (.getfield 50, 3) := by decide +kernel
theorem dX11_spans_91 : decode cX11_spans 91 = .ok (.iconst 3, 1) := by decide +kernel
theorem dX11_spans_92 : decode cX11_spans 92 = .ok (.iload_n 1, 1) := by decide +kernel
theorem dX11_spans_93 : decode cX11_spans 93 = .ok (.imul, 1) := by decide +kernel
theorem dX11_spans_94 : decode cX11_spans 94 = .ok (.iload 4, 2) := by decide +kernel
theorem dX11_spans_96 : decode cX11_spans 96 = .ok (.iadd, 1) := by decide +kernel
theorem dX11_spans_97 : decode cX11_spans 97 = .ok (.iaload, 1) := by decide +kernel
theorem dX11_spans_98 : decode cX11_spans 98 = .ok (.i2l, 1) := by decide +kernel
theorem dX11_spans_99 : decode cX11_spans 99 = .ok (.aload_n 0, 1) := by decide +kernel
theorem dX11_spans_100 : decode cX11_spans 100 = .ok (.getfield 289, 3) := by decide +kernel
theorem dX11_spans_103 : decode cX11_spans 103 = .ok (.lmul, 1) := by decide +kernel
theorem dX11_spans_104 : decode cX11_spans 104 = .ok (.lstore 7, 2) := by decide +kernel
theorem dX11_spans_106 : decode cX11_spans 106 = .ok (.aload_n 0, 1) := by decide +kernel
theorem dX11_spans_107 : decode cX11_spans 107 = .ok (.getfield 50, 3) := by decide +kernel
theorem dX11_spans_110 : decode cX11_spans 110 = .ok (.iconst 3, 1) := by decide +kernel
theorem dX11_spans_111 : decode cX11_spans 111 = .ok (.iload_n 1, 1) := by decide +kernel
theorem dX11_spans_112 : decode cX11_spans 112 = .ok (.imul, 1) := by decide +kernel
theorem dX11_spans_113 : decode cX11_spans 113 = .ok (.iload 4, 2) := by decide +kernel
theorem dX11_spans_115 : decode cX11_spans 115 = .ok (.iadd, 1) := by decide +kernel
theorem dX11_spans_116 : decode cX11_spans 116 = .ok (.iaload, 1) := by decide +kernel
theorem dX11_spans_117 : decode cX11_spans 117 = .ok (.i2l, 1) := by decide +kernel
theorem dX11_spans_118 : decode cX11_spans 118 = .ok (.aload_n 0, 1) := by decide +kernel
theorem dX11_spans_119 : decode cX11_spans 119 = .ok (.getfield 293, 3) := by decide +kernel
theorem dX11_spans_122 : decode cX11_spans 122 = .ok (.lmul, 1) := by decide +kernel
theorem dX11_spans_123 : decode cX11_spans 123 = .ok (.lstore 9, 2) := by decide +kernel
theorem dX11_spans_125 : decode cX11_spans 125 = .ok (.aload_n 0, 1) := by decide +kernel
theorem dX11_spans_126 : decode cX11_spans 126 = .ok (.aload_n 0, 1) := by decide +kernel
theorem dX11_spans_127 : decode cX11_spans 127 = .ok (.iload_n 1, 1) := by decide +kernel
theorem dX11_spans_128 : decode cX11_spans 128 = .ok (.iload 4, 2) := by decide +kernel
theorem dX11_spans_130 : decode cX11_spans 130 = .ok (.lload 7, 2) := by decide +kernel
theorem dX11_spans_132 : decode cX11_spans 132 = .ok (.lload 5, 2) := by decide +kernel
theorem dX11_spans_134 : decode cX11_spans 134 = .ok (.lload 7, 2) := by decide +kernel
theorem dX11_spans_136 : decode cX11_spans 136 = .ok (.lsub, 1) := by decide +kernel
theorem dX11_spans_137 : decode cX11_spans 137 = .ok (.aload_n 0, 1) := by decide +kernel
theorem dX11_spans_138 : decode cX11_spans 138 = .ok (.iload_n 1, 1) := by decide +kernel
theorem dX11_spans_139 : decode cX11_spans 139 = .ok (.iload 4, 2) := by decide +kernel
theorem dX11_spans_141 : decode cX11_spans 141 = .ok (.invokevirtual 260, 3) := by decide +kernel
theorem dX11_spans_144 : decode cX11_spans 144 = .ok (.i2l, 1) := by decide +kernel
theorem dX11_spans_145 : decode cX11_spans 145 = .ok (.lmul, 1) := by decide +kernel
theorem dX11_spans_146 : decode cX11_spans 146 = .ok (.aload_n 0, 1) := by decide +kernel
theorem dX11_spans_147 : decode cX11_spans 147 = .ok (.getfield 47, 3) := by decide +kernel
theorem dX11_spans_150 : decode cX11_spans 150 = .ok (.iload_n 1, 1) := by decide +kernel
theorem dX11_spans_151 : decode cX11_spans 151 = .ok (.iaload, 1) := by decide +kernel
theorem dX11_spans_152 : decode cX11_spans 152 = .ok (.i2l, 1) := by decide +kernel
theorem dX11_spans_153 : decode cX11_spans 153 = .ok (.invokestatic 204, 3) := by decide +kernel
theorem dX11_spans_156 : decode cX11_spans 156 = .ok (.ladd, 1) := by decide +kernel
theorem dX11_spans_157 : decode cX11_spans 157 = .ok (.iload_n 2, 1) := by decide +kernel
theorem dX11_spans_158 : decode cX11_spans 158 = .ok (.i2l, 1) := by decide +kernel
theorem dX11_spans_159 : decode cX11_spans 159 = .ok (.lsub, 1) := by decide +kernel
theorem dX11_spans_160 : decode cX11_spans 160 = .ok (.invokevirtual 264, 3) := by decide +kernel
theorem dX11_spans_163 : decode cX11_spans 163 = .ok (.putfield 289, 3) := by decide +kernel
theorem dX11_spans_166 : decode cX11_spans 166 = .ok (.aload_n 0, 1) := by decide +kernel
theorem dX11_spans_167 : decode cX11_spans 167 = .ok (.aload_n 0, 1) := by decide +kernel
theorem dX11_spans_168 : decode cX11_spans 168 = .ok (.iload_n 1, 1) := by decide +kernel
theorem dX11_spans_169 : decode cX11_spans 169 = .ok (.iload 4, 2) := by decide +kernel
theorem dX11_spans_171 : decode cX11_spans 171 = .ok (.lload 9, 2) := by decide +kernel
theorem dX11_spans_173 : decode cX11_spans 173 = .ok (.lload 5, 2) := by decide +kernel
theorem dX11_spans_175 : decode cX11_spans 175 = .ok (.lload 9, 2) := by decide +kernel
theorem dX11_spans_177 : decode cX11_spans 177 = .ok (.lsub, 1) := by decide +kernel
theorem dX11_spans_178 : decode cX11_spans 178 = .ok (.aload_n 0, 1) := by decide +kernel
theorem dX11_spans_179 : decode cX11_spans 179 = .ok (.iload_n 1, 1) := by decide +kernel
theorem dX11_spans_180 : decode cX11_spans 180 = .ok (.iload 4, 2) := by decide +kernel
theorem dX11_spans_182 : decode cX11_spans 182 = .ok (.invokevirtual 260, 3) := by decide +kernel
theorem dX11_spans_185 : decode cX11_spans 185 = .ok (.i2l, 1) := by decide +kernel
theorem dX11_spans_186 : decode cX11_spans 186 = .ok (.lmul, 1) := by decide +kernel
theorem dX11_spans_187 : decode cX11_spans 187 = .ok (.aload_n 0, 1) := by decide +kernel
theorem dX11_spans_188 : decode cX11_spans 188 = .ok (.getfield 47, 3) := by decide +kernel
theorem dX11_spans_191 : decode cX11_spans 191 = .ok (.iload_n 1, 1) := by decide +kernel
theorem dX11_spans_192 : decode cX11_spans 192 = .ok (.iaload, 1) := by decide +kernel
theorem dX11_spans_193 : decode cX11_spans 193 = .ok (.i2l, 1) := by decide +kernel
theorem dX11_spans_194 : decode cX11_spans 194 = .ok (.invokestatic 204, 3) := by decide +kernel
theorem dX11_spans_197 : decode cX11_spans 197 = .ok (.ladd, 1) := by decide +kernel
theorem dX11_spans_198 : decode cX11_spans 198 = .ok (.iload_n 2, 1) := by decide +kernel
theorem dX11_spans_199 : decode cX11_spans 199 = .ok (.i2l, 1) := by decide +kernel
theorem dX11_spans_200 : decode cX11_spans 200 = .ok (.ladd, 1) := by decide +kernel
theorem dX11_spans_201 : decode cX11_spans 201 = .ok (.invokevirtual 264, 3) := by decide +kernel
theorem dX11_spans_204 : decode cX11_spans 204 = .ok (.putfield 293, 3) := by decide +kernel
theorem dX11_spans_207 : decode cX11_spans 207 = .ok (.iinc 4 1, 3) := by decide +kernel
theorem dX11_spans_210 : decode cX11_spans 210 = .ok (.goto (-171), 3) := by decide +kernel
theorem dX11_spans_213 : decode cX11_spans 213 = .ok (.return_, 1) := by decide +kernel
theorem dX11_span_0 : decode cX11_span 0 = .ok (.aload_n 0, 1) := by decide +kernel
theorem dX11_span_1 : decode cX11_span 1 = .ok (.getfield 65, 3) := by decide +kernel
theorem dX11_span_4 : decode cX11_span 4 = .ok (.iconst (-1), 1) := by decide +kernel
theorem dX11_span_5 : decode cX11_span 5 = .ok (.if_icmp .eq 15, 3) := by decide +kernel
theorem dX11_span_8 : decode cX11_span 8 = .ok (.iload_n 1, 1) := by decide +kernel
theorem dX11_span_9 : decode cX11_span 9 = .ok (.i2l, 1) := by decide +kernel
theorem dX11_span_10 : decode cX11_span 10 = .ok (.lconst 0, 1) := by decide +kernel
theorem dX11_span_11 : decode cX11_span 11 = .ok (.ldc2_w 214, 3) := by decide +kernel
theorem dX11_span_14 : decode cX11_span 14 = .ok (.invokestatic 139, 3) := by decide +kernel
theorem dX11_span_17 : decode cX11_span 17 = .ok (.ifCond .ne 6, 3) := by decide +kernel
theorem dX11_span_20 : decode cX11_span 20 = .ok (.ldc 189, 2) := by decide +kernel
theorem dX11_span_22 : decode cX11_span 22 = .ok (.ireturn, 1) := by decide +kernel
theorem dX11_span_23 : decode cX11_span 23 = .ok (.aload_n 0, 1) := by decide +kernel
theorem dX11_span_24 : decode cX11_span 24 = .ok (.aload_n 0, 1) := by decide +kernel
theorem dX11_span_25 : decode cX11_span 25 = .ok (.getfield 69, 3) := by decide +kernel
theorem dX11_span_28 : decode cX11_span 28 = .ok (.iconst 0, 1) := by decide +kernel
theorem dX11_span_29 : decode cX11_span 29 = .ok (.invokevirtual 271, 3) := by decide +kernel
theorem dX11_span_32 : decode cX11_span 32 = .ok (.iconst 0, 1) := by decide +kernel
theorem dX11_span_33 : decode cX11_span 33 = .ok (.istore_n 3, 1) := by decide +kernel
theorem dX11_span_34 : decode cX11_span 34 = .ok (.iload_n 3, 1) := by decide +kernel
theorem dX11_span_35 : decode cX11_span 35 = .ok (.iconst 4, 1) := by decide +kernel
theorem dX11_span_36 : decode cX11_span 36 = .ok (.if_icmp .ge 28, 3) := by decide +kernel
theorem dX11_span_39 : decode cX11_span 39 = .ok (.aload_n 0, 1) := by decide +kernel
theorem dX11_span_40 : decode cX11_span 40 = .ok (.getfield 121, 3) := by decide +kernel
theorem dX11_span_43 : decode cX11_span 43 = .ok (.iload_n 3, 1) := by decide +kernel
theorem dX11_span_44 : decode cX11_span 44 = .ok (.aload_n 0, 1) := by decide +kernel
theorem dX11_span_45 : decode cX11_span 45 = .ok (.getfield 44, 3) := by decide +kernel
theorem dX11_span_48 : decode cX11_span 48 = .ok (.iconst 4, 1) := by decide +kernel
theorem dX11_span_49 : decode cX11_span 49 = .ok (.aload_n 0, 1) := by decide +kernel
theorem dX11_span_50 : decode cX11_span 50 = .ok (.getfield 65, 3) := by decide +kernel
theorem dX11_span_53 : decode cX11_span 53 = .ok (.imul, 1) := by decide +kernel
theorem dX11_span_54 : decode cX11_span 54 = .ok (.iload_n 3, 1) := by decide +kernel
theorem dX11_span_55 : decode cX11_span 55 = .ok (.iadd, 1) := by decide +kernel
theorem dX11_span_56 : decode cX11_span 56 = .ok (.iaload, 1) := by decide +kernel
theorem dX11_span_57 : decode cX11_span 57 = .ok (.iastore, 1) := by decide +kernel
theorem dX11_span_58 : decode cX11_span 58 = .ok (.iinc 3 1, 3) := by decide +kernel
theorem dX11_span_61 : decode cX11_span 61 = .ok (.goto (-27), 3) := by decide +kernel
theorem dX11_span_64 : decode cX11_span 64 = .ok (.aload_n 0, 1) := by decide +kernel
theorem dX11_span_65 : decode cX11_span 65 = .ok (.aload_n 0, 1) := by decide +kernel
theorem dX11_span_66 : decode cX11_span 66 = .ok (.getfield 65, 3) := by decide +kernel
theorem dX11_span_69 : decode cX11_span 69 = .ok (.iload_n 1, 1) := by decide +kernel
theorem dX11_span_70 : decode cX11_span 70 = .ok (.invokevirtual 296, 3) := by decide +kernel
theorem dX11_span_73 : decode cX11_span 73 = .ok (.iload_n 2, 1) := by decide +kernel
theorem dX11_span_74 : decode cX11_span 74 = .ok (.ifCond .eq 10, 3) := by decide +kernel
theorem dX11_span_77 : decode cX11_span 77 = .ok (.aload_n 0, 1) := by decide +kernel
theorem dX11_span_78 : decode cX11_span 78 = .ok (.getfield 293, 3) := by decide +kernel
theorem dX11_span_81 : decode cX11_span 81 = .ok (.goto 7, 3) := by decide +kernel
theorem dX11_span_84 : decode cX11_span 84 = .ok (.aload_n 0, 1) := by decide +kernel
theorem dX11_span_85 : decode cX11_span 85 = .ok (.getfield 289, 3) := by decide +kernel
theorem dX11_span_88 : decode cX11_span 88 = .ok (.l2i, 1) := by decide +kernel
theorem dX11_span_89 : decode cX11_span 89 = .ok (.ireturn, 1) := by decide +kernel
theorem dX11_widest_0 : decode cX11_widest 0 = .ok (.aload_n 0, 1) := by decide +kernel
theorem dX11_widest_1 : decode cX11_widest 1 = .ok (.getfield 41, 3) := by decide +kernel
theorem dX11_widest_4 : decode cX11_widest 4 = .ok (.iload_n 1, 1) := by decide +kernel
theorem dX11_widest_5 : decode cX11_widest 5 = .ok (.iaload, 1) := by decide +kernel
theorem dX11_widest_6 : decode cX11_widest 6 = .ok (.istore_n 3, 1) := by decide +kernel
theorem dX11_widest_7 : decode cX11_widest 7 = .ok (.aload_n 0, 1) := by decide +kernel
theorem dX11_widest_8 : decode cX11_widest 8 = .ok (.getfield 23, 3) := by decide +kernel
theorem dX11_widest_11 : decode cX11_widest 11 = .ok (.iload_n 3, 1) := by decide +kernel
theorem dX11_widest_12 : decode cX11_widest 12 = .ok (.iaload, 1) := by decide +kernel
theorem dX11_widest_13 : decode cX11_widest 13 = .ok (.iconst 1, 1) := by decide +kernel
theorem dX11_widest_14 : decode cX11_widest 14 = .ok (.isub, 1) := by decide +kernel
theorem dX11_widest_15 : decode cX11_widest 15 = .ok (.istore 4, 2) := by decide +kernel
theorem dX11_widest_17 : decode cX11_widest 17 = .ok (.lconst 0, 1) := by decide +kernel
theorem dX11_widest_18 : decode cX11_widest 18 = .ok (.lstore 5, 2) := by decide +kernel
theorem dX11_widest_20 : decode cX11_widest 20 = .ok (.iconst 0, 1) := by decide +kernel
theorem dX11_widest_21 : decode cX11_widest 21 = .ok (.istore 7, 2) := by decide +kernel
theorem dX11_widest_23 : decode cX11_widest 23 = .ok (.iload 7, 2) := by decide +kernel
theorem dX11_widest_25 : decode cX11_widest 25 = .ok (.iconst 1, 1) := by decide +kernel
theorem dX11_widest_26 : decode cX11_widest 26 = .ok (.iload 4, 2) := by decide +kernel
theorem dX11_widest_28 : decode cX11_widest 28 = .ok (.ishl, 1) := by decide +kernel
theorem dX11_widest_29 : decode cX11_widest 29 = .ok (.if_icmp .ge 96, 3) := by decide +kernel
theorem dX11_widest_32 : decode cX11_widest 32 = .ok (.iconst 0, 1) := by decide +kernel
theorem dX11_widest_33 : decode cX11_widest 33 = .ok (.istore 8, 2) := by decide +kernel
theorem dX11_widest_35 : decode cX11_widest 35 = .ok (.iload 8, 2) := by decide +kernel
theorem dX11_widest_37 : decode cX11_widest 37 = .ok (.iload 4, 2) := by decide +kernel
theorem dX11_widest_39 : decode cX11_widest 39 = .ok (.if_icmp .ge 48, 3) := by decide +kernel
theorem dX11_widest_42 : decode cX11_widest 42 = .ok (.aload_n 0, 1) := by decide +kernel
theorem dX11_widest_43 : decode cX11_widest 43 = .ok (.getfield 105, 3) := by decide +kernel
theorem dX11_widest_46 : decode cX11_widest 46 = .ok (.iload 8, 2) := by decide +kernel
theorem dX11_widest_48 : decode cX11_widest 48 = .ok (.iload 7, 2) := by decide +kernel
theorem dX11_widest_50 : decode cX11_widest 50 = .ok (.iload 8, 2) := by decide +kernel
theorem dX11_widest_52 : decode cX11_widest 52 = .ok (.ishr, 1) := by decide +kernel
theorem dX11_widest_53 : decode cX11_widest 53 = .ok (.iconst 1, 1) := by decide +kernel
theorem dX11_widest_54 : decode cX11_widest 54 = .ok (.iand, 1) := by decide +kernel
theorem dX11_widest_55 : decode cX11_widest 55 = .ok (.ifCond .ne 7, 3) := by decide +kernel
theorem dX11_widest_58 : decode cX11_widest 58 = .ok (.iconst 0, 1) := by decide +kernel
theorem dX11_widest_59 : decode cX11_widest 59 = .ok (.goto 21, 3) := by decide +kernel
theorem dX11_widest_62 : decode cX11_widest 62 = .ok (.aload_n 0, 1) := by decide +kernel
theorem dX11_widest_63 : decode cX11_widest 63 = .ok (.getfield 35, 3) := by decide +kernel
theorem dX11_widest_66 : decode cX11_widest 66 = .ok (.iconst 5, 1) := by decide +kernel
theorem dX11_widest_67 : decode cX11_widest 67 = .ok (.iload_n 3, 1) := by decide +kernel
theorem dX11_widest_68 : decode cX11_widest 68 = .ok (.imul, 1) := by decide +kernel
theorem dX11_widest_69 : decode cX11_widest 69 = .ok (.aload_n 0, 1) := by decide +kernel
theorem dX11_widest_70 : decode cX11_widest 70 = .ok (.getfield 121, 3) := by decide +kernel
theorem dX11_widest_73 : decode cX11_widest 73 = .ok (.iload 8, 2) := by decide +kernel
theorem dX11_widest_75 : decode cX11_widest 75 = .ok (.iaload, 1) := by decide +kernel
theorem dX11_widest_76 : decode cX11_widest 76 = .ok (.iadd, 1) := by decide +kernel
theorem dX11_widest_77 : decode cX11_widest 77 = .ok (.iaload, 1) := by decide +kernel
theorem dX11_widest_78 : decode cX11_widest 78 = .ok (.iconst 1, 1) := by decide +kernel
theorem dX11_widest_79 : decode cX11_widest 79 = .ok (.isub, 1) := by decide +kernel
theorem dX11_widest_80 : decode cX11_widest 80 = .ok (.iastore, 1) := by decide +kernel
theorem dX11_widest_81 : decode cX11_widest 81 = .ok (.iinc 8 1, 3) := by decide +kernel
theorem dX11_widest_84 : decode cX11_widest 84 = .ok (.goto (-49), 3) := by decide +kernel
theorem dX11_widest_87 : decode cX11_widest 87 = .ok (.aload_n 0, 1) := by decide +kernel
theorem dX11_widest_88 : decode cX11_widest 88 = .ok (.iload_n 1, 1) := by decide +kernel
theorem dX11_widest_89 : decode cX11_widest 89 = .ok (.iload_n 2, 1) := by decide +kernel
theorem dX11_widest_90 : decode cX11_widest 90 = .ok (.invokevirtual 296, 3) := by decide +kernel
theorem dX11_widest_93 : decode cX11_widest 93 = .ok (.aload_n 0, 1) := by decide +kernel
theorem dX11_widest_94 : decode cX11_widest 94 = .ok (.getfield 293, 3) := by decide +kernel
theorem dX11_widest_97 : decode cX11_widest 97 = .ok (.aload_n 0, 1) := by decide +kernel
theorem dX11_widest_98 : decode cX11_widest 98 = .ok (.getfield 289, 3) := by decide +kernel
theorem dX11_widest_101 : decode cX11_widest 101 = .ok (.lsub, 1) := by decide +kernel
theorem dX11_widest_102 : decode cX11_widest 102 = .ok (.lload 5, 2) := by decide +kernel
theorem dX11_widest_104 : decode cX11_widest 104 = .ok (.lcmp, 1) := by decide +kernel
theorem dX11_widest_105 : decode cX11_widest 105 = .ok (.ifCond .le 14, 3) := by decide +kernel
theorem dX11_widest_108 : decode cX11_widest 108 = .ok (.aload_n 0, 1) := by decide +kernel
theorem dX11_widest_109 : decode cX11_widest 109 = .ok (.getfield 293, 3) := by decide +kernel
theorem dX11_widest_112 : decode cX11_widest 112 = .ok (.aload_n 0, 1) := by decide +kernel
theorem dX11_widest_113 : decode cX11_widest 113 = .ok (.getfield 289, 3) := by decide +kernel
theorem dX11_widest_116 : decode cX11_widest 116 = .ok (.lsub, 1) := by decide +kernel
theorem dX11_widest_117 : decode cX11_widest 117 = .ok (.lstore 5, 2) := by decide +kernel
theorem dX11_widest_119 : decode cX11_widest 119 = .ok (.iinc 7 1, 3) := by decide +kernel
theorem dX11_widest_122 : decode cX11_widest 122 = .ok (.goto (-99), 3) := by decide +kernel
theorem dX11_widest_125 : decode cX11_widest 125 = .ok (.lload 5, 2) := by decide +kernel
theorem dX11_widest_127 : decode cX11_widest 127 = .ok (.lreturn, 1) := by decide +kernel
theorem dX11_sharpest_0 : decode cX11_sharpest 0 = .ok (.aload_n 0, 1) := by decide +kernel
theorem dX11_sharpest_1 : decode cX11_sharpest 1 = .ok (.iload_n 1, 1) := by decide +kernel
theorem dX11_sharpest_2 : decode cX11_sharpest 2 = .ok (.invokevirtual 221, 3) := by decide +kernel
theorem dX11_sharpest_5 : decode cX11_sharpest 5 = .ok (.ifCond .eq 25, 3) := by decide +kernel
theorem dX11_sharpest_8 : decode cX11_sharpest 8 = .ok (.iload_n 2, 1) := by decide +kernel
theorem dX11_sharpest_9 : decode cX11_sharpest 9 = .ok (.i2l, 1) := by decide +kernel
theorem dX11_sharpest_10 : decode cX11_sharpest 10 = .ok (.lconst 0, 1) := by decide +kernel
theorem dX11_sharpest_11 : decode cX11_sharpest 11 = .ok (.ldc2_w 214, 3) := by decide +kernel
theorem dX11_sharpest_14 : decode cX11_sharpest 14 = .ok (.invokestatic 139, 3) := by decide +kernel
theorem dX11_sharpest_17 : decode cX11_sharpest 17 = .ok (.ifCond .eq 13, 3) := by decide +kernel
theorem dX11_sharpest_20 : decode cX11_sharpest 20 = .ok (.iload_n 3, 1) := by decide +kernel
theorem dX11_sharpest_21 : decode cX11_sharpest 21 = .ok (.i2l, 1) := by decide +kernel
theorem dX11_sharpest_22 : decode cX11_sharpest 22 = .ok (.lconst 0, 1) := by decide +kernel
theorem dX11_sharpest_23 : decode cX11_sharpest 23 = .ok (.lconst 1, 1) := by decide +kernel
theorem dX11_sharpest_24 : decode cX11_sharpest 24 = .ok (.invokestatic 139, 3) := by decide +kernel
theorem dX11_sharpest_27 : decode cX11_sharpest 27 = .ok (.ifCond .ne 5, 3) := by decide +kernel
theorem dX11_sharpest_30 : decode cX11_sharpest 30 = .ok (.iconst (-1), 1) := by decide +kernel
theorem dX11_sharpest_31 : decode cX11_sharpest 31 = .ok (.ireturn, 1) := by decide +kernel
theorem dX11_sharpest_32 : decode cX11_sharpest 32 = .ok (.aload_n 0, 1) := by decide +kernel
theorem dX11_sharpest_33 : decode cX11_sharpest 33 = .ok (.getfield 23, 3) := by decide +kernel
theorem dX11_sharpest_36 : decode cX11_sharpest 36 = .ok (.aload_n 0, 1) := by decide +kernel
theorem dX11_sharpest_37 : decode cX11_sharpest 37 = .ok (.getfield 41, 3) := by decide +kernel
theorem dX11_sharpest_40 : decode cX11_sharpest 40 = .ok (.iload_n 1, 1) := by decide +kernel
theorem dX11_sharpest_41 : decode cX11_sharpest 41 = .ok (.iaload, 1) := by decide +kernel
theorem dX11_sharpest_42 : decode cX11_sharpest 42 = .ok (.iaload, 1) := by decide +kernel
theorem dX11_sharpest_43 : decode cX11_sharpest 43 = .ok (.iconst 1, 1) := by decide +kernel
theorem dX11_sharpest_44 : decode cX11_sharpest 44 = .ok (.isub, 1) := by decide +kernel
theorem dX11_sharpest_45 : decode cX11_sharpest 45 = .ok (.istore 4, 2) := by decide +kernel
theorem dX11_sharpest_47 : decode cX11_sharpest 47 = .ok (.iconst (-1), 1) := by decide +kernel
theorem dX11_sharpest_48 : decode cX11_sharpest 48 = .ok (.istore 5, 2) := by decide +kernel
theorem dX11_sharpest_50 : decode cX11_sharpest 50 = .ok (.lconst 0, 1) := by decide +kernel
theorem dX11_sharpest_51 : decode cX11_sharpest 51 = .ok (.lstore 6, 2) := by decide +kernel
theorem dX11_sharpest_53 : decode cX11_sharpest 53 = .ok (.iload 4, 2) := by decide +kernel
theorem dX11_sharpest_55 : decode cX11_sharpest 55 = .ok (.iconst 2, 1) := by decide +kernel
theorem dX11_sharpest_56 : decode cX11_sharpest 56 = .ok (.if_icmp .ne 8, 3) := by decide +kernel
theorem dX11_sharpest_59 : decode cX11_sharpest 59 = .ok (.bipush 12, 2) := by decide +kernel
theorem dX11_sharpest_61 : decode cX11_sharpest 61 = .ok (.goto 17, 3) := by decide +kernel
theorem dX11_sharpest_64 : decode cX11_sharpest 64 = .ok (.iload 4, 2) := by decide +kernel
theorem dX11_sharpest_66 : decode cX11_sharpest 66 = .ok (.iconst 3, 1) := by decide +kernel
theorem dX11_sharpest_67 : decode cX11_sharpest 67 = .ok (.if_icmp .ne 8, 3) := by decide +kernel
theorem dX11_sharpest_70 : decode cX11_sharpest 70 = .ok (.bipush 123, 2) := by decide +kernel
theorem dX11_sharpest_72 : decode cX11_sharpest 72 = .ok (.goto 6, 3) := by decide +kernel
theorem dX11_sharpest_75 : decode cX11_sharpest 75 = .ok (.sipush 1234, 3) := by decide +kernel
theorem dX11_sharpest_78 : decode cX11_sharpest 78 = .ok (.istore 8, 2) := by decide +kernel
theorem dX11_sharpest_80 : decode cX11_sharpest 80 = .ok (.iload 4, 2) := by decide +kernel
theorem dX11_sharpest_82 : decode cX11_sharpest 82 = .ok (.iconst 2, 1) := by decide +kernel
theorem dX11_sharpest_83 : decode cX11_sharpest 83 = .ok (.if_icmp .ne 8, 3) := by decide +kernel
theorem dX11_sharpest_86 : decode cX11_sharpest 86 = .ok (.bipush 21, 2) := by decide +kernel
theorem dX11_sharpest_88 : decode cX11_sharpest 88 = .ok (.goto 18, 3) := by decide +kernel
theorem dX11_sharpest_91 : decode cX11_sharpest 91 = .ok (.iload 4, 2) := by decide +kernel
theorem dX11_sharpest_93 : decode cX11_sharpest 93 = .ok (.iconst 3, 1) := by decide +kernel
theorem dX11_sharpest_94 : decode cX11_sharpest 94 = .ok (.if_icmp .ne 9, 3) := by decide +kernel
theorem dX11_sharpest_97 : decode cX11_sharpest 97 = .ok (.sipush 321, 3) := by decide +kernel
theorem dX11_sharpest_100 : decode cX11_sharpest 100 = .ok (.goto 6, 3) := by decide +kernel
theorem dX11_sharpest_103 : decode cX11_sharpest 103 = .ok (.sipush 4321, 3) := by decide +kernel
theorem dX11_sharpest_106 : decode cX11_sharpest 106 = .ok (.istore 9, 2) := by decide +kernel
theorem dX11_sharpest_108 : decode cX11_sharpest 108 = .ok (.iload 8, 2) := by decide +kernel
theorem dX11_sharpest_110 : decode cX11_sharpest 110 = .ok (.istore 10, 2) := by decide +kernel
theorem dX11_sharpest_112 : decode cX11_sharpest 112 = .ok (.iload 10, 2) := by decide +kernel
theorem dX11_sharpest_114 : decode cX11_sharpest 114 = .ok (.iload 9, 2) := by decide +kernel
theorem dX11_sharpest_116 : decode cX11_sharpest 116 = .ok (.if_icmp .gt 133, 3) := by decide +kernel
theorem dX11_sharpest_119 : decode cX11_sharpest 119 = .ok (.iload 10, 2) := by decide +kernel
theorem dX11_sharpest_121 : decode cX11_sharpest 121 = .ok (.istore 11, 2) := by decide +kernel
theorem dX11_sharpest_123 : decode cX11_sharpest 123 = .ok (.iconst 0, 1) := by decide +kernel
theorem dX11_sharpest_124 : decode cX11_sharpest 124 = .ok (.istore 12, 2) := by decide +kernel
theorem dX11_sharpest_126 : decode cX11_sharpest 126 = .ok (.iload 4, 2) := by decide +kernel
theorem dX11_sharpest_128 : decode cX11_sharpest 128 = .ok (.iconst 1, 1) := by decide +kernel
theorem dX11_sharpest_129 : decode cX11_sharpest 129 = .ok (.isub, 1) := by decide +kernel
theorem dX11_sharpest_130 : decode cX11_sharpest 130 = .ok (.istore 13, 2) := by decide +kernel
theorem dX11_sharpest_132 : decode cX11_sharpest 132 = .ok (.iload 13, 2) := by decide +kernel
theorem dX11_sharpest_134 : decode cX11_sharpest 134 = .ok (.ifCond .lt 60, 3) := by decide +kernel
theorem dX11_sharpest_137 : decode cX11_sharpest 137 = .ok (.aload_n 0, 1) := by decide +kernel
theorem dX11_sharpest_138 : decode cX11_sharpest 138 = .ok (.getfield 121, 3) := by decide +kernel
theorem dX11_sharpest_141 : decode cX11_sharpest 141 = .ok (.iload 13, 2) := by decide +kernel
theorem dX11_sharpest_143 : decode cX11_sharpest 143 = .ok (.iload 11, 2) := by decide +kernel
theorem dX11_sharpest_145 : decode cX11_sharpest 145 = .ok (.bipush 10, 2) := by decide +kernel
theorem dX11_sharpest_147 : decode cX11_sharpest 147 = .ok (.irem, 1) := by decide +kernel
theorem dX11_sharpest_148 : decode cX11_sharpest 148 = .ok (.iastore, 1) := by decide +kernel
theorem dX11_sharpest_149 : decode cX11_sharpest 149 = .ok (.iload 11, 2) := by decide +kernel
theorem dX11_sharpest_151 : decode cX11_sharpest 151 = .ok (.bipush 10, 2) := by decide +kernel
theorem dX11_sharpest_153 : decode cX11_sharpest 153 = .ok (.idiv, 1) := by decide +kernel
theorem dX11_sharpest_154 : decode cX11_sharpest 154 = .ok (.istore 11, 2) := by decide +kernel
theorem dX11_sharpest_156 : decode cX11_sharpest 156 = .ok (.aload_n 0, 1) := by decide +kernel
theorem dX11_sharpest_157 : decode cX11_sharpest 157 = .ok (.getfield 121, 3) := by decide +kernel
theorem dX11_sharpest_160 : decode cX11_sharpest 160 = .ok (.iload 13, 2) := by decide +kernel
theorem dX11_sharpest_162 : decode cX11_sharpest 162 = .ok (.iaload, 1) := by decide +kernel
theorem dX11_sharpest_163 : decode cX11_sharpest 163 = .ok (.i2l, 1) := by decide +kernel
theorem dX11_sharpest_164 : decode cX11_sharpest 164 = .ok (.lconst 1, 1) := by decide +kernel
theorem dX11_sharpest_165 : decode cX11_sharpest 165 = .ok (.iload 4, 2) := by decide +kernel
theorem dX11_sharpest_167 : decode cX11_sharpest 167 = .ok (.i2l, 1) := by decide +kernel
theorem dX11_sharpest_168 : decode cX11_sharpest 168 = .ok (.invokestatic 139, 3) := by decide +kernel
theorem dX11_sharpest_171 : decode cX11_sharpest 171 = .ok (.ifCond .eq 17, 3) := by decide +kernel
theorem dX11_sharpest_174 : decode cX11_sharpest 174 = .ok (.iload 12, 2) := by decide +kernel
theorem dX11_sharpest_176 : decode cX11_sharpest 176 = .ok (.iconst 1, 1) := by decide +kernel
theorem dX11_sharpest_177 : decode cX11_sharpest 177 = .ok (.aload_n 0, 1) := by decide +kernel
theorem dX11_sharpest_178 : decode cX11_sharpest 178 = .ok (.getfield 121, 3) := by decide +kernel
theorem dX11_sharpest_181 : decode cX11_sharpest 181 = .ok (.iload 13, 2) := by decide +kernel
theorem dX11_sharpest_183 : decode cX11_sharpest 183 = .ok (.iaload, 1) := by decide +kernel
theorem dX11_sharpest_184 : decode cX11_sharpest 184 = .ok (.ishl, 1) := by decide +kernel
theorem dX11_sharpest_185 : decode cX11_sharpest 185 = .ok (.ior, 1) := by decide +kernel
theorem dX11_sharpest_186 : decode cX11_sharpest 186 = .ok (.istore 12, 2) := by decide +kernel
theorem dX11_sharpest_188 : decode cX11_sharpest 188 = .ok (.iinc 13 (-1), 3) := by decide +kernel
theorem dX11_sharpest_191 : decode cX11_sharpest 191 = .ok (.goto (-59), 3) := by decide +kernel
theorem dX11_sharpest_194 : decode cX11_sharpest 194 = .ok (.iload 12, 2) := by decide +kernel
theorem dX11_sharpest_196 : decode cX11_sharpest 196 = .ok (.iconst 1, 1) := by decide +kernel
theorem dX11_sharpest_197 : decode cX11_sharpest 197 = .ok (.iload 4, 2) := by decide +kernel
theorem dX11_sharpest_199 : decode cX11_sharpest 199 = .ok (.iconst 1, 1) := by decide +kernel
theorem dX11_sharpest_200 : decode cX11_sharpest 200 = .ok (.iadd, 1) := by decide +kernel
theorem dX11_sharpest_201 : decode cX11_sharpest 201 = .ok (.ishl, 1) := by decide +kernel
theorem dX11_sharpest_202 : decode cX11_sharpest 202 = .ok (.iconst 2, 1) := by decide +kernel
theorem dX11_sharpest_203 : decode cX11_sharpest 203 = .ok (.isub, 1) := by decide +kernel
theorem dX11_sharpest_204 : decode cX11_sharpest 204 = .ok (.if_icmp .eq 6, 3) := by decide +kernel
theorem dX11_sharpest_207 : decode cX11_sharpest 207 = .ok (.goto 36, 3) := by decide +kernel
theorem dX11_sharpest_210 : decode cX11_sharpest 210 = .ok (.aload_n 0, 1) := by decide +kernel
theorem dX11_sharpest_211 : decode cX11_sharpest 211 = .ok (.iload_n 1, 1) := by decide +kernel
theorem dX11_sharpest_212 : decode cX11_sharpest 212 = .ok (.iload_n 2, 1) := by decide +kernel
theorem dX11_sharpest_213 : decode cX11_sharpest 213 = .ok (.invokevirtual 300, 3) := by decide +kernel
theorem dX11_sharpest_216 : decode cX11_sharpest 216 = .ok (.lstore 13, 2) := by decide +kernel
theorem dX11_sharpest_218 : decode cX11_sharpest 218 = .ok (.iload 5, 2) := by decide +kernel
theorem dX11_sharpest_220 : decode cX11_sharpest 220 = .ok (.iconst (-1), 1) := by decide +kernel
theorem dX11_sharpest_221 : decode cX11_sharpest 221 = .ok (.if_icmp .eq 14, 3) := by decide +kernel
theorem dX11_sharpest_224 : decode cX11_sharpest 224 = .ok (.lload 13, 2) := by decide +kernel
theorem dX11_sharpest_226 : decode cX11_sharpest 226 = .ok (.lload 6, 2) := by decide +kernel
theorem dX11_sharpest_228 : decode cX11_sharpest 228 = .ok (.lcmp, 1) := by decide +kernel
theorem dX11_sharpest_229 : decode cX11_sharpest 229 = .ok (.ifCond .lt 6, 3) := by decide +kernel
theorem dX11_sharpest_232 : decode cX11_sharpest 232 = .ok (.goto 11, 3) := by decide +kernel
theorem dX11_sharpest_235 : decode cX11_sharpest 235 = .ok (.iload 10, 2) := by decide +kernel
theorem dX11_sharpest_237 : decode cX11_sharpest 237 = .ok (.istore 5, 2) := by decide +kernel
theorem dX11_sharpest_239 : decode cX11_sharpest 239 = .ok (.lload 13, 2) := by decide +kernel
theorem dX11_sharpest_241 : decode cX11_sharpest 241 = .ok (.lstore 6, 2) := by decide +kernel
theorem dX11_sharpest_243 : decode cX11_sharpest 243 = .ok (.iinc 10 1, 3) := by decide +kernel
theorem dX11_sharpest_246 : decode cX11_sharpest 246 = .ok (.goto (-134), 3) := by decide +kernel
theorem dX11_sharpest_249 : decode cX11_sharpest 249 = .ok (.iload_n 3, 1) := by decide +kernel
theorem dX11_sharpest_250 : decode cX11_sharpest 250 = .ok (.ifCond .ne 8, 3) := by decide +kernel
theorem dX11_sharpest_253 : decode cX11_sharpest 253 = .ok (.iload 5, 2) := by decide +kernel
theorem dX11_sharpest_255 : decode cX11_sharpest 255 = .ok (.goto 6, 3) := by decide +kernel
theorem dX11_sharpest_258 : decode cX11_sharpest 258 = .ok (.lload 6, 2) := by decide +kernel
theorem dX11_sharpest_260 : decode cX11_sharpest 260 = .ok (.l2i, 1) := by decide +kernel
theorem dX11_sharpest_261 : decode cX11_sharpest 261 = .ok (.ireturn, 1) := by decide +kernel
theorem dX11_holds_0 : decode cX11_holds 0 = .ok (.lload_n 1, 1) := by decide +kernel
theorem dX11_holds_1 : decode cX11_holds 1 = .ok (.aload_n 0, 1) := by decide +kernel
theorem dX11_holds_2 : decode cX11_holds 2 = .ok (.getfield 303, 3) := by decide +kernel
theorem dX11_holds_5 : decode cX11_holds 5 = .ok (.lcmp, 1) := by decide +kernel
theorem dX11_holds_6 : decode cX11_holds 6 = .ok (.ifCond .ge 8, 3) := by decide +kernel
theorem dX11_holds_9 : decode cX11_holds 9 = .ok (.aload_n 0, 1) := by decide +kernel
theorem dX11_holds_10 : decode cX11_holds 10 = .ok (.lload_n 1, 1) := by decide +kernel
theorem dX11_holds_11 : decode cX11_holds 11 = .ok (.putfield 303, 3) := by decide +kernel
theorem dX11_holds_14 : decode cX11_holds 14 = .ok (.lload_n 1, 1) := by decide +kernel
theorem dX11_holds_15 : decode cX11_holds 15 = .ok (.aload_n 0, 1) := by decide +kernel
theorem dX11_holds_16 : decode cX11_holds 16 = .ok (.getfield 306, 3) := by decide +kernel
theorem dX11_holds_19 : decode cX11_holds 19 = .ok (.lcmp, 1) := by decide +kernel
theorem dX11_holds_20 : decode cX11_holds 20 = .ok (.ifCond .le 8, 3) := by decide +kernel
theorem dX11_holds_23 : decode cX11_holds 23 = .ok (.aload_n 0, 1) := by decide +kernel
theorem dX11_holds_24 : decode cX11_holds 24 = .ok (.lload_n 1, 1) := by decide +kernel
theorem dX11_holds_25 : decode cX11_holds 25 = .ok (.putfield 306, 3) := by decide +kernel
theorem dX11_holds_28 : decode cX11_holds 28 = .ok (.return_, 1) := by decide +kernel
theorem dX11_tall_0 : decode cX11_tall 0 = .ok (.aload_n 0, 1) := by decide +kernel
theorem dX11_tall_1 : decode cX11_tall 1 = .ok (.getfield 41, 3) := by decide +kernel
theorem dX11_tall_4 : decode cX11_tall 4 = .ok (.iload_n 1, 1) := by decide +kernel
theorem dX11_tall_5 : decode cX11_tall 5 = .ok (.iaload, 1) := by decide +kernel
theorem dX11_tall_6 : decode cX11_tall 6 = .ok (.istore 7, 2) := by decide +kernel
theorem dX11_tall_8 : decode cX11_tall 8 = .ok (.aload_n 0, 1) := by decide +kernel
theorem dX11_tall_9 : decode cX11_tall 9 = .ok (.ldc2_w 309, 3) := by decide +kernel
theorem dX11_tall_12 : decode cX11_tall 12 = .ok (.putfield 303, 3) := by decide +kernel
theorem dX11_tall_15 : decode cX11_tall 15 = .ok (.aload_n 0, 1) := by decide +kernel
theorem dX11_tall_16 : decode cX11_tall 16 = .ok (.ldc2_w 311, 3) := by decide +kernel
theorem dX11_tall_19 : decode cX11_tall 19 = .ok (.putfield 306, 3) := by decide +kernel
theorem dX11_tall_22 : decode cX11_tall 22 = .ok (.lconst 0, 1) := by decide +kernel
theorem dX11_tall_23 : decode cX11_tall 23 = .ok (.lstore 8, 2) := by decide +kernel
theorem dX11_tall_25 : decode cX11_tall 25 = .ok (.lconst 0, 1) := by decide +kernel
theorem dX11_tall_26 : decode cX11_tall 26 = .ok (.lstore 10, 2) := by decide +kernel
theorem dX11_tall_28 : decode cX11_tall 28 = .ok (.iconst 0, 1) := by decide +kernel
theorem dX11_tall_29 : decode cX11_tall 29 = .ok (.istore 12, 2) := by decide +kernel
theorem dX11_tall_31 : decode cX11_tall 31 = .ok (.iload 12, 2) := by decide +kernel
theorem dX11_tall_33 : decode cX11_tall 33 = .ok (.iload_n 2, 1) := by decide +kernel
theorem dX11_tall_34 : decode cX11_tall 34 = .ok (.iconst 1, 1) := by decide +kernel
theorem dX11_tall_35 : decode cX11_tall 35 = .ok (.iadd, 1) := by decide +kernel
theorem dX11_tall_36 : decode cX11_tall 36 = .ok (.if_icmp .gt 164, 3) := by decide +kernel
theorem dX11_tall_39 : decode cX11_tall 39 = .ok (.aload_n 0, 1) := by decide +kernel
theorem dX11_tall_40 : decode cX11_tall 40 = .ok (.getfield 44, 3) := by decide +kernel
theorem dX11_tall_43 : decode cX11_tall 43 = .ok (.iconst 4, 1) := by decide +kernel
theorem dX11_tall_44 : decode cX11_tall 44 = .ok (.iload_n 1, 1) := by decide +kernel
theorem dX11_tall_45 : decode cX11_tall 45 = .ok (.imul, 1) := by decide +kernel
theorem dX11_tall_46 : decode cX11_tall 46 = .ok (.iload 12, 2) := by decide +kernel
theorem dX11_tall_48 : decode cX11_tall 48 = .ok (.iadd, 1) := by decide +kernel
theorem dX11_tall_49 : decode cX11_tall 49 = .ok (.iaload, 1) := by decide +kernel
theorem dX11_tall_50 : decode cX11_tall 50 = .ok (.istore 13, 2) := by decide +kernel
theorem dX11_tall_52 : decode cX11_tall 52 = .ok (.aload_n 0, 1) := by decide +kernel
theorem dX11_tall_53 : decode cX11_tall 53 = .ok (.iload 7, 2) := by decide +kernel
theorem dX11_tall_55 : decode cX11_tall 55 = .ok (.iload 13, 2) := by decide +kernel
theorem dX11_tall_57 : decode cX11_tall 57 = .ok (.iconst 0, 1) := by decide +kernel
theorem dX11_tall_58 : decode cX11_tall 58 = .ok (.invokevirtual 285, 3) := by decide +kernel
theorem dX11_tall_61 : decode cX11_tall 61 = .ok (.lstore 14, 2) := by decide +kernel
theorem dX11_tall_63 : decode cX11_tall 63 = .ok (.lload 14, 2) := by decide +kernel
theorem dX11_tall_65 : decode cX11_tall 65 = .ok (.lstore 16, 2) := by decide +kernel
theorem dX11_tall_67 : decode cX11_tall 67 = .ok (.iconst 0, 1) := by decide +kernel
theorem dX11_tall_68 : decode cX11_tall 68 = .ok (.istore 18, 2) := by decide +kernel
theorem dX11_tall_70 : decode cX11_tall 70 = .ok (.iload 18, 2) := by decide +kernel
theorem dX11_tall_72 : decode cX11_tall 72 = .ok (.aload_n 0, 1) := by decide +kernel
theorem dX11_tall_73 : decode cX11_tall 73 = .ok (.getfield 35, 3) := by decide +kernel
theorem dX11_tall_76 : decode cX11_tall 76 = .ok (.iconst 5, 1) := by decide +kernel
theorem dX11_tall_77 : decode cX11_tall 77 = .ok (.iload 7, 2) := by decide +kernel
theorem dX11_tall_79 : decode cX11_tall 79 = .ok (.imul, 1) := by decide +kernel
theorem dX11_tall_80 : decode cX11_tall 80 = .ok (.iload 13, 2) := by decide +kernel
theorem dX11_tall_82 : decode cX11_tall 82 = .ok (.iadd, 1) := by decide +kernel
theorem dX11_tall_83 : decode cX11_tall 83 = .ok (.iaload, 1) := by decide +kernel
theorem dX11_tall_84 : decode cX11_tall 84 = .ok (.if_icmp .ge 72, 3) := by decide +kernel
theorem dX11_tall_87 : decode cX11_tall 87 = .ok (.aload_n 0, 1) := by decide +kernel
theorem dX11_tall_88 : decode cX11_tall 88 = .ok (.iload 7, 2) := by decide +kernel
theorem dX11_tall_90 : decode cX11_tall 90 = .ok (.iload 13, 2) := by decide +kernel
theorem dX11_tall_92 : decode cX11_tall 92 = .ok (.iload 18, 2) := by decide +kernel
theorem dX11_tall_94 : decode cX11_tall 94 = .ok (.invokevirtual 285, 3) := by decide +kernel
theorem dX11_tall_97 : decode cX11_tall 97 = .ok (.lstore 19, 2) := by decide +kernel
theorem dX11_tall_99 : decode cX11_tall 99 = .ok (.lload 19, 2) := by decide +kernel
theorem dX11_tall_101 : decode cX11_tall 101 = .ok (.lload 14, 2) := by decide +kernel
theorem dX11_tall_103 : decode cX11_tall 103 = .ok (.lcmp, 1) := by decide +kernel
theorem dX11_tall_104 : decode cX11_tall 104 = .ok (.ifCond .ge 8, 3) := by decide +kernel
theorem dX11_tall_107 : decode cX11_tall 107 = .ok (.lload 19, 2) := by decide +kernel
theorem dX11_tall_109 : decode cX11_tall 109 = .ok (.goto 5, 3) := by decide +kernel
theorem dX11_tall_112 : decode cX11_tall 112 = .ok (.lload 14, 2) := by decide +kernel
theorem dX11_tall_114 : decode cX11_tall 114 = .ok (.lstore 14, 2) := by decide +kernel
theorem dX11_tall_116 : decode cX11_tall 116 = .ok (.lload 19, 2) := by decide +kernel
theorem dX11_tall_118 : decode cX11_tall 118 = .ok (.lload 16, 2) := by decide +kernel
theorem dX11_tall_120 : decode cX11_tall 120 = .ok (.lcmp, 1) := by decide +kernel
theorem dX11_tall_121 : decode cX11_tall 121 = .ok (.ifCond .le 8, 3) := by decide +kernel
theorem dX11_tall_124 : decode cX11_tall 124 = .ok (.lload 19, 2) := by decide +kernel
theorem dX11_tall_126 : decode cX11_tall 126 = .ok (.goto 5, 3) := by decide +kernel
theorem dX11_tall_129 : decode cX11_tall 129 = .ok (.lload 16, 2) := by decide +kernel
theorem dX11_tall_131 : decode cX11_tall 131 = .ok (.lstore 16, 2) := by decide +kernel
theorem dX11_tall_133 : decode cX11_tall 133 = .ok (.iload 12, 2) := by decide +kernel
theorem dX11_tall_135 : decode cX11_tall 135 = .ok (.iload_n 2, 1) := by decide +kernel
theorem dX11_tall_136 : decode cX11_tall 136 = .ok (.iconst 1, 1) := by decide +kernel
theorem dX11_tall_137 : decode cX11_tall 137 = .ok (.iadd, 1) := by decide +kernel
theorem dX11_tall_138 : decode cX11_tall 138 = .ok (.if_icmp .ne 12, 3) := by decide +kernel
theorem dX11_tall_141 : decode cX11_tall 141 = .ok (.aload_n 0, 1) := by decide +kernel
theorem dX11_tall_142 : decode cX11_tall 142 = .ok (.lload 5, 2) := by decide +kernel
theorem dX11_tall_144 : decode cX11_tall 144 = .ok (.lload 19, 2) := by decide +kernel
theorem dX11_tall_146 : decode cX11_tall 146 = .ok (.lmul, 1) := by decide +kernel
theorem dX11_tall_147 : decode cX11_tall 147 = .ok (.invokevirtual 313, 3) := by decide +kernel
theorem dX11_tall_150 : decode cX11_tall 150 = .ok (.iinc 18 1, 3) := by decide +kernel
theorem dX11_tall_153 : decode cX11_tall 153 = .ok (.goto (-83), 3) := by decide +kernel
theorem dX11_tall_156 : decode cX11_tall 156 = .ok (.iload 12, 2) := by decide +kernel
theorem dX11_tall_158 : decode cX11_tall 158 = .ok (.iload_n 2, 1) := by decide +kernel
theorem dX11_tall_159 : decode cX11_tall 159 = .ok (.iconst 1, 1) := by decide +kernel
theorem dX11_tall_160 : decode cX11_tall 160 = .ok (.iadd, 1) := by decide +kernel
theorem dX11_tall_161 : decode cX11_tall 161 = .ok (.if_icmp .ne 19, 3) := by decide +kernel
theorem dX11_tall_164 : decode cX11_tall 164 = .ok (.aload_n 0, 1) := by decide +kernel
theorem dX11_tall_165 : decode cX11_tall 165 = .ok (.lload_n 3, 1) := by decide +kernel
theorem dX11_tall_166 : decode cX11_tall 166 = .ok (.lload 8, 2) := by decide +kernel
theorem dX11_tall_168 : decode cX11_tall 168 = .ok (.lmul, 1) := by decide +kernel
theorem dX11_tall_169 : decode cX11_tall 169 = .ok (.invokevirtual 313, 3) := by decide +kernel
theorem dX11_tall_172 : decode cX11_tall 172 = .ok (.aload_n 0, 1) := by decide +kernel
theorem dX11_tall_173 : decode cX11_tall 173 = .ok (.lload_n 3, 1) := by decide +kernel
theorem dX11_tall_174 : decode cX11_tall 174 = .ok (.lload 10, 2) := by decide +kernel
theorem dX11_tall_176 : decode cX11_tall 176 = .ok (.lmul, 1) := by decide +kernel
theorem dX11_tall_177 : decode cX11_tall 177 = .ok (.invokevirtual 313, 3) := by decide +kernel
theorem dX11_tall_180 : decode cX11_tall 180 = .ok (.lload 8, 2) := by decide +kernel
theorem dX11_tall_182 : decode cX11_tall 182 = .ok (.lload 14, 2) := by decide +kernel
theorem dX11_tall_184 : decode cX11_tall 184 = .ok (.ladd, 1) := by decide +kernel
theorem dX11_tall_185 : decode cX11_tall 185 = .ok (.lstore 8, 2) := by decide +kernel
theorem dX11_tall_187 : decode cX11_tall 187 = .ok (.lload 10, 2) := by decide +kernel
theorem dX11_tall_189 : decode cX11_tall 189 = .ok (.lload 16, 2) := by decide +kernel
theorem dX11_tall_191 : decode cX11_tall 191 = .ok (.ladd, 1) := by decide +kernel
theorem dX11_tall_192 : decode cX11_tall 192 = .ok (.lstore 10, 2) := by decide +kernel
theorem dX11_tall_194 : decode cX11_tall 194 = .ok (.iinc 12 1, 3) := by decide +kernel
theorem dX11_tall_197 : decode cX11_tall 197 = .ok (.goto (-166), 3) := by decide +kernel
theorem dX11_tall_200 : decode cX11_tall 200 = .ok (.aload_n 0, 1) := by decide +kernel
theorem dX11_tall_201 : decode cX11_tall 201 = .ok (.lload 8, 2) := by decide +kernel
theorem dX11_tall_203 : decode cX11_tall 203 = .ok (.lload_n 3, 1) := by decide +kernel
theorem dX11_tall_204 : decode cX11_tall 204 = .ok (.lmul, 1) := by decide +kernel
theorem dX11_tall_205 : decode cX11_tall 205 = .ok (.lload 5, 2) := by decide +kernel
theorem dX11_tall_207 : decode cX11_tall 207 = .ok (.lmul, 1) := by decide +kernel
theorem dX11_tall_208 : decode cX11_tall 208 = .ok (.lload_n 3, 1) := by decide +kernel
theorem dX11_tall_209 : decode cX11_tall 209 = .ok (.lload 5, 2) := by decide +kernel
theorem dX11_tall_211 : decode cX11_tall 211 = .ok (.ladd, 1) := by decide +kernel
theorem dX11_tall_212 : decode cX11_tall 212 = .ok (.invokestatic 204, 3) := by decide +kernel
theorem dX11_tall_215 : decode cX11_tall 215 = .ok (.invokevirtual 313, 3) := by decide +kernel
theorem dX11_tall_218 : decode cX11_tall 218 = .ok (.aload_n 0, 1) := by decide +kernel
theorem dX11_tall_219 : decode cX11_tall 219 = .ok (.lload 10, 2) := by decide +kernel
theorem dX11_tall_221 : decode cX11_tall 221 = .ok (.lload_n 3, 1) := by decide +kernel
theorem dX11_tall_222 : decode cX11_tall 222 = .ok (.lmul, 1) := by decide +kernel
theorem dX11_tall_223 : decode cX11_tall 223 = .ok (.lload 5, 2) := by decide +kernel
theorem dX11_tall_225 : decode cX11_tall 225 = .ok (.lmul, 1) := by decide +kernel
theorem dX11_tall_226 : decode cX11_tall 226 = .ok (.lload_n 3, 1) := by decide +kernel
theorem dX11_tall_227 : decode cX11_tall 227 = .ok (.lload 5, 2) := by decide +kernel
theorem dX11_tall_229 : decode cX11_tall 229 = .ok (.ladd, 1) := by decide +kernel
theorem dX11_tall_230 : decode cX11_tall 230 = .ok (.invokestatic 204, 3) := by decide +kernel
theorem dX11_tall_233 : decode cX11_tall 233 = .ok (.invokevirtual 313, 3) := by decide +kernel
theorem dX11_tall_236 : decode cX11_tall 236 = .ok (.aload_n 0, 1) := by decide +kernel
theorem dX11_tall_237 : decode cX11_tall 237 = .ok (.getfield 306, 3) := by decide +kernel
theorem dX11_tall_240 : decode cX11_tall 240 = .ok (.aload_n 0, 1) := by decide +kernel
theorem dX11_tall_241 : decode cX11_tall 241 = .ok (.getfield 303, 3) := by decide +kernel
theorem dX11_tall_244 : decode cX11_tall 244 = .ok (.lsub, 1) := by decide +kernel
theorem dX11_tall_245 : decode cX11_tall 245 = .ok (.lreturn, 1) := by decide +kernel
theorem dX11_page_0 : decode cX11_page 0 = .ok (.aload_n 0, 1) := by decide +kernel
theorem dX11_page_1 : decode cX11_page 1 = .ok (.iload_n 1, 1) := by decide +kernel
theorem dX11_page_2 : decode cX11_page 2 = .ok (.invokevirtual 221, 3) := by decide +kernel
theorem dX11_page_5 : decode cX11_page 5 = .ok (.ifCond .eq 30, 3) := by decide +kernel
theorem dX11_page_8 : decode cX11_page 8 = .ok (.iload_n 2, 1) := by decide +kernel
theorem dX11_page_9 : decode cX11_page 9 = .ok (.i2l, 1) := by decide +kernel
theorem dX11_page_10 : decode cX11_page 10 = .ok (.lconst 0, 1) := by decide +kernel
theorem dX11_page_11 : decode cX11_page 11 = .ok (.aload_n 0, 1) := by decide +kernel
theorem dX11_page_12 : decode cX11_page 12 = .ok (.iload_n 1, 1) := by decide +kernel
theorem dX11_page_13 : decode cX11_page 13 = .ok (.invokevirtual 256, 3) := by decide +kernel
theorem dX11_page_16 : decode cX11_page 16 = .ok (.iconst 1, 1) := by decide +kernel
theorem dX11_page_17 : decode cX11_page 17 = .ok (.isub, 1) := by decide +kernel
theorem dX11_page_18 : decode cX11_page 18 = .ok (.i2l, 1) := by decide +kernel
theorem dX11_page_19 : decode cX11_page 19 = .ok (.invokestatic 139, 3) := by decide +kernel
theorem dX11_page_22 : decode cX11_page 22 = .ok (.ifCond .eq 13, 3) := by decide +kernel
theorem dX11_page_25 : decode cX11_page 25 = .ok (.iload_n 3, 1) := by decide +kernel
theorem dX11_page_26 : decode cX11_page 26 = .ok (.i2l, 1) := by decide +kernel
theorem dX11_page_27 : decode cX11_page 27 = .ok (.lconst 0, 1) := by decide +kernel
theorem dX11_page_28 : decode cX11_page 28 = .ok (.lconst 1, 1) := by decide +kernel
theorem dX11_page_29 : decode cX11_page 29 = .ok (.invokestatic 139, 3) := by decide +kernel
theorem dX11_page_32 : decode cX11_page 32 = .ok (.ifCond .ne 5, 3) := by decide +kernel
theorem dX11_page_35 : decode cX11_page 35 = .ok (.iconst (-1), 1) := by decide +kernel
theorem dX11_page_36 : decode cX11_page 36 = .ok (.ireturn, 1) := by decide +kernel
theorem dX11_page_37 : decode cX11_page 37 = .ok (.iload_n 3, 1) := by decide +kernel
theorem dX11_page_38 : decode cX11_page 38 = .ok (.ifCond .ne 12, 3) := by decide +kernel
theorem dX11_page_41 : decode cX11_page 41 = .ok (.aload_n 0, 1) := by decide +kernel
theorem dX11_page_42 : decode cX11_page 42 = .ok (.iload_n 1, 1) := by decide +kernel
theorem dX11_page_43 : decode cX11_page 43 = .ok (.iload_n 2, 1) := by decide +kernel
theorem dX11_page_44 : decode cX11_page 44 = .ok (.invokevirtual 260, 3) := by decide +kernel
theorem dX11_page_47 : decode cX11_page 47 = .ok (.goto 32, 3) := by decide +kernel
theorem dX11_page_50 : decode cX11_page 50 = .ok (.aload_n 0, 1) := by decide +kernel
theorem dX11_page_51 : decode cX11_page 51 = .ok (.iload_n 1, 1) := by decide +kernel
theorem dX11_page_52 : decode cX11_page 52 = .ok (.iload_n 2, 1) := by decide +kernel
theorem dX11_page_53 : decode cX11_page 53 = .ok (.aload_n 0, 1) := by decide +kernel
theorem dX11_page_54 : decode cX11_page 54 = .ok (.getfield 50, 3) := by decide +kernel
theorem dX11_page_57 : decode cX11_page 57 = .ok (.iconst 3, 1) := by decide +kernel
theorem dX11_page_58 : decode cX11_page 58 = .ok (.iload_n 1, 1) := by decide +kernel
theorem dX11_page_59 : decode cX11_page 59 = .ok (.imul, 1) := by decide +kernel
theorem dX11_page_60 : decode cX11_page 60 = .ok (.iload_n 2, 1) := by decide +kernel
theorem dX11_page_61 : decode cX11_page 61 = .ok (.iadd, 1) := by decide +kernel
theorem dX11_page_62 : decode cX11_page 62 = .ok (.iaload, 1) := by decide +kernel
theorem dX11_page_63 : decode cX11_page 63 = .ok (.i2l, 1) := by decide +kernel
theorem dX11_page_64 : decode cX11_page 64 = .ok (.aload_n 0, 1) := by decide +kernel
theorem dX11_page_65 : decode cX11_page 65 = .ok (.getfield 53, 3) := by decide +kernel
theorem dX11_page_68 : decode cX11_page 68 = .ok (.iconst 3, 1) := by decide +kernel
theorem dX11_page_69 : decode cX11_page 69 = .ok (.iload_n 1, 1) := by decide +kernel
theorem dX11_page_70 : decode cX11_page 70 = .ok (.imul, 1) := by decide +kernel
theorem dX11_page_71 : decode cX11_page 71 = .ok (.iload_n 2, 1) := by decide +kernel
theorem dX11_page_72 : decode cX11_page 72 = .ok (.iadd, 1) := by decide +kernel
theorem dX11_page_73 : decode cX11_page 73 = .ok (.iaload, 1) := by decide +kernel
theorem dX11_page_74 : decode cX11_page 74 = .ok (.i2l, 1) := by decide +kernel
theorem dX11_page_75 : decode cX11_page 75 = .ok (.invokevirtual 317, 3) := by decide +kernel
theorem dX11_page_78 : decode cX11_page 78 = .ok (.l2i, 1) := by decide +kernel
theorem dX11_page_79 : decode cX11_page 79 = .ok (.ireturn, 1) := by decide +kernel
theorem dX11_list_0 : decode cX11_list 0 = .ok (.iload_n 1, 1) := by decide +kernel
theorem dX11_list_1 : decode cX11_list 1 = .ok (.i2l, 1) := by decide +kernel
theorem dX11_list_2 : decode cX11_list 2 = .ok (.lconst 1, 1) := by decide +kernel
theorem dX11_list_3 : decode cX11_list 3 = .ok (.ldc2_w 214, 3) := by decide +kernel
theorem dX11_list_6 : decode cX11_list 6 = .ok (.invokestatic 139, 3) := by decide +kernel
theorem dX11_list_9 : decode cX11_list 9 = .ok (.ifCond .eq 11, 3) := by decide +kernel
theorem dX11_list_12 : decode cX11_list 12 = .ok (.aload_n 0, 1) := by decide +kernel
theorem dX11_list_13 : decode cX11_list 13 = .ok (.getfield 321, 3) := by decide +kernel
theorem dX11_list_16 : decode cX11_list 16 = .ok (.iconst 4, 1) := by decide +kernel
theorem dX11_list_17 : decode cX11_list 17 = .ok (.if_icmp .ne 5, 3) := by decide +kernel
theorem dX11_list_20 : decode cX11_list 20 = .ok (.iconst (-1), 1) := by decide +kernel
theorem dX11_list_21 : decode cX11_list 21 = .ok (.ireturn, 1) := by decide +kernel
theorem dX11_list_22 : decode cX11_list 22 = .ok (.iconst 0, 1) := by decide +kernel
theorem dX11_list_23 : decode cX11_list 23 = .ok (.istore_n 2, 1) := by decide +kernel
theorem dX11_list_24 : decode cX11_list 24 = .ok (.iload_n 2, 1) := by decide +kernel
theorem dX11_list_25 : decode cX11_list 25 = .ok (.aload_n 0, 1) := by decide +kernel
theorem dX11_list_26 : decode cX11_list 26 = .ok (.getfield 321, 3) := by decide +kernel
theorem dX11_list_29 : decode cX11_list 29 = .ok (.if_icmp .ge 21, 3) := by decide +kernel
theorem dX11_list_32 : decode cX11_list 32 = .ok (.aload_n 0, 1) := by decide +kernel
theorem dX11_list_33 : decode cX11_list 33 = .ok (.getfield 102, 3) := by decide +kernel
theorem dX11_list_36 : decode cX11_list 36 = .ok (.iload_n 2, 1) := by decide +kernel
theorem dX11_list_37 : decode cX11_list 37 = .ok (.iaload, 1) := by decide +kernel
theorem dX11_list_38 : decode cX11_list 38 = .ok (.iload_n 1, 1) := by decide +kernel
theorem dX11_list_39 : decode cX11_list 39 = .ok (.if_icmp .ne 5, 3) := by decide +kernel
theorem dX11_list_42 : decode cX11_list 42 = .ok (.iconst (-1), 1) := by decide +kernel
theorem dX11_list_43 : decode cX11_list 43 = .ok (.ireturn, 1) := by decide +kernel
theorem dX11_list_44 : decode cX11_list 44 = .ok (.iinc 2 1, 3) := by decide +kernel
theorem dX11_list_47 : decode cX11_list 47 = .ok (.goto (-23), 3) := by decide +kernel
theorem dX11_list_50 : decode cX11_list 50 = .ok (.aload_n 0, 1) := by decide +kernel
theorem dX11_list_51 : decode cX11_list 51 = .ok (.getfield 102, 3) := by decide +kernel
theorem dX11_list_54 : decode cX11_list 54 = .ok (.aload_n 0, 1) := by decide +kernel
theorem dX11_list_55 : decode cX11_list 55 = .ok (.getfield 321, 3) := by decide +kernel
theorem dX11_list_58 : decode cX11_list 58 = .ok (.iload_n 1, 1) := by decide +kernel
theorem dX11_list_59 : decode cX11_list 59 = .ok (.iastore, 1) := by decide +kernel
theorem dX11_list_60 : decode cX11_list 60 = .ok (.aload_n 0, 1) := by decide +kernel
theorem dX11_list_61 : decode cX11_list 61 = .ok (.dup, 1) := by decide +kernel
theorem dX11_list_62 : decode cX11_list 62 = .ok (.getfield 321, 3) := by decide +kernel
theorem dX11_list_65 : decode cX11_list 65 = .ok (.iconst 1, 1) := by decide +kernel
theorem dX11_list_66 : decode cX11_list 66 = .ok (.iadd, 1) := by decide +kernel
theorem dX11_list_67 : decode cX11_list 67 = .ok (.putfield 321, 3) := by decide +kernel
theorem dX11_list_70 : decode cX11_list 70 = .ok (.aload_n 0, 1) := by decide +kernel
theorem dX11_list_71 : decode cX11_list 71 = .ok (.getfield 321, 3) := by decide +kernel
theorem dX11_list_74 : decode cX11_list 74 = .ok (.ireturn, 1) := by decide +kernel
theorem dX11_clear_0 : decode cX11_clear 0 = .ok (.aload_n 0, 1) := by decide +kernel
theorem dX11_clear_1 : decode cX11_clear 1 = .ok (.getfield 321, 3) := by decide +kernel
theorem dX11_clear_4 : decode cX11_clear 4 = .ok (.istore_n 1, 1) := by decide +kernel
theorem dX11_clear_5 : decode cX11_clear 5 = .ok (.aload_n 0, 1) := by decide +kernel
theorem dX11_clear_6 : decode cX11_clear 6 = .ok (.iconst 0, 1) := by decide +kernel
theorem dX11_clear_7 : decode cX11_clear 7 = .ok (.putfield 321, 3) := by decide +kernel
theorem dX11_clear_10 : decode cX11_clear 10 = .ok (.iload_n 1, 1) := by decide +kernel
theorem dX11_clear_11 : decode cX11_clear 11 = .ok (.ireturn, 1) := by decide +kernel
theorem dX11_finest_0 : decode cX11_finest 0 = .ok (.aload_n 0, 1) := by decide +kernel
theorem dX11_finest_1 : decode cX11_finest 1 = .ok (.iload_n 1, 1) := by decide +kernel
theorem dX11_finest_2 : decode cX11_finest 2 = .ok (.invokevirtual 221, 3) := by decide +kernel
theorem dX11_finest_5 : decode cX11_finest 5 = .ok (.ifCond .eq 41, 3) := by decide +kernel
theorem dX11_finest_8 : decode cX11_finest 8 = .ok (.iload_n 2, 1) := by decide +kernel
theorem dX11_finest_9 : decode cX11_finest 9 = .ok (.i2l, 1) := by decide +kernel
theorem dX11_finest_10 : decode cX11_finest 10 = .ok (.ldc2_w 190, 3) := by decide +kernel
theorem dX11_finest_13 : decode cX11_finest 13 = .ok (.ldc2_w 238, 3) := by decide +kernel
theorem dX11_finest_16 : decode cX11_finest 16 = .ok (.invokestatic 139, 3) := by decide +kernel
theorem dX11_finest_19 : decode cX11_finest 19 = .ok (.ifCond .eq 27, 3) := by decide +kernel
theorem dX11_finest_22 : decode cX11_finest 22 = .ok (.iload_n 3, 1) := by decide +kernel
theorem dX11_finest_23 : decode cX11_finest 23 = .ok (.i2l, 1) := by decide +kernel
theorem dX11_finest_24 : decode cX11_finest 24 = .ok (.lconst 0, 1) := by decide +kernel
theorem dX11_finest_25 : decode cX11_finest 25 = .ok (.aload_n 0, 1) := by decide +kernel
theorem dX11_finest_26 : decode cX11_finest 26 = .ok (.iload_n 1, 1) := by decide +kernel
theorem dX11_finest_27 : decode cX11_finest 27 = .ok (.invokevirtual 256, 3) := by decide +kernel
theorem dX11_finest_30 : decode cX11_finest 30 = .ok (.iconst 1, 1) := by decide +kernel
theorem dX11_finest_31 : decode cX11_finest 31 = .ok (.isub, 1) := by decide +kernel
theorem dX11_finest_32 : decode cX11_finest 32 = .ok (.i2l, 1) := by decide +kernel
theorem dX11_finest_33 : decode cX11_finest 33 = .ok (.invokestatic 139, 3) := by decide +kernel
theorem dX11_finest_36 : decode cX11_finest 36 = .ok (.ifCond .eq 10, 3) := by decide +kernel
theorem dX11_finest_39 : decode cX11_finest 39 = .ok (.aload_n 0, 1) := by decide +kernel
theorem dX11_finest_40 : decode cX11_finest 40 = .ok (.getfield 321, 3) := by decide +kernel
theorem dX11_finest_43 : decode cX11_finest 43 = .ok (.ifCond .ne 5, 3) := by decide +kernel
theorem dX11_finest_46 : decode cX11_finest 46 = .ok (.iconst (-1), 1) := by decide +kernel
theorem dX11_finest_47 : decode cX11_finest 47 = .ok (.ireturn, 1) := by decide +kernel
theorem dX11_finest_48 : decode cX11_finest 48 = .ok (.iconst (-1), 1) := by decide +kernel
theorem dX11_finest_49 : decode cX11_finest 49 = .ok (.istore 4, 2) := by decide +kernel
theorem dX11_finest_51 : decode cX11_finest 51 = .ok (.iconst (-1), 1) := by decide +kernel
theorem dX11_finest_52 : decode cX11_finest 52 = .ok (.istore 5, 2) := by decide +kernel
theorem dX11_finest_54 : decode cX11_finest 54 = .ok (.iconst 0, 1) := by decide +kernel
theorem dX11_finest_55 : decode cX11_finest 55 = .ok (.istore 6, 2) := by decide +kernel
theorem dX11_finest_57 : decode cX11_finest 57 = .ok (.iload 6, 2) := by decide +kernel
theorem dX11_finest_59 : decode cX11_finest 59 = .ok (.aload_n 0, 1) := by decide +kernel
theorem dX11_finest_60 : decode cX11_finest 60 = .ok (.iload_n 1, 1) := by decide +kernel
theorem dX11_finest_61 : decode cX11_finest 61 = .ok (.invokevirtual 256, 3) := by decide +kernel
theorem dX11_finest_64 : decode cX11_finest 64 = .ok (.if_icmp .ge 191, 3) := by decide +kernel
theorem dX11_finest_67 : decode cX11_finest 67 = .ok (.iconst (-1), 1) := by decide +kernel
theorem dX11_finest_68 : decode cX11_finest 68 = .ok (.istore 4, 2) := by decide +kernel
theorem dX11_finest_70 : decode cX11_finest 70 = .ok (.lconst 0, 1) := by decide +kernel
theorem dX11_finest_71 : decode cX11_finest 71 = .ok (.lstore 7, 2) := by decide +kernel
theorem dX11_finest_73 : decode cX11_finest 73 = .ok (.lconst 1, 1) := by decide +kernel
theorem dX11_finest_74 : decode cX11_finest 74 = .ok (.lstore 9, 2) := by decide +kernel
theorem dX11_finest_76 : decode cX11_finest 76 = .ok (.iconst 0, 1) := by decide +kernel
theorem dX11_finest_77 : decode cX11_finest 77 = .ok (.istore 11, 2) := by decide +kernel
theorem dX11_finest_79 : decode cX11_finest 79 = .ok (.iload 11, 2) := by decide +kernel
theorem dX11_finest_81 : decode cX11_finest 81 = .ok (.aload_n 0, 1) := by decide +kernel
theorem dX11_finest_82 : decode cX11_finest 82 = .ok (.getfield 321, 3) := by decide +kernel
theorem dX11_finest_85 : decode cX11_finest 85 = .ok (.if_icmp .ge 146, 3) := by decide +kernel
theorem dX11_finest_88 : decode cX11_finest 88 = .ok (.iconst 0, 1) := by decide +kernel
theorem dX11_finest_89 : decode cX11_finest 89 = .ok (.istore 12, 2) := by decide +kernel
theorem dX11_finest_91 : decode cX11_finest 91 = .ok (.iload 12, 2) := by decide +kernel
theorem dX11_finest_93 : decode cX11_finest 93 = .ok (.aload_n 0, 1) := by decide +kernel
theorem dX11_finest_94 : decode cX11_finest 94 = .ok (.getfield 321, 3) := by decide +kernel
theorem dX11_finest_97 : decode cX11_finest 97 = .ok (.if_icmp .ge 128, 3) := by decide +kernel
theorem dX11_finest_100 : decode cX11_finest 100 = .ok (.aload_n 0, 1) := by decide +kernel
theorem dX11_finest_101 : decode cX11_finest 101 = .ok (.getfield 102, 3) := by decide +kernel
theorem dX11_finest_104 : decode cX11_finest 104 = .ok (.iload 11, 2) := by decide +kernel
theorem dX11_finest_106 : decode cX11_finest 106 = .ok (.iaload, 1) := by decide +kernel
theorem dX11_finest_107 : decode cX11_finest 107 = .ok (.i2l, 1) := by decide +kernel
theorem dX11_finest_108 : decode cX11_finest 108 = .ok (.lstore 13, 2) := by decide +kernel
theorem dX11_finest_110 : decode cX11_finest 110 = .ok (.aload_n 0, 1) := by decide +kernel
theorem dX11_finest_111 : decode cX11_finest 111 = .ok (.getfield 102, 3) := by decide +kernel
theorem dX11_finest_114 : decode cX11_finest 114 = .ok (.iload 12, 2) := by decide +kernel
theorem dX11_finest_116 : decode cX11_finest 116 = .ok (.iaload, 1) := by decide +kernel
theorem dX11_finest_117 : decode cX11_finest 117 = .ok (.i2l, 1) := by decide +kernel
theorem dX11_finest_118 : decode cX11_finest 118 = .ok (.lstore 15, 2) := by decide +kernel
theorem dX11_finest_120 : decode cX11_finest 120 = .ok (.aload_n 0, 1) := by decide +kernel
theorem dX11_finest_121 : decode cX11_finest 121 = .ok (.iload_n 1, 1) := by decide +kernel
theorem dX11_finest_122 : decode cX11_finest 122 = .ok (.iload 6, 2) := by decide +kernel
theorem dX11_finest_124 : decode cX11_finest 124 = .ok (.lload 13, 2) := by decide +kernel
theorem dX11_finest_126 : decode cX11_finest 126 = .ok (.lload 15, 2) := by decide +kernel
theorem dX11_finest_128 : decode cX11_finest 128 = .ok (.invokevirtual 317, 3) := by decide +kernel
theorem dX11_finest_131 : decode cX11_finest 131 = .ok (.iload_n 2, 1) := by decide +kernel
theorem dX11_finest_132 : decode cX11_finest 132 = .ok (.i2l, 1) := by decide +kernel
theorem dX11_finest_133 : decode cX11_finest 133 = .ok (.lcmp, 1) := by decide +kernel
theorem dX11_finest_134 : decode cX11_finest 134 = .ok (.ifCond .le 6, 3) := by decide +kernel
theorem dX11_finest_137 : decode cX11_finest 137 = .ok (.goto 82, 3) := by decide +kernel
theorem dX11_finest_140 : decode cX11_finest 140 = .ok (.iload 4, 2) := by decide +kernel
theorem dX11_finest_142 : decode cX11_finest 142 = .ok (.iconst (-1), 1) := by decide +kernel
theorem dX11_finest_143 : decode cX11_finest 143 = .ok (.if_icmp .eq 35, 3) := by decide +kernel
theorem dX11_finest_146 : decode cX11_finest 146 = .ok (.iload 6, 2) := by decide +kernel
theorem dX11_finest_148 : decode cX11_finest 148 = .ok (.aload_n 0, 1) := by decide +kernel
theorem dX11_finest_149 : decode cX11_finest 149 = .ok (.iload_n 1, 1) := by decide +kernel
theorem dX11_finest_150 : decode cX11_finest 150 = .ok (.invokevirtual 256, 3) := by decide +kernel
theorem dX11_finest_153 : decode cX11_finest 153 = .ok (.iconst 1, 1) := by decide +kernel
theorem dX11_finest_154 : decode cX11_finest 154 = .ok (.isub, 1) := by decide +kernel
theorem dX11_finest_155 : decode cX11_finest 155 = .ok (.if_icmp .ne 27, 3) := by decide +kernel
theorem dX11_finest_158 : decode cX11_finest 158 = .ok (.lload 13, 2) := by decide +kernel
theorem dX11_finest_160 : decode cX11_finest 160 = .ok (.lload 15, 2) := by decide +kernel
theorem dX11_finest_162 : decode cX11_finest 162 = .ok (.lmul, 1) := by decide +kernel
theorem dX11_finest_163 : decode cX11_finest 163 = .ok (.lload 9, 2) := by decide +kernel
theorem dX11_finest_165 : decode cX11_finest 165 = .ok (.lmul, 1) := by decide +kernel
theorem dX11_finest_166 : decode cX11_finest 166 = .ok (.lload 7, 2) := by decide +kernel
theorem dX11_finest_168 : decode cX11_finest 168 = .ok (.lload 13, 2) := by decide +kernel
theorem dX11_finest_170 : decode cX11_finest 170 = .ok (.lload 15, 2) := by decide +kernel
theorem dX11_finest_172 : decode cX11_finest 172 = .ok (.ladd, 1) := by decide +kernel
theorem dX11_finest_173 : decode cX11_finest 173 = .ok (.lmul, 1) := by decide +kernel
theorem dX11_finest_174 : decode cX11_finest 174 = .ok (.lcmp, 1) := by decide +kernel
theorem dX11_finest_175 : decode cX11_finest 175 = .ok (.ifCond .le 7, 3) := by decide +kernel
theorem dX11_finest_178 : decode cX11_finest 178 = .ok (.iconst 1, 1) := by decide +kernel
theorem dX11_finest_179 : decode cX11_finest 179 = .ok (.goto 4, 3) := by decide +kernel
theorem dX11_finest_182 : decode cX11_finest 182 = .ok (.iconst 0, 1) := by decide +kernel
theorem dX11_finest_183 : decode cX11_finest 183 = .ok (.istore 17, 2) := by decide +kernel
theorem dX11_finest_185 : decode cX11_finest 185 = .ok (.iload 17, 2) := by decide +kernel
theorem dX11_finest_187 : decode cX11_finest 187 = .ok (.ifCond .ne 6, 3) := by decide +kernel
theorem dX11_finest_190 : decode cX11_finest 190 = .ok (.goto 29, 3) := by decide +kernel
theorem dX11_finest_193 : decode cX11_finest 193 = .ok (.ldc2_w 324, 3) := by decide +kernel
theorem dX11_finest_196 : decode cX11_finest 196 = .ok (.lload 13, 2) := by decide +kernel
theorem dX11_finest_198 : decode cX11_finest 198 = .ok (.lmul, 1) := by decide +kernel
theorem dX11_finest_199 : decode cX11_finest 199 = .ok (.lload 15, 2) := by decide +kernel
theorem dX11_finest_201 : decode cX11_finest 201 = .ok (.ladd, 1) := by decide +kernel
theorem dX11_finest_202 : decode cX11_finest 202 = .ok (.l2i, 1) := by decide +kernel
theorem dX11_finest_203 : decode cX11_finest 203 = .ok (.istore 4, 2) := by decide +kernel
theorem dX11_finest_205 : decode cX11_finest 205 = .ok (.lload 13, 2) := by decide +kernel
theorem dX11_finest_207 : decode cX11_finest 207 = .ok (.lload 15, 2) := by decide +kernel
theorem dX11_finest_209 : decode cX11_finest 209 = .ok (.lmul, 1) := by decide +kernel
theorem dX11_finest_210 : decode cX11_finest 210 = .ok (.lstore 7, 2) := by decide +kernel
theorem dX11_finest_212 : decode cX11_finest 212 = .ok (.lload 13, 2) := by decide +kernel
theorem dX11_finest_214 : decode cX11_finest 214 = .ok (.lload 15, 2) := by decide +kernel
theorem dX11_finest_216 : decode cX11_finest 216 = .ok (.ladd, 1) := by decide +kernel
theorem dX11_finest_217 : decode cX11_finest 217 = .ok (.lstore 9, 2) := by decide +kernel
theorem dX11_finest_219 : decode cX11_finest 219 = .ok (.iinc 12 1, 3) := by decide +kernel
theorem dX11_finest_222 : decode cX11_finest 222 = .ok (.goto (-131), 3) := by decide +kernel
theorem dX11_finest_225 : decode cX11_finest 225 = .ok (.iinc 11 1, 3) := by decide +kernel
theorem dX11_finest_228 : decode cX11_finest 228 = .ok (.goto (-149), 3) := by decide +kernel
theorem dX11_finest_231 : decode cX11_finest 231 = .ok (.iload 4, 2) := by decide +kernel
theorem dX11_finest_233 : decode cX11_finest 233 = .ok (.iconst (-1), 1) := by decide +kernel
theorem dX11_finest_234 : decode cX11_finest 234 = .ok (.if_icmp .ne 5, 3) := by decide +kernel
theorem dX11_finest_237 : decode cX11_finest 237 = .ok (.iconst (-1), 1) := by decide +kernel
theorem dX11_finest_238 : decode cX11_finest 238 = .ok (.ireturn, 1) := by decide +kernel
theorem dX11_finest_239 : decode cX11_finest 239 = .ok (.iload 6, 2) := by decide +kernel
theorem dX11_finest_241 : decode cX11_finest 241 = .ok (.iload_n 3, 1) := by decide +kernel
theorem dX11_finest_242 : decode cX11_finest 242 = .ok (.if_icmp .ne 7, 3) := by decide +kernel
theorem dX11_finest_245 : decode cX11_finest 245 = .ok (.iload 4, 2) := by decide +kernel
theorem dX11_finest_247 : decode cX11_finest 247 = .ok (.istore 5, 2) := by decide +kernel
theorem dX11_finest_249 : decode cX11_finest 249 = .ok (.iinc 6 1, 3) := by decide +kernel
theorem dX11_finest_252 : decode cX11_finest 252 = .ok (.goto (-195), 3) := by decide +kernel
theorem dX11_finest_255 : decode cX11_finest 255 = .ok (.iload 5, 2) := by decide +kernel
theorem dX11_finest_257 : decode cX11_finest 257 = .ok (.ireturn, 1) := by decide +kernel
theorem dX11_go_0 : decode cX11_go 0 = .ok (.iload_n 1, 1) := by decide +kernel
theorem dX11_go_1 : decode cX11_go 1 = .ok (.i2l, 1) := by decide +kernel
theorem dX11_go_2 : decode cX11_go 2 = .ok (.lconst 0, 1) := by decide +kernel
theorem dX11_go_3 : decode cX11_go 3 = .ok (.ldc2_w 214, 3) := by decide +kernel
theorem dX11_go_6 : decode cX11_go 6 = .ok (.invokestatic 139, 3) := by decide +kernel
theorem dX11_go_9 : decode cX11_go 9 = .ok (.ifCond .ne 5, 3) := by decide +kernel
theorem dX11_go_12 : decode cX11_go 12 = .ok (.iconst (-1), 1) := by decide +kernel
theorem dX11_go_13 : decode cX11_go 13 = .ok (.ireturn, 1) := by decide +kernel
theorem dX11_go_14 : decode cX11_go 14 = .ok (.aload_n 0, 1) := by decide +kernel
theorem dX11_go_15 : decode cX11_go 15 = .ok (.aload_n 0, 1) := by decide +kernel
theorem dX11_go_16 : decode cX11_go 16 = .ok (.getfield 268, 3) := by decide +kernel
theorem dX11_go_19 : decode cX11_go 19 = .ok (.iload_n 1, 1) := by decide +kernel
theorem dX11_go_20 : decode cX11_go 20 = .ok (.iadd, 1) := by decide +kernel
theorem dX11_go_21 : decode cX11_go 21 = .ok (.sipush 300, 3) := by decide +kernel
theorem dX11_go_24 : decode cX11_go 24 = .ok (.if_icmp .le 9, 3) := by decide +kernel
theorem dX11_go_27 : decode cX11_go 27 = .ok (.sipush 300, 3) := by decide +kernel
theorem dX11_go_30 : decode cX11_go 30 = .ok (.goto 9, 3) := by decide +kernel
theorem dX11_go_33 : decode cX11_go 33 = .ok (.aload_n 0, 1) := by decide +kernel
theorem dX11_go_34 : decode cX11_go 34 = .ok (.getfield 268, 3) := by decide +kernel
theorem dX11_go_37 : decode cX11_go 37 = .ok (.iload_n 1, 1) := by decide +kernel
theorem dX11_go_38 : decode cX11_go 38 = .ok (.iadd, 1) := by decide +kernel
theorem dX11_go_39 : decode cX11_go 39 = .ok (.putfield 268, 3) := by decide +kernel
theorem dX11_go_42 : decode cX11_go 42 = .ok (.aload_n 0, 1) := by decide +kernel
theorem dX11_go_43 : decode cX11_go 43 = .ok (.getfield 268, 3) := by decide +kernel
theorem dX11_go_46 : decode cX11_go 46 = .ok (.ireturn, 1) := by decide +kernel
theorem dX11_move_0 : decode cX11_move 0 = .ok (.aload_n 0, 1) := by decide +kernel
theorem dX11_move_1 : decode cX11_move 1 = .ok (.iload_n 1, 1) := by decide +kernel
theorem dX11_move_2 : decode cX11_move 2 = .ok (.invokevirtual 221, 3) := by decide +kernel
theorem dX11_move_5 : decode cX11_move 5 = .ok (.ifCond .eq 77, 3) := by decide +kernel
theorem dX11_move_8 : decode cX11_move 8 = .ok (.iload_n 2, 1) := by decide +kernel
theorem dX11_move_9 : decode cX11_move 9 = .ok (.i2l, 1) := by decide +kernel
theorem dX11_move_10 : decode cX11_move 10 = .ok (.lconst 1, 1) := by decide +kernel
theorem dX11_move_11 : decode cX11_move 11 = .ok (.aload_n 0, 1) := by decide +kernel
theorem dX11_move_12 : decode cX11_move 12 = .ok (.getfield 23, 3) := by decide +kernel
theorem dX11_move_15 : decode cX11_move 15 = .ok (.aload_n 0, 1) := by decide +kernel
theorem dX11_move_16 : decode cX11_move 16 = .ok (.getfield 41, 3) := by decide +kernel
theorem dX11_move_19 : decode cX11_move 19 = .ok (.iload_n 1, 1) := by decide +kernel
theorem dX11_move_20 : decode cX11_move 20 = .ok (.iaload, 1) := by decide +kernel
theorem dX11_move_21 : decode cX11_move 21 = .ok (.iaload, 1) := by decide +kernel
theorem dX11_move_22 : decode cX11_move 22 = .ok (.iconst 1, 1) := by decide +kernel
theorem dX11_move_23 : decode cX11_move 23 = .ok (.isub, 1) := by decide +kernel
theorem dX11_move_24 : decode cX11_move 24 = .ok (.i2l, 1) := by decide +kernel
theorem dX11_move_25 : decode cX11_move 25 = .ok (.invokestatic 139, 3) := by decide +kernel
theorem dX11_move_28 : decode cX11_move 28 = .ok (.ifCond .eq 54, 3) := by decide +kernel
theorem dX11_move_31 : decode cX11_move 31 = .ok (.iload_n 3, 1) := by decide +kernel
theorem dX11_move_32 : decode cX11_move 32 = .ok (.i2l, 1) := by decide +kernel
theorem dX11_move_33 : decode cX11_move 33 = .ok (.lconst 0, 1) := by decide +kernel
theorem dX11_move_34 : decode cX11_move 34 = .ok (.aload_n 0, 1) := by decide +kernel
theorem dX11_move_35 : decode cX11_move 35 = .ok (.getfield 35, 3) := by decide +kernel
theorem dX11_move_38 : decode cX11_move 38 = .ok (.iconst 5, 1) := by decide +kernel
theorem dX11_move_39 : decode cX11_move 39 = .ok (.aload_n 0, 1) := by decide +kernel
theorem dX11_move_40 : decode cX11_move 40 = .ok (.getfield 41, 3) := by decide +kernel
theorem dX11_move_43 : decode cX11_move 43 = .ok (.iload_n 1, 1) := by decide +kernel
theorem dX11_move_44 : decode cX11_move 44 = .ok (.iaload, 1) := by decide +kernel
theorem dX11_move_45 : decode cX11_move 45 = .ok (.imul, 1) := by decide +kernel
theorem dX11_move_46 : decode cX11_move 46 = .ok (.iload_n 2, 1) := by decide +kernel
theorem dX11_move_47 : decode cX11_move 47 = .ok (.iadd, 1) := by decide +kernel
theorem dX11_move_48 : decode cX11_move 48 = .ok (.iaload, 1) := by decide +kernel
theorem dX11_move_49 : decode cX11_move 49 = .ok (.iconst 1, 1) := by decide +kernel
theorem dX11_move_50 : decode cX11_move 50 = .ok (.isub, 1) := by decide +kernel
theorem dX11_move_51 : decode cX11_move 51 = .ok (.i2l, 1) := by decide +kernel
theorem dX11_move_52 : decode cX11_move 52 = .ok (.invokestatic 139, 3) := by decide +kernel
theorem dX11_move_55 : decode cX11_move 55 = .ok (.ifCond .eq 27, 3) := by decide +kernel
theorem dX11_move_58 : decode cX11_move 58 = .ok (.iload 4, 2) := by decide +kernel
theorem dX11_move_60 : decode cX11_move 60 = .ok (.i2l, 1) := by decide +kernel
theorem dX11_move_61 : decode cX11_move 61 = .ok (.ldc2_w 326, 3) := by decide +kernel
theorem dX11_move_64 : decode cX11_move 64 = .ok (.ldc2_w 328, 3) := by decide +kernel
theorem dX11_move_67 : decode cX11_move 67 = .ok (.invokestatic 139, 3) := by decide +kernel
theorem dX11_move_70 : decode cX11_move 70 = .ok (.ifCond .eq 12, 3) := by decide +kernel
theorem dX11_move_73 : decode cX11_move 73 = .ok (.aload_n 0, 1) := by decide +kernel
theorem dX11_move_74 : decode cX11_move 74 = .ok (.getfield 249, 3) := by decide +kernel
theorem dX11_move_77 : decode cX11_move 77 = .ok (.bipush 40, 2) := by decide +kernel
theorem dX11_move_79 : decode cX11_move 79 = .ok (.if_icmp .ne 5, 3) := by decide +kernel
theorem dX11_move_82 : decode cX11_move 82 = .ok (.iconst (-1), 1) := by decide +kernel
theorem dX11_move_83 : decode cX11_move 83 = .ok (.ireturn, 1) := by decide +kernel
theorem dX11_move_84 : decode cX11_move 84 = .ok (.aload_n 0, 1) := by decide +kernel
theorem dX11_move_85 : decode cX11_move 85 = .ok (.getfield 72, 3) := by decide +kernel
theorem dX11_move_88 : decode cX11_move 88 = .ok (.aload_n 0, 1) := by decide +kernel
theorem dX11_move_89 : decode cX11_move 89 = .ok (.getfield 249, 3) := by decide +kernel
theorem dX11_move_92 : decode cX11_move 92 = .ok (.iload_n 1, 1) := by decide +kernel
theorem dX11_move_93 : decode cX11_move 93 = .ok (.iastore, 1) := by decide +kernel
theorem dX11_move_94 : decode cX11_move 94 = .ok (.aload_n 0, 1) := by decide +kernel
theorem dX11_move_95 : decode cX11_move 95 = .ok (.getfield 75, 3) := by decide +kernel
theorem dX11_move_98 : decode cX11_move 98 = .ok (.aload_n 0, 1) := by decide +kernel
theorem dX11_move_99 : decode cX11_move 99 = .ok (.getfield 249, 3) := by decide +kernel
theorem dX11_move_102 : decode cX11_move 102 = .ok (.iload_n 2, 1) := by decide +kernel
theorem dX11_move_103 : decode cX11_move 103 = .ok (.iastore, 1) := by decide +kernel
theorem dX11_move_104 : decode cX11_move 104 = .ok (.aload_n 0, 1) := by decide +kernel
theorem dX11_move_105 : decode cX11_move 105 = .ok (.getfield 78, 3) := by decide +kernel
theorem dX11_move_108 : decode cX11_move 108 = .ok (.aload_n 0, 1) := by decide +kernel
theorem dX11_move_109 : decode cX11_move 109 = .ok (.getfield 249, 3) := by decide +kernel
theorem dX11_move_112 : decode cX11_move 112 = .ok (.iload_n 3, 1) := by decide +kernel
theorem dX11_move_113 : decode cX11_move 113 = .ok (.iastore, 1) := by decide +kernel
theorem dX11_move_114 : decode cX11_move 114 = .ok (.aload_n 0, 1) := by decide +kernel
theorem dX11_move_115 : decode cX11_move 115 = .ok (.getfield 81, 3) := by decide +kernel
theorem dX11_move_118 : decode cX11_move 118 = .ok (.aload_n 0, 1) := by decide +kernel
theorem dX11_move_119 : decode cX11_move 119 = .ok (.getfield 249, 3) := by decide +kernel
theorem dX11_move_122 : decode cX11_move 122 = .ok (.iload 4, 2) := by decide +kernel
theorem dX11_move_124 : decode cX11_move 124 = .ok (.iastore, 1) := by decide +kernel
theorem dX11_move_125 : decode cX11_move 125 = .ok (.aload_n 0, 1) := by decide +kernel
theorem dX11_move_126 : decode cX11_move 126 = .ok (.getfield 84, 3) := by decide +kernel
theorem dX11_move_129 : decode cX11_move 129 = .ok (.aload_n 0, 1) := by decide +kernel
theorem dX11_move_130 : decode cX11_move 130 = .ok (.getfield 249, 3) := by decide +kernel
theorem dX11_move_133 : decode cX11_move 133 = .ok (.aload_n 0, 1) := by decide +kernel
theorem dX11_move_134 : decode cX11_move 134 = .ok (.getfield 268, 3) := by decide +kernel
theorem dX11_move_137 : decode cX11_move 137 = .ok (.iastore, 1) := by decide +kernel
theorem dX11_move_138 : decode cX11_move 138 = .ok (.aload_n 0, 1) := by decide +kernel
theorem dX11_move_139 : decode cX11_move 139 = .ok (.dup, 1) := by decide +kernel
theorem dX11_move_140 : decode cX11_move 140 = .ok (.getfield 249, 3) := by decide +kernel
theorem dX11_move_143 : decode cX11_move 143 = .ok (.iconst 1, 1) := by decide +kernel
theorem dX11_move_144 : decode cX11_move 144 = .ok (.iadd, 1) := by decide +kernel
theorem dX11_move_145 : decode cX11_move 145 = .ok (.putfield 249, 3) := by decide +kernel
theorem dX11_move_148 : decode cX11_move 148 = .ok (.aload_n 0, 1) := by decide +kernel
theorem dX11_move_149 : decode cX11_move 149 = .ok (.getfield 249, 3) := by decide +kernel
theorem dX11_move_152 : decode cX11_move 152 = .ok (.ireturn, 1) := by decide +kernel
theorem dX11_report_0 : decode cX11_report 0 = .ok (.aload_n 0, 1) := by decide +kernel
theorem dX11_report_1 : decode cX11_report 1 = .ok (.getfield 65, 3) := by decide +kernel
theorem dX11_report_4 : decode cX11_report 4 = .ok (.iconst (-1), 1) := by decide +kernel
theorem dX11_report_5 : decode cX11_report 5 = .ok (.if_icmp .eq 36, 3) := by decide +kernel
theorem dX11_report_8 : decode cX11_report 8 = .ok (.iload_n 1, 1) := by decide +kernel
theorem dX11_report_9 : decode cX11_report 9 = .ok (.i2l, 1) := by decide +kernel
theorem dX11_report_10 : decode cX11_report 10 = .ok (.lconst 0, 1) := by decide +kernel
theorem dX11_report_11 : decode cX11_report 11 = .ok (.ldc2_w 330, 3) := by decide +kernel
theorem dX11_report_14 : decode cX11_report 14 = .ok (.invokestatic 139, 3) := by decide +kernel
theorem dX11_report_17 : decode cX11_report 17 = .ok (.ifCond .eq 24, 3) := by decide +kernel
theorem dX11_report_20 : decode cX11_report 20 = .ok (.iload_n 2, 1) := by decide +kernel
theorem dX11_report_21 : decode cX11_report 21 = .ok (.i2l, 1) := by decide +kernel
theorem dX11_report_22 : decode cX11_report 22 = .ok (.lconst 0, 1) := by decide +kernel
theorem dX11_report_23 : decode cX11_report 23 = .ok (.ldc2_w 332, 3) := by decide +kernel
theorem dX11_report_26 : decode cX11_report 26 = .ok (.invokestatic 139, 3) := by decide +kernel
theorem dX11_report_29 : decode cX11_report 29 = .ok (.ifCond .eq 12, 3) := by decide +kernel
theorem dX11_report_32 : decode cX11_report 32 = .ok (.aload_n 0, 1) := by decide +kernel
theorem dX11_report_33 : decode cX11_report 33 = .ok (.getfield 334, 3) := by decide +kernel
theorem dX11_report_36 : decode cX11_report 36 = .ok (.bipush 60, 2) := by decide +kernel
theorem dX11_report_38 : decode cX11_report 38 = .ok (.if_icmp .ne 5, 3) := by decide +kernel
theorem dX11_report_41 : decode cX11_report 41 = .ok (.iconst (-1), 1) := by decide +kernel
theorem dX11_report_42 : decode cX11_report 42 = .ok (.ireturn, 1) := by decide +kernel
theorem dX11_report_43 : decode cX11_report 43 = .ok (.aload_n 0, 1) := by decide +kernel
theorem dX11_report_44 : decode cX11_report 44 = .ok (.getfield 87, 3) := by decide +kernel
theorem dX11_report_47 : decode cX11_report 47 = .ok (.aload_n 0, 1) := by decide +kernel
theorem dX11_report_48 : decode cX11_report 48 = .ok (.getfield 334, 3) := by decide +kernel
theorem dX11_report_51 : decode cX11_report 51 = .ok (.iload_n 1, 1) := by decide +kernel
theorem dX11_report_52 : decode cX11_report 52 = .ok (.iastore, 1) := by decide +kernel
theorem dX11_report_53 : decode cX11_report 53 = .ok (.aload_n 0, 1) := by decide +kernel
theorem dX11_report_54 : decode cX11_report 54 = .ok (.getfield 90, 3) := by decide +kernel
theorem dX11_report_57 : decode cX11_report 57 = .ok (.aload_n 0, 1) := by decide +kernel
theorem dX11_report_58 : decode cX11_report 58 = .ok (.getfield 334, 3) := by decide +kernel
theorem dX11_report_61 : decode cX11_report 61 = .ok (.aload_n 0, 1) := by decide +kernel
theorem dX11_report_62 : decode cX11_report 62 = .ok (.getfield 65, 3) := by decide +kernel
theorem dX11_report_65 : decode cX11_report 65 = .ok (.iastore, 1) := by decide +kernel
theorem dX11_report_66 : decode cX11_report 66 = .ok (.iconst 0, 1) := by decide +kernel
theorem dX11_report_67 : decode cX11_report 67 = .ok (.istore_n 3, 1) := by decide +kernel
theorem dX11_report_68 : decode cX11_report 68 = .ok (.iload_n 3, 1) := by decide +kernel
theorem dX11_report_69 : decode cX11_report 69 = .ok (.iconst 4, 1) := by decide +kernel
theorem dX11_report_70 : decode cX11_report 70 = .ok (.if_icmp .ge 28, 3) := by decide +kernel
theorem dX11_report_73 : decode cX11_report 73 = .ok (.aload_n 0, 1) := by decide +kernel
theorem dX11_report_74 : decode cX11_report 74 = .ok (.getfield 93, 3) := by decide +kernel
theorem dX11_report_77 : decode cX11_report 77 = .ok (.iconst 4, 1) := by decide +kernel
theorem dX11_report_78 : decode cX11_report 78 = .ok (.aload_n 0, 1) := by decide +kernel
theorem dX11_report_79 : decode cX11_report 79 = .ok (.getfield 334, 3) := by decide +kernel
theorem dX11_report_82 : decode cX11_report 82 = .ok (.imul, 1) := by decide +kernel
theorem dX11_report_83 : decode cX11_report 83 = .ok (.iload_n 3, 1) := by decide +kernel
theorem dX11_report_84 : decode cX11_report 84 = .ok (.iadd, 1) := by decide +kernel
theorem dX11_report_85 : decode cX11_report 85 = .ok (.aload_n 0, 1) := by decide +kernel
theorem dX11_report_86 : decode cX11_report 86 = .ok (.getfield 69, 3) := by decide +kernel
theorem dX11_report_89 : decode cX11_report 89 = .ok (.iload_n 3, 1) := by decide +kernel
theorem dX11_report_90 : decode cX11_report 90 = .ok (.iaload, 1) := by decide +kernel
theorem dX11_report_91 : decode cX11_report 91 = .ok (.iastore, 1) := by decide +kernel
theorem dX11_report_92 : decode cX11_report 92 = .ok (.iinc 3 1, 3) := by decide +kernel
theorem dX11_report_95 : decode cX11_report 95 = .ok (.goto (-27), 3) := by decide +kernel
theorem dX11_report_98 : decode cX11_report 98 = .ok (.aload_n 0, 1) := by decide +kernel
theorem dX11_report_99 : decode cX11_report 99 = .ok (.getfield 96, 3) := by decide +kernel
theorem dX11_report_102 : decode cX11_report 102 = .ok (.aload_n 0, 1) := by decide +kernel
theorem dX11_report_103 : decode cX11_report 103 = .ok (.getfield 334, 3) := by decide +kernel
theorem dX11_report_106 : decode cX11_report 106 = .ok (.iload_n 2, 1) := by decide +kernel
theorem dX11_report_107 : decode cX11_report 107 = .ok (.iastore, 1) := by decide +kernel
theorem dX11_report_108 : decode cX11_report 108 = .ok (.aload_n 0, 1) := by decide +kernel
theorem dX11_report_109 : decode cX11_report 109 = .ok (.getfield 99, 3) := by decide +kernel
theorem dX11_report_112 : decode cX11_report 112 = .ok (.aload_n 0, 1) := by decide +kernel
theorem dX11_report_113 : decode cX11_report 113 = .ok (.getfield 334, 3) := by decide +kernel
theorem dX11_report_116 : decode cX11_report 116 = .ok (.aload_n 0, 1) := by decide +kernel
theorem dX11_report_117 : decode cX11_report 117 = .ok (.getfield 268, 3) := by decide +kernel
theorem dX11_report_120 : decode cX11_report 120 = .ok (.iastore, 1) := by decide +kernel
theorem dX11_report_121 : decode cX11_report 121 = .ok (.aload_n 0, 1) := by decide +kernel
theorem dX11_report_122 : decode cX11_report 122 = .ok (.dup, 1) := by decide +kernel
theorem dX11_report_123 : decode cX11_report 123 = .ok (.getfield 334, 3) := by decide +kernel
theorem dX11_report_126 : decode cX11_report 126 = .ok (.iconst 1, 1) := by decide +kernel
theorem dX11_report_127 : decode cX11_report 127 = .ok (.iadd, 1) := by decide +kernel
theorem dX11_report_128 : decode cX11_report 128 = .ok (.putfield 334, 3) := by decide +kernel
theorem dX11_report_131 : decode cX11_report 131 = .ok (.aload_n 0, 1) := by decide +kernel
theorem dX11_report_132 : decode cX11_report 132 = .ok (.getfield 334, 3) := by decide +kernel
theorem dX11_report_135 : decode cX11_report 135 = .ok (.ireturn, 1) := by decide +kernel
theorem dX11_dueOf_0 : decode cX11_dueOf 0 = .ok (.aload_n 0, 1) := by decide +kernel
theorem dX11_dueOf_1 : decode cX11_dueOf 1 = .ok (.aload_n 0, 1) := by decide +kernel
theorem dX11_dueOf_2 : decode cX11_dueOf 2 = .ok (.getfield 93, 3) := by decide +kernel
theorem dX11_dueOf_5 : decode cX11_dueOf 5 = .ok (.iconst 4, 1) := by decide +kernel
theorem dX11_dueOf_6 : decode cX11_dueOf 6 = .ok (.iload_n 1, 1) := by decide +kernel
theorem dX11_dueOf_7 : decode cX11_dueOf 7 = .ok (.imul, 1) := by decide +kernel
theorem dX11_dueOf_8 : decode cX11_dueOf 8 = .ok (.invokevirtual 271, 3) := by decide +kernel
theorem dX11_dueOf_11 : decode cX11_dueOf 11 = .ok (.aload_n 0, 1) := by decide +kernel
theorem dX11_dueOf_12 : decode cX11_dueOf 12 = .ok (.aload_n 0, 1) := by decide +kernel
theorem dX11_dueOf_13 : decode cX11_dueOf 13 = .ok (.getfield 41, 3) := by decide +kernel
theorem dX11_dueOf_16 : decode cX11_dueOf 16 = .ok (.aload_n 0, 1) := by decide +kernel
theorem dX11_dueOf_17 : decode cX11_dueOf 17 = .ok (.getfield 90, 3) := by decide +kernel
theorem dX11_dueOf_20 : decode cX11_dueOf 20 = .ok (.iload_n 1, 1) := by decide +kernel
theorem dX11_dueOf_21 : decode cX11_dueOf 21 = .ok (.iaload, 1) := by decide +kernel
theorem dX11_dueOf_22 : decode cX11_dueOf 22 = .ok (.iaload, 1) := by decide +kernel
theorem dX11_dueOf_23 : decode cX11_dueOf 23 = .ok (.aload_n 0, 1) := by decide +kernel
theorem dX11_dueOf_24 : decode cX11_dueOf 24 = .ok (.aload_n 0, 1) := by decide +kernel
theorem dX11_dueOf_25 : decode cX11_dueOf 25 = .ok (.getfield 90, 3) := by decide +kernel
theorem dX11_dueOf_28 : decode cX11_dueOf 28 = .ok (.iload_n 1, 1) := by decide +kernel
theorem dX11_dueOf_29 : decode cX11_dueOf 29 = .ok (.iaload, 1) := by decide +kernel
theorem dX11_dueOf_30 : decode cX11_dueOf 30 = .ok (.aload_n 0, 1) := by decide +kernel
theorem dX11_dueOf_31 : decode cX11_dueOf 31 = .ok (.getfield 99, 3) := by decide +kernel
theorem dX11_dueOf_34 : decode cX11_dueOf 34 = .ok (.iload_n 1, 1) := by decide +kernel
theorem dX11_dueOf_35 : decode cX11_dueOf 35 = .ok (.iaload, 1) := by decide +kernel
theorem dX11_dueOf_36 : decode cX11_dueOf 36 = .ok (.invokevirtual 275, 3) := by decide +kernel
theorem dX11_dueOf_39 : decode cX11_dueOf 39 = .ok (.invokevirtual 279, 3) := by decide +kernel
theorem dX11_dueOf_42 : decode cX11_dueOf 42 = .ok (.ireturn, 1) := by decide +kernel
theorem dX11_habitOf_0 : decode cX11_habitOf 0 = .ok (.iconst 0, 1) := by decide +kernel
theorem dX11_habitOf_1 : decode cX11_habitOf 1 = .ok (.istore_n 2, 1) := by decide +kernel
theorem dX11_habitOf_2 : decode cX11_habitOf 2 = .ok (.iconst 0, 1) := by decide +kernel
theorem dX11_habitOf_3 : decode cX11_habitOf 3 = .ok (.istore_n 3, 1) := by decide +kernel
theorem dX11_habitOf_4 : decode cX11_habitOf 4 = .ok (.iconst 0, 1) := by decide +kernel
theorem dX11_habitOf_5 : decode cX11_habitOf 5 = .ok (.istore 4, 2) := by decide +kernel
theorem dX11_habitOf_7 : decode cX11_habitOf 7 = .ok (.iload 4, 2) := by decide +kernel
theorem dX11_habitOf_9 : decode cX11_habitOf 9 = .ok (.bipush 9, 2) := by decide +kernel
theorem dX11_habitOf_11 : decode cX11_habitOf 11 = .ok (.if_icmp .gt 129, 3) := by decide +kernel
theorem dX11_habitOf_14 : decode cX11_habitOf 14 = .ok (.iconst 0, 1) := by decide +kernel
theorem dX11_habitOf_15 : decode cX11_habitOf 15 = .ok (.istore 5, 2) := by decide +kernel
theorem dX11_habitOf_17 : decode cX11_habitOf 17 = .ok (.iload 5, 2) := by decide +kernel
theorem dX11_habitOf_19 : decode cX11_habitOf 19 = .ok (.iconst 2, 1) := by decide +kernel
theorem dX11_habitOf_20 : decode cX11_habitOf 20 = .ok (.if_icmp .ge 114, 3) := by decide +kernel
theorem dX11_habitOf_23 : decode cX11_habitOf 23 = .ok (.iload 5, 2) := by decide +kernel
theorem dX11_habitOf_25 : decode cX11_habitOf 25 = .ok (.ifCond .ne 9, 3) := by decide +kernel
theorem dX11_habitOf_28 : decode cX11_habitOf 28 = .ok (.iload 4, 2) := by decide +kernel
theorem dX11_habitOf_30 : decode cX11_habitOf 30 = .ok (.ineg, 1) := by decide +kernel
theorem dX11_habitOf_31 : decode cX11_habitOf 31 = .ok (.goto 5, 3) := by decide +kernel
theorem dX11_habitOf_34 : decode cX11_habitOf 34 = .ok (.iload 4, 2) := by decide +kernel
theorem dX11_habitOf_36 : decode cX11_habitOf 36 = .ok (.istore 6, 2) := by decide +kernel
theorem dX11_habitOf_38 : decode cX11_habitOf 38 = .ok (.iconst 0, 1) := by decide +kernel
theorem dX11_habitOf_39 : decode cX11_habitOf 39 = .ok (.istore 7, 2) := by decide +kernel
theorem dX11_habitOf_41 : decode cX11_habitOf 41 = .ok (.iconst 0, 1) := by decide +kernel
theorem dX11_habitOf_42 : decode cX11_habitOf 42 = .ok (.istore 8, 2) := by decide +kernel
theorem dX11_habitOf_44 : decode cX11_habitOf 44 = .ok (.iload 8, 2) := by decide +kernel
theorem dX11_habitOf_46 : decode cX11_habitOf 46 = .ok (.aload_n 0, 1) := by decide +kernel
theorem dX11_habitOf_47 : decode cX11_habitOf 47 = .ok (.getfield 334, 3) := by decide +kernel
theorem dX11_habitOf_50 : decode cX11_habitOf 50 = .ok (.if_icmp .ge 63, 3) := by decide +kernel
theorem dX11_habitOf_53 : decode cX11_habitOf 53 = .ok (.aload_n 0, 1) := by decide +kernel
theorem dX11_habitOf_54 : decode cX11_habitOf 54 = .ok (.getfield 87, 3) := by decide +kernel
theorem dX11_habitOf_57 : decode cX11_habitOf 57 = .ok (.iload 8, 2) := by decide +kernel
theorem dX11_habitOf_59 : decode cX11_habitOf 59 = .ok (.iaload, 1) := by decide +kernel
theorem dX11_habitOf_60 : decode cX11_habitOf 60 = .ok (.iload_n 1, 1) := by decide +kernel
theorem dX11_habitOf_61 : decode cX11_habitOf 61 = .ok (.if_icmp .ne 12, 3) := by decide +kernel
theorem dX11_habitOf_64 : decode cX11_habitOf 64 = .ok (.aload_n 0, 1) := by decide +kernel
theorem dX11_habitOf_65 : decode cX11_habitOf 65 = .ok (.iload 8, 2) := by decide +kernel
theorem dX11_habitOf_67 : decode cX11_habitOf 67 = .ok (.invokevirtual 337, 3) := by decide +kernel
theorem dX11_habitOf_70 : decode cX11_habitOf 70 = .ok (.goto 4, 3) := by decide +kernel
theorem dX11_habitOf_73 : decode cX11_habitOf 73 = .ok (.iconst (-1), 1) := by decide +kernel
theorem dX11_habitOf_74 : decode cX11_habitOf 74 = .ok (.istore 9, 2) := by decide +kernel
theorem dX11_habitOf_76 : decode cX11_habitOf 76 = .ok (.iload 7, 2) := by decide +kernel
theorem dX11_habitOf_78 : decode cX11_habitOf 78 = .ok (.iload 9, 2) := by decide +kernel
theorem dX11_habitOf_80 : decode cX11_habitOf 80 = .ok (.iconst (-1), 1) := by decide +kernel
theorem dX11_habitOf_81 : decode cX11_habitOf 81 = .ok (.if_icmp .eq 22, 3) := by decide +kernel
theorem dX11_habitOf_84 : decode cX11_habitOf 84 = .ok (.aload_n 0, 1) := by decide +kernel
theorem dX11_habitOf_85 : decode cX11_habitOf 85 = .ok (.getfield 96, 3) := by decide +kernel
theorem dX11_habitOf_88 : decode cX11_habitOf 88 = .ok (.iload 8, 2) := by decide +kernel
theorem dX11_habitOf_90 : decode cX11_habitOf 90 = .ok (.iaload, 1) := by decide +kernel
theorem dX11_habitOf_91 : decode cX11_habitOf 91 = .ok (.iload 9, 2) := by decide +kernel
theorem dX11_habitOf_93 : decode cX11_habitOf 93 = .ok (.isub, 1) := by decide +kernel
theorem dX11_habitOf_94 : decode cX11_habitOf 94 = .ok (.iload 6, 2) := by decide +kernel
theorem dX11_habitOf_96 : decode cX11_habitOf 96 = .ok (.if_icmp .ne 7, 3) := by decide +kernel
theorem dX11_habitOf_99 : decode cX11_habitOf 99 = .ok (.iconst 1, 1) := by decide +kernel
theorem dX11_habitOf_100 : decode cX11_habitOf 100 = .ok (.goto 4, 3) := by decide +kernel
theorem dX11_habitOf_103 : decode cX11_habitOf 103 = .ok (.iconst 0, 1) := by decide +kernel
theorem dX11_habitOf_104 : decode cX11_habitOf 104 = .ok (.iadd, 1) := by decide +kernel
theorem dX11_habitOf_105 : decode cX11_habitOf 105 = .ok (.istore 7, 2) := by decide +kernel
theorem dX11_habitOf_107 : decode cX11_habitOf 107 = .ok (.iinc 8 1, 3) := by decide +kernel
theorem dX11_habitOf_110 : decode cX11_habitOf 110 = .ok (.goto (-66), 3) := by decide +kernel
theorem dX11_habitOf_113 : decode cX11_habitOf 113 = .ok (.iload 7, 2) := by decide +kernel
theorem dX11_habitOf_115 : decode cX11_habitOf 115 = .ok (.iload_n 3, 1) := by decide +kernel
theorem dX11_habitOf_116 : decode cX11_habitOf 116 = .ok (.if_icmp .gt 6, 3) := by decide +kernel
theorem dX11_habitOf_119 : decode cX11_habitOf 119 = .ok (.goto 9, 3) := by decide +kernel
theorem dX11_habitOf_122 : decode cX11_habitOf 122 = .ok (.iload 7, 2) := by decide +kernel
theorem dX11_habitOf_124 : decode cX11_habitOf 124 = .ok (.istore_n 3, 1) := by decide +kernel
theorem dX11_habitOf_125 : decode cX11_habitOf 125 = .ok (.iload 6, 2) := by decide +kernel
theorem dX11_habitOf_127 : decode cX11_habitOf 127 = .ok (.istore_n 2, 1) := by decide +kernel
theorem dX11_habitOf_128 : decode cX11_habitOf 128 = .ok (.iinc 5 1, 3) := by decide +kernel
theorem dX11_habitOf_131 : decode cX11_habitOf 131 = .ok (.goto (-114), 3) := by decide +kernel
theorem dX11_habitOf_134 : decode cX11_habitOf 134 = .ok (.iinc 4 1, 3) := by decide +kernel
theorem dX11_habitOf_137 : decode cX11_habitOf 137 = .ok (.goto (-130), 3) := by decide +kernel
theorem dX11_habitOf_140 : decode cX11_habitOf 140 = .ok (.iload_n 2, 1) := by decide +kernel
theorem dX11_habitOf_141 : decode cX11_habitOf 141 = .ok (.ireturn, 1) := by decide +kernel
theorem dX11_habit_0 : decode cX11_habit 0 = .ok (.iload_n 1, 1) := by decide +kernel
theorem dX11_habit_1 : decode cX11_habit 1 = .ok (.i2l, 1) := by decide +kernel
theorem dX11_habit_2 : decode cX11_habit 2 = .ok (.lconst 0, 1) := by decide +kernel
theorem dX11_habit_3 : decode cX11_habit 3 = .ok (.ldc2_w 330, 3) := by decide +kernel
theorem dX11_habit_6 : decode cX11_habit 6 = .ok (.invokestatic 139, 3) := by decide +kernel
theorem dX11_habit_9 : decode cX11_habit 9 = .ok (.ifCond .eq 11, 3) := by decide +kernel
theorem dX11_habit_12 : decode cX11_habit 12 = .ok (.aload_n 0, 1) := by decide +kernel
theorem dX11_habit_13 : decode cX11_habit 13 = .ok (.iload_n 1, 1) := by decide +kernel
theorem dX11_habit_14 : decode cX11_habit 14 = .ok (.invokevirtual 340, 3) := by decide +kernel
theorem dX11_habit_17 : decode cX11_habit 17 = .ok (.goto 5, 3) := by decide +kernel
theorem dX11_habit_20 : decode cX11_habit 20 = .ok (.ldc 189, 2) := by decide +kernel
theorem dX11_habit_22 : decode cX11_habit 22 = .ok (.ireturn, 1) := by decide +kernel
theorem dX11_stands_0 : decode cX11_stands 0 = .ok (.aload_n 0, 1) := by decide +kernel
theorem dX11_stands_1 : decode cX11_stands 1 = .ok (.iload_n 1, 1) := by decide +kernel
theorem dX11_stands_2 : decode cX11_stands 2 = .ok (.invokevirtual 337, 3) := by decide +kernel
theorem dX11_stands_5 : decode cX11_stands 5 = .ok (.istore_n 3, 1) := by decide +kernel
theorem dX11_stands_6 : decode cX11_stands 6 = .ok (.iload_n 3, 1) := by decide +kernel
theorem dX11_stands_7 : decode cX11_stands 7 = .ok (.iconst (-1), 1) := by decide +kernel
theorem dX11_stands_8 : decode cX11_stands 8 = .ok (.if_icmp .ne 5, 3) := by decide +kernel
theorem dX11_stands_11 : decode cX11_stands 11 = .ok (.iconst (-1), 1) := by decide +kernel
theorem dX11_stands_12 : decode cX11_stands 12 = .ok (.ireturn, 1) := by decide +kernel
theorem dX11_stands_13 : decode cX11_stands 13 = .ok (.aload_n 0, 1) := by decide +kernel
theorem dX11_stands_14 : decode cX11_stands 14 = .ok (.getfield 96, 3) := by decide +kernel
theorem dX11_stands_17 : decode cX11_stands 17 = .ok (.iload_n 1, 1) := by decide +kernel
theorem dX11_stands_18 : decode cX11_stands 18 = .ok (.iaload, 1) := by decide +kernel
theorem dX11_stands_19 : decode cX11_stands 19 = .ok (.iload_n 3, 1) := by decide +kernel
theorem dX11_stands_20 : decode cX11_stands 20 = .ok (.isub, 1) := by decide +kernel
theorem dX11_stands_21 : decode cX11_stands 21 = .ok (.aload_n 0, 1) := by decide +kernel
theorem dX11_stands_22 : decode cX11_stands 22 = .ok (.aload_n 0, 1) := by decide +kernel
theorem dX11_stands_23 : decode cX11_stands 23 = .ok (.getfield 87, 3) := by decide +kernel
theorem dX11_stands_26 : decode cX11_stands 26 = .ok (.iload_n 1, 1) := by decide +kernel
theorem dX11_stands_27 : decode cX11_stands 27 = .ok (.iaload, 1) := by decide +kernel
theorem dX11_stands_28 : decode cX11_stands 28 = .ok (.invokevirtual 340, 3) := by decide +kernel
theorem dX11_stands_31 : decode cX11_stands 31 = .ok (.isub, 1) := by decide +kernel
theorem dX11_stands_32 : decode cX11_stands 32 = .ok (.istore 4, 2) := by decide +kernel
theorem dX11_stands_34 : decode cX11_stands 34 = .ok (.iload 4, 2) := by decide +kernel
theorem dX11_stands_36 : decode cX11_stands 36 = .ok (.iload_n 2, 1) := by decide +kernel
theorem dX11_stands_37 : decode cX11_stands 37 = .ok (.if_icmp .gt 10, 3) := by decide +kernel
theorem dX11_stands_40 : decode cX11_stands 40 = .ok (.iload 4, 2) := by decide +kernel
theorem dX11_stands_42 : decode cX11_stands 42 = .ok (.ineg, 1) := by decide +kernel
theorem dX11_stands_43 : decode cX11_stands 43 = .ok (.iload_n 2, 1) := by decide +kernel
theorem dX11_stands_44 : decode cX11_stands 44 = .ok (.if_icmp .le 7, 3) := by decide +kernel
theorem dX11_stands_47 : decode cX11_stands 47 = .ok (.iconst 1, 1) := by decide +kernel
theorem dX11_stands_48 : decode cX11_stands 48 = .ok (.goto 4, 3) := by decide +kernel
theorem dX11_stands_51 : decode cX11_stands 51 = .ok (.iconst 0, 1) := by decide +kernel
theorem dX11_stands_52 : decode cX11_stands 52 = .ok (.ireturn, 1) := by decide +kernel
theorem dX11_due_0 : decode cX11_due 0 = .ok (.iload_n 1, 1) := by decide +kernel
theorem dX11_due_1 : decode cX11_due 1 = .ok (.i2l, 1) := by decide +kernel
theorem dX11_due_2 : decode cX11_due 2 = .ok (.lconst 0, 1) := by decide +kernel
theorem dX11_due_3 : decode cX11_due 3 = .ok (.aload_n 0, 1) := by decide +kernel
theorem dX11_due_4 : decode cX11_due 4 = .ok (.getfield 334, 3) := by decide +kernel
theorem dX11_due_7 : decode cX11_due 7 = .ok (.iconst 1, 1) := by decide +kernel
theorem dX11_due_8 : decode cX11_due 8 = .ok (.isub, 1) := by decide +kernel
theorem dX11_due_9 : decode cX11_due 9 = .ok (.i2l, 1) := by decide +kernel
theorem dX11_due_10 : decode cX11_due 10 = .ok (.invokestatic 139, 3) := by decide +kernel
theorem dX11_due_13 : decode cX11_due 13 = .ok (.ifCond .eq 25, 3) := by decide +kernel
theorem dX11_due_16 : decode cX11_due 16 = .ok (.iload_n 2, 1) := by decide +kernel
theorem dX11_due_17 : decode cX11_due 17 = .ok (.i2l, 1) := by decide +kernel
theorem dX11_due_18 : decode cX11_due 18 = .ok (.lconst 0, 1) := by decide +kernel
theorem dX11_due_19 : decode cX11_due 19 = .ok (.ldc2_w 343, 3) := by decide +kernel
theorem dX11_due_22 : decode cX11_due 22 = .ok (.invokestatic 139, 3) := by decide +kernel
theorem dX11_due_25 : decode cX11_due 25 = .ok (.ifCond .eq 13, 3) := by decide +kernel
theorem dX11_due_28 : decode cX11_due 28 = .ok (.iload_n 3, 1) := by decide +kernel
theorem dX11_due_29 : decode cX11_due 29 = .ok (.i2l, 1) := by decide +kernel
theorem dX11_due_30 : decode cX11_due 30 = .ok (.lconst 0, 1) := by decide +kernel
theorem dX11_due_31 : decode cX11_due 31 = .ok (.lconst 1, 1) := by decide +kernel
theorem dX11_due_32 : decode cX11_due 32 = .ok (.invokestatic 139, 3) := by decide +kernel
theorem dX11_due_35 : decode cX11_due 35 = .ok (.ifCond .ne 6, 3) := by decide +kernel
theorem dX11_due_38 : decode cX11_due 38 = .ok (.ldc 189, 2) := by decide +kernel
theorem dX11_due_40 : decode cX11_due 40 = .ok (.ireturn, 1) := by decide +kernel
theorem dX11_due_41 : decode cX11_due 41 = .ok (.iload_n 3, 1) := by decide +kernel
theorem dX11_due_42 : decode cX11_due 42 = .ok (.ifCond .ne 11, 3) := by decide +kernel
theorem dX11_due_45 : decode cX11_due 45 = .ok (.aload_n 0, 1) := by decide +kernel
theorem dX11_due_46 : decode cX11_due 46 = .ok (.iload_n 1, 1) := by decide +kernel
theorem dX11_due_47 : decode cX11_due 47 = .ok (.invokevirtual 337, 3) := by decide +kernel
theorem dX11_due_50 : decode cX11_due 50 = .ok (.goto 18, 3) := by decide +kernel
theorem dX11_due_53 : decode cX11_due 53 = .ok (.aload_n 0, 1) := by decide +kernel
theorem dX11_due_54 : decode cX11_due 54 = .ok (.iload_n 1, 1) := by decide +kernel
theorem dX11_due_55 : decode cX11_due 55 = .ok (.iload_n 2, 1) := by decide +kernel
theorem dX11_due_56 : decode cX11_due 56 = .ok (.invokevirtual 345, 3) := by decide +kernel
theorem dX11_due_59 : decode cX11_due 59 = .ok (.iconst 1, 1) := by decide +kernel
theorem dX11_due_60 : decode cX11_due 60 = .ok (.if_icmp .ne 7, 3) := by decide +kernel
theorem dX11_due_63 : decode cX11_due 63 = .ok (.iconst 1, 1) := by decide +kernel
theorem dX11_due_64 : decode cX11_due 64 = .ok (.goto 4, 3) := by decide +kernel
theorem dX11_due_67 : decode cX11_due 67 = .ok (.iconst 0, 1) := by decide +kernel
theorem dX11_due_68 : decode cX11_due 68 = .ok (.ireturn, 1) := by decide +kernel
theorem dX11_has_0 : decode cX11_has 0 = .ok (.aload_n 0, 1) := by decide +kernel
theorem dX11_has_1 : decode cX11_has 1 = .ok (.getfield 90, 3) := by decide +kernel
theorem dX11_has_4 : decode cX11_has 4 = .ok (.iload_n 1, 1) := by decide +kernel
theorem dX11_has_5 : decode cX11_has 5 = .ok (.iaload, 1) := by decide +kernel
theorem dX11_has_6 : decode cX11_has 6 = .ok (.istore_n 3, 1) := by decide +kernel
theorem dX11_has_7 : decode cX11_has 7 = .ok (.iconst 0, 1) := by decide +kernel
theorem dX11_has_8 : decode cX11_has 8 = .ok (.istore 4, 2) := by decide +kernel
theorem dX11_has_10 : decode cX11_has 10 = .ok (.iload 4, 2) := by decide +kernel
theorem dX11_has_12 : decode cX11_has 12 = .ok (.aload_n 0, 1) := by decide +kernel
theorem dX11_has_13 : decode cX11_has 13 = .ok (.getfield 23, 3) := by decide +kernel
theorem dX11_has_16 : decode cX11_has 16 = .ok (.aload_n 0, 1) := by decide +kernel
theorem dX11_has_17 : decode cX11_has 17 = .ok (.getfield 41, 3) := by decide +kernel
theorem dX11_has_20 : decode cX11_has 20 = .ok (.iload_n 3, 1) := by decide +kernel
theorem dX11_has_21 : decode cX11_has 21 = .ok (.iaload, 1) := by decide +kernel
theorem dX11_has_22 : decode cX11_has 22 = .ok (.iaload, 1) := by decide +kernel
theorem dX11_has_23 : decode cX11_has 23 = .ok (.iconst 1, 1) := by decide +kernel
theorem dX11_has_24 : decode cX11_has 24 = .ok (.isub, 1) := by decide +kernel
theorem dX11_has_25 : decode cX11_has 25 = .ok (.if_icmp .ge 47, 3) := by decide +kernel
theorem dX11_has_28 : decode cX11_has 28 = .ok (.aload_n 0, 1) := by decide +kernel
theorem dX11_has_29 : decode cX11_has 29 = .ok (.getfield 44, 3) := by decide +kernel
theorem dX11_has_32 : decode cX11_has 32 = .ok (.iconst 4, 1) := by decide +kernel
theorem dX11_has_33 : decode cX11_has 33 = .ok (.iload_n 3, 1) := by decide +kernel
theorem dX11_has_34 : decode cX11_has 34 = .ok (.imul, 1) := by decide +kernel
theorem dX11_has_35 : decode cX11_has 35 = .ok (.iload 4, 2) := by decide +kernel
theorem dX11_has_37 : decode cX11_has 37 = .ok (.iadd, 1) := by decide +kernel
theorem dX11_has_38 : decode cX11_has 38 = .ok (.iaload, 1) := by decide +kernel
theorem dX11_has_39 : decode cX11_has 39 = .ok (.iload_n 2, 1) := by decide +kernel
theorem dX11_has_40 : decode cX11_has 40 = .ok (.bipush 100, 2) := by decide +kernel
theorem dX11_has_42 : decode cX11_has 42 = .ok (.idiv, 1) := by decide +kernel
theorem dX11_has_43 : decode cX11_has 43 = .ok (.if_icmp .ne 23, 3) := by decide +kernel
theorem dX11_has_46 : decode cX11_has 46 = .ok (.aload_n 0, 1) := by decide +kernel
theorem dX11_has_47 : decode cX11_has 47 = .ok (.getfield 93, 3) := by decide +kernel
theorem dX11_has_50 : decode cX11_has 50 = .ok (.iconst 4, 1) := by decide +kernel
theorem dX11_has_51 : decode cX11_has 51 = .ok (.iload_n 1, 1) := by decide +kernel
theorem dX11_has_52 : decode cX11_has 52 = .ok (.imul, 1) := by decide +kernel
theorem dX11_has_53 : decode cX11_has 53 = .ok (.iload 4, 2) := by decide +kernel
theorem dX11_has_55 : decode cX11_has 55 = .ok (.iadd, 1) := by decide +kernel
theorem dX11_has_56 : decode cX11_has 56 = .ok (.iaload, 1) := by decide +kernel
theorem dX11_has_57 : decode cX11_has 57 = .ok (.iload_n 2, 1) := by decide +kernel
theorem dX11_has_58 : decode cX11_has 58 = .ok (.bipush 100, 2) := by decide +kernel
theorem dX11_has_60 : decode cX11_has 60 = .ok (.irem, 1) := by decide +kernel
theorem dX11_has_61 : decode cX11_has 61 = .ok (.if_icmp .ne 5, 3) := by decide +kernel
theorem dX11_has_64 : decode cX11_has 64 = .ok (.iconst 1, 1) := by decide +kernel
theorem dX11_has_65 : decode cX11_has 65 = .ok (.ireturn, 1) := by decide +kernel
theorem dX11_has_66 : decode cX11_has 66 = .ok (.iinc 4 1, 3) := by decide +kernel
theorem dX11_has_69 : decode cX11_has 69 = .ok (.goto (-59), 3) := by decide +kernel
theorem dX11_has_72 : decode cX11_has 72 = .ok (.iconst 0, 1) := by decide +kernel
theorem dX11_has_73 : decode cX11_has 73 = .ok (.ireturn, 1) := by decide +kernel
theorem dX11_bits_0 : decode cX11_bits 0 = .ok (.iconst 0, 1) := by decide +kernel
theorem dX11_bits_1 : decode cX11_bits 1 = .ok (.istore_n 1, 1) := by decide +kernel
theorem dX11_bits_2 : decode cX11_bits 2 = .ok (.iconst 0, 1) := by decide +kernel
theorem dX11_bits_3 : decode cX11_bits 3 = .ok (.istore_n 2, 1) := by decide +kernel
theorem dX11_bits_4 : decode cX11_bits 4 = .ok (.iload_n 2, 1) := by decide +kernel
theorem dX11_bits_5 : decode cX11_bits 5 = .ok (.bipush 12, 2) := by decide +kernel
theorem dX11_bits_7 : decode cX11_bits 7 = .ok (.if_icmp .ge 17, 3) := by decide +kernel
theorem dX11_bits_10 : decode cX11_bits 10 = .ok (.iload_n 1, 1) := by decide +kernel
theorem dX11_bits_11 : decode cX11_bits 11 = .ok (.iload_n 0, 1) := by decide +kernel
theorem dX11_bits_12 : decode cX11_bits 12 = .ok (.iload_n 2, 1) := by decide +kernel
theorem dX11_bits_13 : decode cX11_bits 13 = .ok (.ishr, 1) := by decide +kernel
theorem dX11_bits_14 : decode cX11_bits 14 = .ok (.iconst 1, 1) := by decide +kernel
theorem dX11_bits_15 : decode cX11_bits 15 = .ok (.iand, 1) := by decide +kernel
theorem dX11_bits_16 : decode cX11_bits 16 = .ok (.iadd, 1) := by decide +kernel
theorem dX11_bits_17 : decode cX11_bits 17 = .ok (.istore_n 1, 1) := by decide +kernel
theorem dX11_bits_18 : decode cX11_bits 18 = .ok (.iinc 2 1, 3) := by decide +kernel
theorem dX11_bits_21 : decode cX11_bits 21 = .ok (.goto (-17), 3) := by decide +kernel
theorem dX11_bits_24 : decode cX11_bits 24 = .ok (.iload_n 1, 1) := by decide +kernel
theorem dX11_bits_25 : decode cX11_bits 25 = .ok (.ireturn, 1) := by decide +kernel
theorem dX11_finds_0 : decode cX11_finds 0 = .ok (.aload_n 0, 1) := by decide +kernel
theorem dX11_finds_1 : decode cX11_finds 1 = .ok (.iconst 0, 1) := by decide +kernel
theorem dX11_finds_2 : decode cX11_finds 2 = .ok (.putfield 348, 3) := by decide +kernel
theorem dX11_finds_5 : decode cX11_finds 5 = .ok (.aload_n 0, 1) := by decide +kernel
theorem dX11_finds_6 : decode cX11_finds 6 = .ok (.iconst (-1), 1) := by decide +kernel
theorem dX11_finds_7 : decode cX11_finds 7 = .ok (.putfield 351, 3) := by decide +kernel
theorem dX11_finds_10 : decode cX11_finds 10 = .ok (.aload_n 0, 1) := by decide +kernel
theorem dX11_finds_11 : decode cX11_finds 11 = .ok (.iconst 0, 1) := by decide +kernel
theorem dX11_finds_12 : decode cX11_finds 12 = .ok (.putfield 354, 3) := by decide +kernel
theorem dX11_finds_15 : decode cX11_finds 15 = .ok (.iconst 0, 1) := by decide +kernel
theorem dX11_finds_16 : decode cX11_finds 16 = .ok (.istore_n 3, 1) := by decide +kernel
theorem dX11_finds_17 : decode cX11_finds 17 = .ok (.iload_n 3, 1) := by decide +kernel
theorem dX11_finds_18 : decode cX11_finds 18 = .ok (.aload_n 0, 1) := by decide +kernel
theorem dX11_finds_19 : decode cX11_finds 19 = .ok (.getfield 334, 3) := by decide +kernel
theorem dX11_finds_22 : decode cX11_finds 22 = .ok (.if_icmp .ge 35, 3) := by decide +kernel
theorem dX11_finds_25 : decode cX11_finds 25 = .ok (.aload_n 0, 1) := by decide +kernel
theorem dX11_finds_26 : decode cX11_finds 26 = .ok (.getfield 124, 3) := by decide +kernel
theorem dX11_finds_29 : decode cX11_finds 29 = .ok (.iload_n 3, 1) := by decide +kernel
theorem dX11_finds_30 : decode cX11_finds 30 = .ok (.aload_n 0, 1) := by decide +kernel
theorem dX11_finds_31 : decode cX11_finds 31 = .ok (.getfield 90, 3) := by decide +kernel
theorem dX11_finds_34 : decode cX11_finds 34 = .ok (.iload_n 3, 1) := by decide +kernel
theorem dX11_finds_35 : decode cX11_finds 35 = .ok (.iaload, 1) := by decide +kernel
theorem dX11_finds_36 : decode cX11_finds 36 = .ok (.iload_n 1, 1) := by decide +kernel
theorem dX11_finds_37 : decode cX11_finds 37 = .ok (.if_icmp .ne 12, 3) := by decide +kernel
theorem dX11_finds_40 : decode cX11_finds 40 = .ok (.aload_n 0, 1) := by decide +kernel
theorem dX11_finds_41 : decode cX11_finds 41 = .ok (.iload_n 3, 1) := by decide +kernel
theorem dX11_finds_42 : decode cX11_finds 42 = .ok (.iload_n 2, 1) := by decide +kernel
theorem dX11_finds_43 : decode cX11_finds 43 = .ok (.invokevirtual 345, 3) := by decide +kernel
theorem dX11_finds_46 : decode cX11_finds 46 = .ok (.goto 4, 3) := by decide +kernel
theorem dX11_finds_49 : decode cX11_finds 49 = .ok (.iconst (-1), 1) := by decide +kernel
theorem dX11_finds_50 : decode cX11_finds 50 = .ok (.iastore, 1) := by decide +kernel
theorem dX11_finds_51 : decode cX11_finds 51 = .ok (.iinc 3 1, 3) := by decide +kernel
theorem dX11_finds_54 : decode cX11_finds 54 = .ok (.goto (-37), 3) := by decide +kernel
theorem dX11_finds_57 : decode cX11_finds 57 = .ok (.iconst 1, 1) := by decide +kernel
theorem dX11_finds_58 : decode cX11_finds 58 = .ok (.istore_n 3, 1) := by decide +kernel
theorem dX11_finds_59 : decode cX11_finds 59 = .ok (.iload_n 3, 1) := by decide +kernel
theorem dX11_finds_60 : decode cX11_finds 60 = .ok (.aload_n 0, 1) := by decide +kernel
theorem dX11_finds_61 : decode cX11_finds 61 = .ok (.getfield 23, 3) := by decide +kernel
theorem dX11_finds_64 : decode cX11_finds 64 = .ok (.aload_n 0, 1) := by decide +kernel
theorem dX11_finds_65 : decode cX11_finds 65 = .ok (.getfield 41, 3) := by decide +kernel
theorem dX11_finds_68 : decode cX11_finds 68 = .ok (.iload_n 1, 1) := by decide +kernel
theorem dX11_finds_69 : decode cX11_finds 69 = .ok (.iaload, 1) := by decide +kernel
theorem dX11_finds_70 : decode cX11_finds 70 = .ok (.iaload, 1) := by decide +kernel
theorem dX11_finds_71 : decode cX11_finds 71 = .ok (.if_icmp .ge 183, 3) := by decide +kernel
theorem dX11_finds_74 : decode cX11_finds 74 = .ok (.iconst 0, 1) := by decide +kernel
theorem dX11_finds_75 : decode cX11_finds 75 = .ok (.istore 4, 2) := by decide +kernel
theorem dX11_finds_77 : decode cX11_finds 77 = .ok (.iload 4, 2) := by decide +kernel
theorem dX11_finds_79 : decode cX11_finds 79 = .ok (.aload_n 0, 1) := by decide +kernel
theorem dX11_finds_80 : decode cX11_finds 80 = .ok (.getfield 35, 3) := by decide +kernel
theorem dX11_finds_83 : decode cX11_finds 83 = .ok (.iconst 5, 1) := by decide +kernel
theorem dX11_finds_84 : decode cX11_finds 84 = .ok (.aload_n 0, 1) := by decide +kernel
theorem dX11_finds_85 : decode cX11_finds 85 = .ok (.getfield 41, 3) := by decide +kernel
theorem dX11_finds_88 : decode cX11_finds 88 = .ok (.iload_n 1, 1) := by decide +kernel
theorem dX11_finds_89 : decode cX11_finds 89 = .ok (.iaload, 1) := by decide +kernel
theorem dX11_finds_90 : decode cX11_finds 90 = .ok (.imul, 1) := by decide +kernel
theorem dX11_finds_91 : decode cX11_finds 91 = .ok (.iload_n 3, 1) := by decide +kernel
theorem dX11_finds_92 : decode cX11_finds 92 = .ok (.iadd, 1) := by decide +kernel
theorem dX11_finds_93 : decode cX11_finds 93 = .ok (.iaload, 1) := by decide +kernel
theorem dX11_finds_94 : decode cX11_finds 94 = .ok (.if_icmp .ge 154, 3) := by decide +kernel
theorem dX11_finds_97 : decode cX11_finds 97 = .ok (.bipush 100, 2) := by decide +kernel
theorem dX11_finds_99 : decode cX11_finds 99 = .ok (.iload_n 3, 1) := by decide +kernel
theorem dX11_finds_100 : decode cX11_finds 100 = .ok (.imul, 1) := by decide +kernel
theorem dX11_finds_101 : decode cX11_finds 101 = .ok (.iload 4, 2) := by decide +kernel
theorem dX11_finds_103 : decode cX11_finds 103 = .ok (.iadd, 1) := by decide +kernel
theorem dX11_finds_104 : decode cX11_finds 104 = .ok (.istore 5, 2) := by decide +kernel
theorem dX11_finds_106 : decode cX11_finds 106 = .ok (.iconst 0, 1) := by decide +kernel
theorem dX11_finds_107 : decode cX11_finds 107 = .ok (.istore 6, 2) := by decide +kernel
theorem dX11_finds_109 : decode cX11_finds 109 = .ok (.iconst 0, 1) := by decide +kernel
theorem dX11_finds_110 : decode cX11_finds 110 = .ok (.istore 7, 2) := by decide +kernel
theorem dX11_finds_112 : decode cX11_finds 112 = .ok (.iconst 0, 1) := by decide +kernel
theorem dX11_finds_113 : decode cX11_finds 113 = .ok (.istore 8, 2) := by decide +kernel
theorem dX11_finds_115 : decode cX11_finds 115 = .ok (.iload 8, 2) := by decide +kernel
theorem dX11_finds_117 : decode cX11_finds 117 = .ok (.aload_n 0, 1) := by decide +kernel
theorem dX11_finds_118 : decode cX11_finds 118 = .ok (.getfield 334, 3) := by decide +kernel
theorem dX11_finds_121 : decode cX11_finds 121 = .ok (.if_icmp .ge 76, 3) := by decide +kernel
theorem dX11_finds_124 : decode cX11_finds 124 = .ok (.iload 6, 2) := by decide +kernel
theorem dX11_finds_126 : decode cX11_finds 126 = .ok (.ifCond .ne 25, 3) := by decide +kernel
theorem dX11_finds_129 : decode cX11_finds 129 = .ok (.aload_n 0, 1) := by decide +kernel
theorem dX11_finds_130 : decode cX11_finds 130 = .ok (.getfield 124, 3) := by decide +kernel
theorem dX11_finds_133 : decode cX11_finds 133 = .ok (.iload 8, 2) := by decide +kernel
theorem dX11_finds_135 : decode cX11_finds 135 = .ok (.iaload, 1) := by decide +kernel
theorem dX11_finds_136 : decode cX11_finds 136 = .ok (.iconst 1, 1) := by decide +kernel
theorem dX11_finds_137 : decode cX11_finds 137 = .ok (.if_icmp .ne 18, 3) := by decide +kernel
theorem dX11_finds_140 : decode cX11_finds 140 = .ok (.aload_n 0, 1) := by decide +kernel
theorem dX11_finds_141 : decode cX11_finds 141 = .ok (.iload 8, 2) := by decide +kernel
theorem dX11_finds_143 : decode cX11_finds 143 = .ok (.iload 5, 2) := by decide +kernel
theorem dX11_finds_145 : decode cX11_finds 145 = .ok (.invokevirtual 357, 3) := by decide +kernel
theorem dX11_finds_148 : decode cX11_finds 148 = .ok (.ifCond .eq 7, 3) := by decide +kernel
theorem dX11_finds_151 : decode cX11_finds 151 = .ok (.iconst 1, 1) := by decide +kernel
theorem dX11_finds_152 : decode cX11_finds 152 = .ok (.goto 4, 3) := by decide +kernel
theorem dX11_finds_155 : decode cX11_finds 155 = .ok (.iconst 0, 1) := by decide +kernel
theorem dX11_finds_156 : decode cX11_finds 156 = .ok (.istore 6, 2) := by decide +kernel
theorem dX11_finds_158 : decode cX11_finds 158 = .ok (.iload 7, 2) := by decide +kernel
theorem dX11_finds_160 : decode cX11_finds 160 = .ok (.ifCond .ne 24, 3) := by decide +kernel
theorem dX11_finds_163 : decode cX11_finds 163 = .ok (.aload_n 0, 1) := by decide +kernel
theorem dX11_finds_164 : decode cX11_finds 164 = .ok (.getfield 124, 3) := by decide +kernel
theorem dX11_finds_167 : decode cX11_finds 167 = .ok (.iload 8, 2) := by decide +kernel
theorem dX11_finds_169 : decode cX11_finds 169 = .ok (.iaload, 1) := by decide +kernel
theorem dX11_finds_170 : decode cX11_finds 170 = .ok (.ifCond .ne 18, 3) := by decide +kernel
theorem dX11_finds_173 : decode cX11_finds 173 = .ok (.aload_n 0, 1) := by decide +kernel
theorem dX11_finds_174 : decode cX11_finds 174 = .ok (.iload 8, 2) := by decide +kernel
theorem dX11_finds_176 : decode cX11_finds 176 = .ok (.iload 5, 2) := by decide +kernel
theorem dX11_finds_178 : decode cX11_finds 178 = .ok (.invokevirtual 357, 3) := by decide +kernel
theorem dX11_finds_181 : decode cX11_finds 181 = .ok (.ifCond .eq 7, 3) := by decide +kernel
theorem dX11_finds_184 : decode cX11_finds 184 = .ok (.iconst 1, 1) := by decide +kernel
theorem dX11_finds_185 : decode cX11_finds 185 = .ok (.goto 4, 3) := by decide +kernel
theorem dX11_finds_188 : decode cX11_finds 188 = .ok (.iconst 0, 1) := by decide +kernel
theorem dX11_finds_189 : decode cX11_finds 189 = .ok (.istore 7, 2) := by decide +kernel
theorem dX11_finds_191 : decode cX11_finds 191 = .ok (.iinc 8 1, 3) := by decide +kernel
theorem dX11_finds_194 : decode cX11_finds 194 = .ok (.goto (-79), 3) := by decide +kernel
theorem dX11_finds_197 : decode cX11_finds 197 = .ok (.iload 6, 2) := by decide +kernel
theorem dX11_finds_199 : decode cX11_finds 199 = .ok (.ifCond .eq 43, 3) := by decide +kernel
theorem dX11_finds_202 : decode cX11_finds 202 = .ok (.iload 7, 2) := by decide +kernel
theorem dX11_finds_204 : decode cX11_finds 204 = .ok (.ifCond .eq 6, 3) := by decide +kernel
theorem dX11_finds_207 : decode cX11_finds 207 = .ok (.goto 35, 3) := by decide +kernel
theorem dX11_finds_210 : decode cX11_finds 210 = .ok (.aload_n 0, 1) := by decide +kernel
theorem dX11_finds_211 : decode cX11_finds 211 = .ok (.getfield 348, 3) := by decide +kernel
theorem dX11_finds_214 : decode cX11_finds 214 = .ok (.bipush 12, 2) := by decide +kernel
theorem dX11_finds_216 : decode cX11_finds 216 = .ok (.if_icmp .ne 5, 3) := by decide +kernel
theorem dX11_finds_219 : decode cX11_finds 219 = .ok (.iconst 0, 1) := by decide +kernel
theorem dX11_finds_220 : decode cX11_finds 220 = .ok (.ireturn, 1) := by decide +kernel
theorem dX11_finds_221 : decode cX11_finds 221 = .ok (.aload_n 0, 1) := by decide +kernel
theorem dX11_finds_222 : decode cX11_finds 222 = .ok (.getfield 127, 3) := by decide +kernel
theorem dX11_finds_225 : decode cX11_finds 225 = .ok (.aload_n 0, 1) := by decide +kernel
theorem dX11_finds_226 : decode cX11_finds 226 = .ok (.getfield 348, 3) := by decide +kernel
theorem dX11_finds_229 : decode cX11_finds 229 = .ok (.iload 5, 2) := by decide +kernel
theorem dX11_finds_231 : decode cX11_finds 231 = .ok (.iastore, 1) := by decide +kernel
theorem dX11_finds_232 : decode cX11_finds 232 = .ok (.aload_n 0, 1) := by decide +kernel
theorem dX11_finds_233 : decode cX11_finds 233 = .ok (.dup, 1) := by decide +kernel
theorem dX11_finds_234 : decode cX11_finds 234 = .ok (.getfield 348, 3) := by decide +kernel
theorem dX11_finds_237 : decode cX11_finds 237 = .ok (.iconst 1, 1) := by decide +kernel
theorem dX11_finds_238 : decode cX11_finds 238 = .ok (.iadd, 1) := by decide +kernel
theorem dX11_finds_239 : decode cX11_finds 239 = .ok (.putfield 348, 3) := by decide +kernel
theorem dX11_finds_242 : decode cX11_finds 242 = .ok (.iinc 4 1, 3) := by decide +kernel
theorem dX11_finds_245 : decode cX11_finds 245 = .ok (.goto (-168), 3) := by decide +kernel
theorem dX11_finds_248 : decode cX11_finds 248 = .ok (.iinc 3 1, 3) := by decide +kernel
theorem dX11_finds_251 : decode cX11_finds 251 = .ok (.goto (-192), 3) := by decide +kernel
theorem dX11_finds_254 : decode cX11_finds 254 = .ok (.iconst 0, 1) := by decide +kernel
theorem dX11_finds_255 : decode cX11_finds 255 = .ok (.istore_n 3, 1) := by decide +kernel
theorem dX11_finds_256 : decode cX11_finds 256 = .ok (.iload_n 3, 1) := by decide +kernel
theorem dX11_finds_257 : decode cX11_finds 257 = .ok (.iconst 1, 1) := by decide +kernel
theorem dX11_finds_258 : decode cX11_finds 258 = .ok (.aload_n 0, 1) := by decide +kernel
theorem dX11_finds_259 : decode cX11_finds 259 = .ok (.getfield 348, 3) := by decide +kernel
theorem dX11_finds_262 : decode cX11_finds 262 = .ok (.ishl, 1) := by decide +kernel
theorem dX11_finds_263 : decode cX11_finds 263 = .ok (.if_icmp .ge 111, 3) := by decide +kernel
theorem dX11_finds_266 : decode cX11_finds 266 = .ok (.aload_n 0, 1) := by decide +kernel
theorem dX11_finds_267 : decode cX11_finds 267 = .ok (.getfield 351, 3) := by decide +kernel
theorem dX11_finds_270 : decode cX11_finds 270 = .ok (.iconst (-1), 1) := by decide +kernel
theorem dX11_finds_271 : decode cX11_finds 271 = .ok (.if_icmp .eq 17, 3) := by decide +kernel
theorem dX11_finds_274 : decode cX11_finds 274 = .ok (.iload_n 3, 1) := by decide +kernel
theorem dX11_finds_275 : decode cX11_finds 275 = .ok (.invokestatic 360, 3) := by decide +kernel
theorem dX11_finds_278 : decode cX11_finds 278 = .ok (.aload_n 0, 1) := by decide +kernel
theorem dX11_finds_279 : decode cX11_finds 279 = .ok (.getfield 351, 3) := by decide +kernel
theorem dX11_finds_282 : decode cX11_finds 282 = .ok (.invokestatic 360, 3) := by decide +kernel
theorem dX11_finds_285 : decode cX11_finds 285 = .ok (.if_icmp .gt 83, 3) := by decide +kernel
theorem dX11_finds_288 : decode cX11_finds 288 = .ok (.aload_n 0, 1) := by decide +kernel
theorem dX11_finds_289 : decode cX11_finds 289 = .ok (.iload_n 3, 1) := by decide +kernel
theorem dX11_finds_290 : decode cX11_finds 290 = .ok (.invokevirtual 363, 3) := by decide +kernel
theorem dX11_finds_293 : decode cX11_finds 293 = .ok (.ifCond .ne 6, 3) := by decide +kernel
theorem dX11_finds_296 : decode cX11_finds 296 = .ok (.goto 72, 3) := by decide +kernel
theorem dX11_finds_299 : decode cX11_finds 299 = .ok (.aload_n 0, 1) := by decide +kernel
theorem dX11_finds_300 : decode cX11_finds 300 = .ok (.getfield 351, 3) := by decide +kernel
theorem dX11_finds_303 : decode cX11_finds 303 = .ok (.iconst (-1), 1) := by decide +kernel
theorem dX11_finds_304 : decode cX11_finds 304 = .ok (.if_icmp .eq 17, 3) := by decide +kernel
theorem dX11_finds_307 : decode cX11_finds 307 = .ok (.iload_n 3, 1) := by decide +kernel
theorem dX11_finds_308 : decode cX11_finds 308 = .ok (.invokestatic 360, 3) := by decide +kernel
theorem dX11_finds_311 : decode cX11_finds 311 = .ok (.aload_n 0, 1) := by decide +kernel
theorem dX11_finds_312 : decode cX11_finds 312 = .ok (.getfield 351, 3) := by decide +kernel
theorem dX11_finds_315 : decode cX11_finds 315 = .ok (.invokestatic 360, 3) := by decide +kernel
theorem dX11_finds_318 : decode cX11_finds 318 = .ok (.if_icmp .ge 16, 3) := by decide +kernel
theorem dX11_finds_321 : decode cX11_finds 321 = .ok (.aload_n 0, 1) := by decide +kernel
theorem dX11_finds_322 : decode cX11_finds 322 = .ok (.iload_n 3, 1) := by decide +kernel
theorem dX11_finds_323 : decode cX11_finds 323 = .ok (.putfield 351, 3) := by decide +kernel
theorem dX11_finds_326 : decode cX11_finds 326 = .ok (.aload_n 0, 1) := by decide +kernel
theorem dX11_finds_327 : decode cX11_finds 327 = .ok (.iconst 0, 1) := by decide +kernel
theorem dX11_finds_328 : decode cX11_finds 328 = .ok (.putfield 354, 3) := by decide +kernel
theorem dX11_finds_331 : decode cX11_finds 331 = .ok (.goto 37, 3) := by decide +kernel
theorem dX11_finds_334 : decode cX11_finds 334 = .ok (.aload_n 0, 1) := by decide +kernel
theorem dX11_finds_335 : decode cX11_finds 335 = .ok (.dup, 1) := by decide +kernel
theorem dX11_finds_336 : decode cX11_finds 336 = .ok (.getfield 354, 3) := by decide +kernel
theorem dX11_finds_339 : decode cX11_finds 339 = .ok (.iconst 1, 1) := by decide +kernel
theorem dX11_finds_340 : decode cX11_finds 340 = .ok (.iadd, 1) := by decide +kernel
theorem dX11_finds_341 : decode cX11_finds 341 = .ok (.putfield 354, 3) := by decide +kernel
theorem dX11_finds_344 : decode cX11_finds 344 = .ok (.iload_n 3, 1) := by decide +kernel
theorem dX11_finds_345 : decode cX11_finds 345 = .ok (.aload_n 0, 1) := by decide +kernel
theorem dX11_finds_346 : decode cX11_finds 346 = .ok (.getfield 351, 3) := by decide +kernel
theorem dX11_finds_349 : decode cX11_finds 349 = .ok (.ixor, 1) := by decide +kernel
theorem dX11_finds_350 : decode cX11_finds 350 = .ok (.istore 4, 2) := by decide +kernel
theorem dX11_finds_352 : decode cX11_finds 352 = .ok (.iload_n 3, 1) := by decide +kernel
theorem dX11_finds_353 : decode cX11_finds 353 = .ok (.iload 4, 2) := by decide +kernel
theorem dX11_finds_355 : decode cX11_finds 355 = .ok (.iand, 1) := by decide +kernel
theorem dX11_finds_356 : decode cX11_finds 356 = .ok (.iload 4, 2) := by decide +kernel
theorem dX11_finds_358 : decode cX11_finds 358 = .ok (.ineg, 1) := by decide +kernel
theorem dX11_finds_359 : decode cX11_finds 359 = .ok (.iand, 1) := by decide +kernel
theorem dX11_finds_360 : decode cX11_finds 360 = .ok (.ifCond .eq 8, 3) := by decide +kernel
theorem dX11_finds_363 : decode cX11_finds 363 = .ok (.aload_n 0, 1) := by decide +kernel
theorem dX11_finds_364 : decode cX11_finds 364 = .ok (.iload_n 3, 1) := by decide +kernel
theorem dX11_finds_365 : decode cX11_finds 365 = .ok (.putfield 351, 3) := by decide +kernel
theorem dX11_finds_368 : decode cX11_finds 368 = .ok (.iinc 3 1, 3) := by decide +kernel
theorem dX11_finds_371 : decode cX11_finds 371 = .ok (.goto (-115), 3) := by decide +kernel
theorem dX11_finds_374 : decode cX11_finds 374 = .ok (.aload_n 0, 1) := by decide +kernel
theorem dX11_finds_375 : decode cX11_finds 375 = .ok (.getfield 351, 3) := by decide +kernel
theorem dX11_finds_378 : decode cX11_finds 378 = .ok (.iconst (-1), 1) := by decide +kernel
theorem dX11_finds_379 : decode cX11_finds 379 = .ok (.if_icmp .eq 7, 3) := by decide +kernel
theorem dX11_finds_382 : decode cX11_finds 382 = .ok (.iconst 1, 1) := by decide +kernel
theorem dX11_finds_383 : decode cX11_finds 383 = .ok (.goto 4, 3) := by decide +kernel
theorem dX11_finds_386 : decode cX11_finds 386 = .ok (.iconst 0, 1) := by decide +kernel
theorem dX11_finds_387 : decode cX11_finds 387 = .ok (.ireturn, 1) := by decide +kernel
theorem dX11_explains_0 : decode cX11_explains 0 = .ok (.iconst 0, 1) := by decide +kernel
theorem dX11_explains_1 : decode cX11_explains 1 = .ok (.istore_n 2, 1) := by decide +kernel
theorem dX11_explains_2 : decode cX11_explains 2 = .ok (.iload_n 2, 1) := by decide +kernel
theorem dX11_explains_3 : decode cX11_explains 3 = .ok (.aload_n 0, 1) := by decide +kernel
theorem dX11_explains_4 : decode cX11_explains 4 = .ok (.getfield 334, 3) := by decide +kernel
theorem dX11_explains_7 : decode cX11_explains 7 = .ok (.if_icmp .ge 84, 3) := by decide +kernel
theorem dX11_explains_10 : decode cX11_explains 10 = .ok (.aload_n 0, 1) := by decide +kernel
theorem dX11_explains_11 : decode cX11_explains 11 = .ok (.getfield 124, 3) := by decide +kernel
theorem dX11_explains_14 : decode cX11_explains 14 = .ok (.iload_n 2, 1) := by decide +kernel
theorem dX11_explains_15 : decode cX11_explains 15 = .ok (.iaload, 1) := by decide +kernel
theorem dX11_explains_16 : decode cX11_explains 16 = .ok (.iconst 1, 1) := by decide +kernel
theorem dX11_explains_17 : decode cX11_explains 17 = .ok (.if_icmp .eq 7, 3) := by decide +kernel
theorem dX11_explains_20 : decode cX11_explains 20 = .ok (.iconst 1, 1) := by decide +kernel
theorem dX11_explains_21 : decode cX11_explains 21 = .ok (.goto 4, 3) := by decide +kernel
theorem dX11_explains_24 : decode cX11_explains 24 = .ok (.iconst 0, 1) := by decide +kernel
theorem dX11_explains_25 : decode cX11_explains 25 = .ok (.istore_n 3, 1) := by decide +kernel
theorem dX11_explains_26 : decode cX11_explains 26 = .ok (.iconst 0, 1) := by decide +kernel
theorem dX11_explains_27 : decode cX11_explains 27 = .ok (.istore 4, 2) := by decide +kernel
theorem dX11_explains_29 : decode cX11_explains 29 = .ok (.iload 4, 2) := by decide +kernel
theorem dX11_explains_31 : decode cX11_explains 31 = .ok (.aload_n 0, 1) := by decide +kernel
theorem dX11_explains_32 : decode cX11_explains 32 = .ok (.getfield 348, 3) := by decide +kernel
theorem dX11_explains_35 : decode cX11_explains 35 = .ok (.if_icmp .ge 44, 3) := by decide +kernel
theorem dX11_explains_38 : decode cX11_explains 38 = .ok (.iload_n 3, 1) := by decide +kernel
theorem dX11_explains_39 : decode cX11_explains 39 = .ok (.ifCond .ne 40, 3) := by decide +kernel
theorem dX11_explains_42 : decode cX11_explains 42 = .ok (.iload_n 1, 1) := by decide +kernel
theorem dX11_explains_43 : decode cX11_explains 43 = .ok (.iload 4, 2) := by decide +kernel
theorem dX11_explains_45 : decode cX11_explains 45 = .ok (.ishr, 1) := by decide +kernel
theorem dX11_explains_46 : decode cX11_explains 46 = .ok (.iconst 1, 1) := by decide +kernel
theorem dX11_explains_47 : decode cX11_explains 47 = .ok (.iand, 1) := by decide +kernel
theorem dX11_explains_48 : decode cX11_explains 48 = .ok (.iconst 1, 1) := by decide +kernel
theorem dX11_explains_49 : decode cX11_explains 49 = .ok (.if_icmp .ne 22, 3) := by decide +kernel
theorem dX11_explains_52 : decode cX11_explains 52 = .ok (.aload_n 0, 1) := by decide +kernel
theorem dX11_explains_53 : decode cX11_explains 53 = .ok (.iload_n 2, 1) := by decide +kernel
theorem dX11_explains_54 : decode cX11_explains 54 = .ok (.aload_n 0, 1) := by decide +kernel
theorem dX11_explains_55 : decode cX11_explains 55 = .ok (.getfield 127, 3) := by decide +kernel
theorem dX11_explains_58 : decode cX11_explains 58 = .ok (.iload 4, 2) := by decide +kernel
theorem dX11_explains_60 : decode cX11_explains 60 = .ok (.iaload, 1) := by decide +kernel
theorem dX11_explains_61 : decode cX11_explains 61 = .ok (.invokevirtual 357, 3) := by decide +kernel
theorem dX11_explains_64 : decode cX11_explains 64 = .ok (.ifCond .eq 7, 3) := by decide +kernel
theorem dX11_explains_67 : decode cX11_explains 67 = .ok (.iconst 1, 1) := by decide +kernel
theorem dX11_explains_68 : decode cX11_explains 68 = .ok (.goto 4, 3) := by decide +kernel
theorem dX11_explains_71 : decode cX11_explains 71 = .ok (.iconst 0, 1) := by decide +kernel
theorem dX11_explains_72 : decode cX11_explains 72 = .ok (.istore_n 3, 1) := by decide +kernel
theorem dX11_explains_73 : decode cX11_explains 73 = .ok (.iinc 4 1, 3) := by decide +kernel
theorem dX11_explains_76 : decode cX11_explains 76 = .ok (.goto (-47), 3) := by decide +kernel
theorem dX11_explains_79 : decode cX11_explains 79 = .ok (.iload_n 3, 1) := by decide +kernel
theorem dX11_explains_80 : decode cX11_explains 80 = .ok (.ifCond .ne 5, 3) := by decide +kernel
theorem dX11_explains_83 : decode cX11_explains 83 = .ok (.iconst 0, 1) := by decide +kernel
theorem dX11_explains_84 : decode cX11_explains 84 = .ok (.ireturn, 1) := by decide +kernel
theorem dX11_explains_85 : decode cX11_explains 85 = .ok (.iinc 2 1, 3) := by decide +kernel
theorem dX11_explains_88 : decode cX11_explains 88 = .ok (.goto (-86), 3) := by decide +kernel
theorem dX11_explains_91 : decode cX11_explains 91 = .ok (.iconst 1, 1) := by decide +kernel
theorem dX11_explains_92 : decode cX11_explains 92 = .ok (.ireturn, 1) := by decide +kernel
theorem dX11_suspects_0 : decode cX11_suspects 0 = .ok (.aload_n 0, 1) := by decide +kernel
theorem dX11_suspects_1 : decode cX11_suspects 1 = .ok (.iload_n 1, 1) := by decide +kernel
theorem dX11_suspects_2 : decode cX11_suspects 2 = .ok (.invokevirtual 221, 3) := by decide +kernel
theorem dX11_suspects_5 : decode cX11_suspects 5 = .ok (.ifCond .eq 28, 3) := by decide +kernel
theorem dX11_suspects_8 : decode cX11_suspects 8 = .ok (.iload_n 2, 1) := by decide +kernel
theorem dX11_suspects_9 : decode cX11_suspects 9 = .ok (.i2l, 1) := by decide +kernel
theorem dX11_suspects_10 : decode cX11_suspects 10 = .ok (.lconst 0, 1) := by decide +kernel
theorem dX11_suspects_11 : decode cX11_suspects 11 = .ok (.ldc2_w 343, 3) := by decide +kernel
theorem dX11_suspects_14 : decode cX11_suspects 14 = .ok (.invokestatic 139, 3) := by decide +kernel
theorem dX11_suspects_17 : decode cX11_suspects 17 = .ok (.ifCond .eq 16, 3) := by decide +kernel
theorem dX11_suspects_20 : decode cX11_suspects 20 = .ok (.iload_n 3, 1) := by decide +kernel
theorem dX11_suspects_21 : decode cX11_suspects 21 = .ok (.ifCond .lt 12, 3) := by decide +kernel
theorem dX11_suspects_24 : decode cX11_suspects 24 = .ok (.aload_n 0, 1) := by decide +kernel
theorem dX11_suspects_25 : decode cX11_suspects 25 = .ok (.iload_n 1, 1) := by decide +kernel
theorem dX11_suspects_26 : decode cX11_suspects 26 = .ok (.iload_n 2, 1) := by decide +kernel
theorem dX11_suspects_27 : decode cX11_suspects 27 = .ok (.invokevirtual 366, 3) := by decide +kernel
theorem dX11_suspects_30 : decode cX11_suspects 30 = .ok (.ifCond .ne 5, 3) := by decide +kernel
theorem dX11_suspects_33 : decode cX11_suspects 33 = .ok (.iconst (-1), 1) := by decide +kernel
theorem dX11_suspects_34 : decode cX11_suspects 34 = .ok (.ireturn, 1) := by decide +kernel
theorem dX11_suspects_35 : decode cX11_suspects 35 = .ok (.iload_n 3, 1) := by decide +kernel
theorem dX11_suspects_36 : decode cX11_suspects 36 = .ok (.iconst 2, 1) := by decide +kernel
theorem dX11_suspects_37 : decode cX11_suspects 37 = .ok (.if_icmp .ge 22, 3) := by decide +kernel
theorem dX11_suspects_40 : decode cX11_suspects 40 = .ok (.iload_n 3, 1) := by decide +kernel
theorem dX11_suspects_41 : decode cX11_suspects 41 = .ok (.ifCond .ne 13, 3) := by decide +kernel
theorem dX11_suspects_44 : decode cX11_suspects 44 = .ok (.aload_n 0, 1) := by decide +kernel
theorem dX11_suspects_45 : decode cX11_suspects 45 = .ok (.getfield 351, 3) := by decide +kernel
theorem dX11_suspects_48 : decode cX11_suspects 48 = .ok (.invokestatic 360, 3) := by decide +kernel
theorem dX11_suspects_51 : decode cX11_suspects 51 = .ok (.goto 7, 3) := by decide +kernel
theorem dX11_suspects_54 : decode cX11_suspects 54 = .ok (.aload_n 0, 1) := by decide +kernel
theorem dX11_suspects_55 : decode cX11_suspects 55 = .ok (.getfield 354, 3) := by decide +kernel
theorem dX11_suspects_58 : decode cX11_suspects 58 = .ok (.ireturn, 1) := by decide +kernel
theorem dX11_suspects_59 : decode cX11_suspects 59 = .ok (.iload_n 3, 1) := by decide +kernel
theorem dX11_suspects_60 : decode cX11_suspects 60 = .ok (.iconst 2, 1) := by decide +kernel
theorem dX11_suspects_61 : decode cX11_suspects 61 = .ok (.isub, 1) := by decide +kernel
theorem dX11_suspects_62 : decode cX11_suspects 62 = .ok (.istore 4, 2) := by decide +kernel
theorem dX11_suspects_64 : decode cX11_suspects 64 = .ok (.iconst 0, 1) := by decide +kernel
theorem dX11_suspects_65 : decode cX11_suspects 65 = .ok (.istore 5, 2) := by decide +kernel
theorem dX11_suspects_67 : decode cX11_suspects 67 = .ok (.iload 5, 2) := by decide +kernel
theorem dX11_suspects_69 : decode cX11_suspects 69 = .ok (.aload_n 0, 1) := by decide +kernel
theorem dX11_suspects_70 : decode cX11_suspects 70 = .ok (.getfield 348, 3) := by decide +kernel
theorem dX11_suspects_73 : decode cX11_suspects 73 = .ok (.if_icmp .ge 40, 3) := by decide +kernel
theorem dX11_suspects_76 : decode cX11_suspects 76 = .ok (.aload_n 0, 1) := by decide +kernel
theorem dX11_suspects_77 : decode cX11_suspects 77 = .ok (.getfield 351, 3) := by decide +kernel
theorem dX11_suspects_80 : decode cX11_suspects 80 = .ok (.iload 5, 2) := by decide +kernel
theorem dX11_suspects_82 : decode cX11_suspects 82 = .ok (.ishr, 1) := by decide +kernel
theorem dX11_suspects_83 : decode cX11_suspects 83 = .ok (.iconst 1, 1) := by decide +kernel
theorem dX11_suspects_84 : decode cX11_suspects 84 = .ok (.iand, 1) := by decide +kernel
theorem dX11_suspects_85 : decode cX11_suspects 85 = .ok (.ifCond .ne 6, 3) := by decide +kernel
theorem dX11_suspects_88 : decode cX11_suspects 88 = .ok (.goto 19, 3) := by decide +kernel
theorem dX11_suspects_91 : decode cX11_suspects 91 = .ok (.iload 4, 2) := by decide +kernel
theorem dX11_suspects_93 : decode cX11_suspects 93 = .ok (.ifCond .ne 11, 3) := by decide +kernel
theorem dX11_suspects_96 : decode cX11_suspects 96 = .ok (.aload_n 0, 1) := by decide +kernel
theorem dX11_suspects_97 : decode cX11_suspects 97 = .ok (.getfield 127, 3) := by decide +kernel
theorem dX11_suspects_100 : decode cX11_suspects 100 = .ok (.iload 5, 2) := by decide +kernel
theorem dX11_suspects_102 : decode cX11_suspects 102 = .ok (.iaload, 1) := by decide +kernel
theorem dX11_suspects_103 : decode cX11_suspects 103 = .ok (.ireturn, 1) := by decide +kernel
theorem dX11_suspects_104 : decode cX11_suspects 104 = .ok (.iinc 4 (-1), 3) := by decide +kernel
theorem dX11_suspects_107 : decode cX11_suspects 107 = .ok (.iinc 5 1, 3) := by decide +kernel
theorem dX11_suspects_110 : decode cX11_suspects 110 = .ok (.goto (-43), 3) := by decide +kernel
theorem dX11_suspects_113 : decode cX11_suspects 113 = .ok (.iconst (-1), 1) := by decide +kernel
theorem dX11_suspects_114 : decode cX11_suspects 114 = .ok (.ireturn, 1) := by decide +kernel
theorem dX11_count_0 : decode cX11_count 0 = .ok (.iload_n 1, 1) := by decide +kernel
theorem dX11_count_1 : decode cX11_count 1 = .ok (.tableswitch 87 0 7 #[47, 52, 57, 62, 67, 72, 77, 82], 47) := by decide +kernel
theorem dX11_count_48 : decode cX11_count 48 = .ok (.aload_n 0, 1) := by decide +kernel
theorem dX11_count_49 : decode cX11_count 49 = .ok (.getfield 268, 3) := by decide +kernel
theorem dX11_count_52 : decode cX11_count 52 = .ok (.ireturn, 1) := by decide +kernel
theorem dX11_count_53 : decode cX11_count 53 = .ok (.aload_n 0, 1) := by decide +kernel
theorem dX11_count_54 : decode cX11_count 54 = .ok (.getfield 186, 3) := by decide +kernel
theorem dX11_count_57 : decode cX11_count 57 = .ok (.ireturn, 1) := by decide +kernel
theorem dX11_count_58 : decode cX11_count 58 = .ok (.aload_n 0, 1) := by decide +kernel
theorem dX11_count_59 : decode cX11_count 59 = .ok (.getfield 211, 3) := by decide +kernel
theorem dX11_count_62 : decode cX11_count 62 = .ok (.ireturn, 1) := by decide +kernel
theorem dX11_count_63 : decode cX11_count 63 = .ok (.aload_n 0, 1) := by decide +kernel
theorem dX11_count_64 : decode cX11_count 64 = .ok (.getfield 249, 3) := by decide +kernel
theorem dX11_count_67 : decode cX11_count 67 = .ok (.ireturn, 1) := by decide +kernel
theorem dX11_count_68 : decode cX11_count 68 = .ok (.aload_n 0, 1) := by decide +kernel
theorem dX11_count_69 : decode cX11_count 69 = .ok (.getfield 334, 3) := by decide +kernel
theorem dX11_count_72 : decode cX11_count 72 = .ok (.ireturn, 1) := by decide +kernel
theorem dX11_count_73 : decode cX11_count 73 = .ok (.aload_n 0, 1) := by decide +kernel
theorem dX11_count_74 : decode cX11_count 74 = .ok (.getfield 321, 3) := by decide +kernel
theorem dX11_count_77 : decode cX11_count 77 = .ok (.ireturn, 1) := by decide +kernel
theorem dX11_count_78 : decode cX11_count 78 = .ok (.aload_n 0, 1) := by decide +kernel
theorem dX11_count_79 : decode cX11_count 79 = .ok (.getfield 136, 3) := by decide +kernel
theorem dX11_count_82 : decode cX11_count 82 = .ok (.ireturn, 1) := by decide +kernel
theorem dX11_count_83 : decode cX11_count 83 = .ok (.aload_n 0, 1) := by decide +kernel
theorem dX11_count_84 : decode cX11_count 84 = .ok (.getfield 65, 3) := by decide +kernel
theorem dX11_count_87 : decode cX11_count 87 = .ok (.ireturn, 1) := by decide +kernel
theorem dX11_count_88 : decode cX11_count 88 = .ok (.iconst (-1), 1) := by decide +kernel
theorem dX11_count_89 : decode cX11_count 89 = .ok (.ireturn, 1) := by decide +kernel
