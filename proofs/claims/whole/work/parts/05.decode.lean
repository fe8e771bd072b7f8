theorem dX11_decode_260 : decode cX11_decode 260 = .ok (.istore 6, 2) := by decide +kernel
theorem dX11_decode_262 : decode cX11_decode 262 = .ok (.iconst 0, 1) := by decide +kernel
theorem dX11_decode_263 : decode cX11_decode 263 = .ok (.istore 7, 2) := by decide +kernel
theorem dX11_decode_265 : decode cX11_decode 265 = .ok (.iload 7, 2) := by decide +kernel
theorem dX11_decode_267 : decode cX11_decode 267 = .ok (.iload 6, 2) := by decide +kernel
theorem dX11_decode_269 : decode cX11_decode 269 = .ok (.if_icmp .ge 30, 3) := by decide +kernel
theorem dX11_decode_272 : decode cX11_decode 272 = .ok (.aload_n 0, 1) := by decide +kernel
theorem dX11_decode_273 : decode cX11_decode 273 = .ok (.getfield 30, 3) := by decide +kernel
theorem dX11_decode_276 : decode cX11_decode 276 = .ok (.aload_n 0, 1) := by decide +kernel
theorem dX11_decode_277 : decode cX11_decode 277 = .ok (.getfield 219, 3) := by decide +kernel
theorem dX11_decode_280 : decode cX11_decode 280 = .ok (.lload 4, 2) := by decide +kernel
theorem dX11_decode_282 : decode cX11_decode 282 = .ok (.lastore, 1) := by decide +kernel
theorem dX11_decode_283 : decode cX11_decode 283 = .ok (.aload_n 0, 1) := by decide +kernel
theorem dX11_decode_284 : decode cX11_decode 284 = .ok (.dup, 1) := by decide +kernel
theorem dX11_decode_285 : decode cX11_decode 285 = .ok (.getfield 219, 3) := by decide +kernel
theorem dX11_decode_288 : decode cX11_decode 288 = .ok (.iconst 1, 1) := by decide +kernel
theorem dX11_decode_289 : decode cX11_decode 289 = .ok (.iadd, 1) := by decide +kernel
theorem dX11_decode_290 : decode cX11_decode 290 = .ok (.putfield 219, 3) := by decide +kernel
theorem dX11_decode_293 : decode cX11_decode 293 = .ok (.iinc 7 1, 3) := by decide +kernel
theorem dX11_decode_296 : decode cX11_decode 296 = .ok (.goto (-31), 3) := by decide +kernel
theorem dX11_decode_299 : decode cX11_decode 299 = .ok (.goto (-108), 3) := by decide +kernel
theorem dX11_decode_302 : decode cX11_decode 302 = .ok (.iload_n 2, 1) := by decide +kernel
theorem dX11_decode_303 : decode cX11_decode 303 = .ok (.iconst 2, 1) := by decide +kernel
theorem dX11_decode_304 : decode cX11_decode 304 = .ok (.if_icmp .ne 7, 3) := by decide +kernel
theorem dX11_decode_307 : decode cX11_decode 307 = .ok (.aload_n 0, 1) := by decide +kernel
theorem dX11_decode_308 : decode cX11_decode 308 = .ok (.invokevirtual 232, 3) := by decide +kernel
theorem dX11_decode_311 : decode cX11_decode 311 = .ok (.iload_n 2, 1) := by decide +kernel
theorem dX11_decode_312 : decode cX11_decode 312 = .ok (.ifCond .le 12, 3) := by decide +kernel
theorem dX11_decode_315 : decode cX11_decode 315 = .ok (.iload_n 2, 1) := by decide +kernel
theorem dX11_decode_316 : decode cX11_decode 316 = .ok (.iconst 3, 1) := by decide +kernel
theorem dX11_decode_317 : decode cX11_decode 317 = .ok (.if_icmp .eq 7, 3) := by decide +kernel
theorem dX11_decode_320 : decode cX11_decode 320 = .ok (.aload_n 0, 1) := by decide +kernel
theorem dX11_decode_321 : decode cX11_decode 321 = .ok (.invokevirtual 232, 3) := by decide +kernel
theorem dX11_decode_324 : decode cX11_decode 324 = .ok (.iconst 1, 1) := by decide +kernel
theorem dX11_decode_325 : decode cX11_decode 325 = .ok (.ireturn, 1) := by decide +kernel
theorem dX11_piece_0 : decode cX11_piece 0 = .ok (.aload_n 0, 1) := by decide +kernel
theorem dX11_piece_1 : decode cX11_piece 1 = .ok (.getfield 39, 3) := by decide +kernel
theorem dX11_piece_4 : decode cX11_piece 4 = .ok (.iload_n 1, 1) := by decide +kernel
theorem dX11_piece_5 : decode cX11_piece 5 = .ok (.iaload, 1) := by decide +kernel
theorem dX11_piece_6 : decode cX11_piece 6 = .ok (.iload_n 2, 1) := by decide +kernel
theorem dX11_piece_7 : decode cX11_piece 7 = .ok (.isub, 1) := by decide +kernel
theorem dX11_piece_8 : decode cX11_piece 8 = .ok (.istore_n 3, 1) := by decide +kernel
theorem dX11_piece_9 : decode cX11_piece 9 = .ok (.sipush 400, 3) := by decide +kernel
theorem dX11_piece_12 : decode cX11_piece 12 = .ok (.iload_n 1, 1) := by decide +kernel
theorem dX11_piece_13 : decode cX11_piece 13 = .ok (.imul, 1) := by decide +kernel
theorem dX11_piece_14 : decode cX11_piece 14 = .ok (.iload_n 2, 1) := by decide +kernel
theorem dX11_piece_15 : decode cX11_piece 15 = .ok (.iadd, 1) := by decide +kernel
theorem dX11_piece_16 : decode cX11_piece 16 = .ok (.istore 4, 2) := by decide +kernel
theorem dX11_piece_18 : decode cX11_piece 18 = .ok (.iload_n 3, 1) := by decide +kernel
theorem dX11_piece_19 : decode cX11_piece 19 = .ok (.ifCond .ne 6, 3) := by decide +kernel
theorem dX11_piece_22 : decode cX11_piece 22 = .ok (.bipush 6, 2) := by decide +kernel
theorem dX11_piece_24 : decode cX11_piece 24 = .ok (.ireturn, 1) := by decide +kernel
theorem dX11_piece_25 : decode cX11_piece 25 = .ok (.iload_n 3, 1) := by decide +kernel
theorem dX11_piece_26 : decode cX11_piece 26 = .ok (.bipush 7, 2) := by decide +kernel
theorem dX11_piece_28 : decode cX11_piece 28 = .ok (.if_icmp .lt 33, 3) := by decide +kernel
theorem dX11_piece_31 : decode cX11_piece 31 = .ok (.bipush 7, 2) := by decide +kernel
theorem dX11_piece_33 : decode cX11_piece 33 = .ok (.aload_n 0, 1) := by decide +kernel
theorem dX11_piece_34 : decode cX11_piece 34 = .ok (.getfield 36, 3) := by decide +kernel
theorem dX11_piece_37 : decode cX11_piece 37 = .ok (.iload 4, 2) := by decide +kernel
theorem dX11_piece_39 : decode cX11_piece 39 = .ok (.iconst 3, 1) := by decide +kernel
theorem dX11_piece_40 : decode cX11_piece 40 = .ok (.iadd, 1) := by decide +kernel
theorem dX11_piece_41 : decode cX11_piece 41 = .ok (.iaload, 1) := by decide +kernel
theorem dX11_piece_42 : decode cX11_piece 42 = .ok (.iadd, 1) := by decide +kernel
theorem dX11_piece_43 : decode cX11_piece 43 = .ok (.sipush 256, 3) := by decide +kernel
theorem dX11_piece_46 : decode cX11_piece 46 = .ok (.aload_n 0, 1) := by decide +kernel
theorem dX11_piece_47 : decode cX11_piece 47 = .ok (.getfield 36, 3) := by decide +kernel
theorem dX11_piece_50 : decode cX11_piece 50 = .ok (.iload 4, 2) := by decide +kernel
theorem dX11_piece_52 : decode cX11_piece 52 = .ok (.iconst 4, 1) := by decide +kernel
theorem dX11_piece_53 : decode cX11_piece 53 = .ok (.iadd, 1) := by decide +kernel
theorem dX11_piece_54 : decode cX11_piece 54 = .ok (.iaload, 1) := by decide +kernel
theorem dX11_piece_55 : decode cX11_piece 55 = .ok (.imul, 1) := by decide +kernel
theorem dX11_piece_56 : decode cX11_piece 56 = .ok (.iadd, 1) := by decide +kernel
theorem dX11_piece_57 : decode cX11_piece 57 = .ok (.iload_n 3, 1) := by decide +kernel
theorem dX11_piece_58 : decode cX11_piece 58 = .ok (.if_icmp .le 6, 3) := by decide +kernel
theorem dX11_piece_61 : decode cX11_piece 61 = .ok (.bipush 7, 2) := by decide +kernel
theorem dX11_piece_63 : decode cX11_piece 63 = .ok (.ireturn, 1) := by decide +kernel
theorem dX11_piece_64 : decode cX11_piece 64 = .ok (.aload_n 0, 1) := by decide +kernel
theorem dX11_piece_65 : decode cX11_piece 65 = .ok (.getfield 36, 3) := by decide +kernel
theorem dX11_piece_68 : decode cX11_piece 68 = .ok (.iload 4, 2) := by decide +kernel
theorem dX11_piece_70 : decode cX11_piece 70 = .ok (.iconst 3, 1) := by decide +kernel
theorem dX11_piece_71 : decode cX11_piece 71 = .ok (.iadd, 1) := by decide +kernel
theorem dX11_piece_72 : decode cX11_piece 72 = .ok (.iaload, 1) := by decide +kernel
theorem dX11_piece_73 : decode cX11_piece 73 = .ok (.sipush 256, 3) := by decide +kernel
theorem dX11_piece_76 : decode cX11_piece 76 = .ok (.aload_n 0, 1) := by decide +kernel
theorem dX11_piece_77 : decode cX11_piece 77 = .ok (.getfield 36, 3) := by decide +kernel
theorem dX11_piece_80 : decode cX11_piece 80 = .ok (.iload 4, 2) := by decide +kernel
theorem dX11_piece_82 : decode cX11_piece 82 = .ok (.iconst 4, 1) := by decide +kernel
theorem dX11_piece_83 : decode cX11_piece 83 = .ok (.iadd, 1) := by decide +kernel
theorem dX11_piece_84 : decode cX11_piece 84 = .ok (.iaload, 1) := by decide +kernel
theorem dX11_piece_85 : decode cX11_piece 85 = .ok (.imul, 1) := by decide +kernel
theorem dX11_piece_86 : decode cX11_piece 86 = .ok (.iadd, 1) := by decide +kernel
theorem dX11_piece_87 : decode cX11_piece 87 = .ok (.istore 5, 2) := by decide +kernel
theorem dX11_piece_89 : decode cX11_piece 89 = .ok (.aload_n 0, 1) := by decide +kernel
theorem dX11_piece_90 : decode cX11_piece 90 = .ok (.getfield 36, 3) := by decide +kernel
theorem dX11_piece_93 : decode cX11_piece 93 = .ok (.iload 4, 2) := by decide +kernel
theorem dX11_piece_95 : decode cX11_piece 95 = .ok (.iaload, 1) := by decide +kernel
theorem dX11_piece_96 : decode cX11_piece 96 = .ok (.sipush 160, 3) := by decide +kernel
theorem dX11_piece_99 : decode cX11_piece 99 = .ok (.isub, 1) := by decide +kernel
theorem dX11_piece_100 : decode cX11_piece 100 = .ok (.istore 6, 2) := by decide +kernel
theorem dX11_piece_102 : decode cX11_piece 102 = .ok (.aload_n 0, 1) := by decide +kernel
theorem dX11_piece_103 : decode cX11_piece 103 = .ok (.getfield 36, 3) := by decide +kernel
theorem dX11_piece_106 : decode cX11_piece 106 = .ok (.iload 4, 2) := by decide +kernel
theorem dX11_piece_108 : decode cX11_piece 108 = .ok (.iconst 1, 1) := by decide +kernel
theorem dX11_piece_109 : decode cX11_piece 109 = .ok (.iadd, 1) := by decide +kernel
theorem dX11_piece_110 : decode cX11_piece 110 = .ok (.iaload, 1) := by decide +kernel
theorem dX11_piece_111 : decode cX11_piece 111 = .ok (.istore 7, 2) := by decide +kernel
theorem dX11_piece_113 : decode cX11_piece 113 = .ok (.aload_n 0, 1) := by decide +kernel
theorem dX11_piece_114 : decode cX11_piece 114 = .ok (.getfield 36, 3) := by decide +kernel
theorem dX11_piece_117 : decode cX11_piece 117 = .ok (.iload 4, 2) := by decide +kernel
theorem dX11_piece_119 : decode cX11_piece 119 = .ok (.iconst 2, 1) := by decide +kernel
theorem dX11_piece_120 : decode cX11_piece 120 = .ok (.iadd, 1) := by decide +kernel
theorem dX11_piece_121 : decode cX11_piece 121 = .ok (.iaload, 1) := by decide +kernel
theorem dX11_piece_122 : decode cX11_piece 122 = .ok (.istore 8, 2) := by decide +kernel
theorem dX11_piece_124 : decode cX11_piece 124 = .ok (.iload 6, 2) := by decide +kernel
theorem dX11_piece_126 : decode cX11_piece 126 = .ok (.i2l, 1) := by decide +kernel
theorem dX11_piece_127 : decode cX11_piece 127 = .ok (.lconst 0, 1) := by decide +kernel
theorem dX11_piece_128 : decode cX11_piece 128 = .ok (.ldc2_w 250, 3) := by decide +kernel
theorem dX11_piece_131 : decode cX11_piece 131 = .ok (.invokestatic 140, 3) := by decide +kernel
theorem dX11_piece_134 : decode cX11_piece 134 = .ok (.ifCond .eq 17, 3) := by decide +kernel
theorem dX11_piece_137 : decode cX11_piece 137 = .ok (.iload 7, 2) := by decide +kernel
theorem dX11_piece_139 : decode cX11_piece 139 = .ok (.bipush 7, 2) := by decide +kernel
theorem dX11_piece_141 : decode cX11_piece 141 = .ok (.if_icmp .gt 10, 3) := by decide +kernel
theorem dX11_piece_144 : decode cX11_piece 144 = .ok (.iload 8, 2) := by decide +kernel
theorem dX11_piece_146 : decode cX11_piece 146 = .ok (.bipush 24, 2) := by decide +kernel
theorem dX11_piece_148 : decode cX11_piece 148 = .ok (.if_icmp .le 6, 3) := by decide +kernel
theorem dX11_piece_151 : decode cX11_piece 151 = .ok (.bipush 8, 2) := by decide +kernel
theorem dX11_piece_153 : decode cX11_piece 153 = .ok (.ireturn, 1) := by decide +kernel
theorem dX11_piece_154 : decode cX11_piece 154 = .ok (.aload_n 0, 1) := by decide +kernel
theorem dX11_piece_155 : decode cX11_piece 155 = .ok (.iload_n 2, 1) := by decide +kernel
theorem dX11_piece_156 : decode cX11_piece 156 = .ok (.iconst 5, 1) := by decide +kernel
theorem dX11_piece_157 : decode cX11_piece 157 = .ok (.iadd, 1) := by decide +kernel
theorem dX11_piece_158 : decode cX11_piece 158 = .ok (.putfield 263, 3) := by decide +kernel
theorem dX11_piece_161 : decode cX11_piece 161 = .ok (.aload_n 0, 1) := by decide +kernel
theorem dX11_piece_162 : decode cX11_piece 162 = .ok (.aload_n 0, 1) := by decide +kernel
theorem dX11_piece_163 : decode cX11_piece 163 = .ok (.getfield 263, 3) := by decide +kernel
theorem dX11_piece_166 : decode cX11_piece 166 = .ok (.iload 5, 2) := by decide +kernel
theorem dX11_piece_168 : decode cX11_piece 168 = .ok (.iadd, 1) := by decide +kernel
theorem dX11_piece_169 : decode cX11_piece 169 = .ok (.putfield 266, 3) := by decide +kernel
theorem dX11_piece_172 : decode cX11_piece 172 = .ok (.aload_n 0, 1) := by decide +kernel
theorem dX11_piece_173 : decode cX11_piece 173 = .ok (.iload_n 1, 1) := by decide +kernel
theorem dX11_piece_174 : decode cX11_piece 174 = .ok (.iload_n 2, 1) := by decide +kernel
theorem dX11_piece_175 : decode cX11_piece 175 = .ok (.aload_n 0, 1) := by decide +kernel
theorem dX11_piece_176 : decode cX11_piece 176 = .ok (.getfield 266, 3) := by decide +kernel
theorem dX11_piece_179 : decode cX11_piece 179 = .ok (.invokevirtual 259, 3) := by decide +kernel
theorem dX11_piece_182 : decode cX11_piece 182 = .ok (.aload_n 0, 1) := by decide +kernel
theorem dX11_piece_183 : decode cX11_piece 183 = .ok (.getfield 36, 3) := by decide +kernel
theorem dX11_piece_186 : decode cX11_piece 186 = .ok (.sipush 400, 3) := by decide +kernel
theorem dX11_piece_189 : decode cX11_piece 189 = .ok (.iload_n 1, 1) := by decide +kernel
theorem dX11_piece_190 : decode cX11_piece 190 = .ok (.imul, 1) := by decide +kernel
theorem dX11_piece_191 : decode cX11_piece 191 = .ok (.aload_n 0, 1) := by decide +kernel
theorem dX11_piece_192 : decode cX11_piece 192 = .ok (.getfield 266, 3) := by decide +kernel
theorem dX11_piece_195 : decode cX11_piece 195 = .ok (.iadd, 1) := by decide +kernel
theorem dX11_piece_196 : decode cX11_piece 196 = .ok (.iaload, 1) := by decide +kernel
theorem dX11_piece_197 : decode cX11_piece 197 = .ok (.sipush 256, 3) := by decide +kernel
theorem dX11_piece_200 : decode cX11_piece 200 = .ok (.aload_n 0, 1) := by decide +kernel
theorem dX11_piece_201 : decode cX11_piece 201 = .ok (.getfield 36, 3) := by decide +kernel
theorem dX11_piece_204 : decode cX11_piece 204 = .ok (.sipush 400, 3) := by decide +kernel
theorem dX11_piece_207 : decode cX11_piece 207 = .ok (.iload_n 1, 1) := by decide +kernel
theorem dX11_piece_208 : decode cX11_piece 208 = .ok (.imul, 1) := by decide +kernel
theorem dX11_piece_209 : decode cX11_piece 209 = .ok (.aload_n 0, 1) := by decide +kernel
theorem dX11_piece_210 : decode cX11_piece 210 = .ok (.getfield 266, 3) := by decide +kernel
theorem dX11_piece_213 : decode cX11_piece 213 = .ok (.iadd, 1) := by decide +kernel
theorem dX11_piece_214 : decode cX11_piece 214 = .ok (.iconst 1, 1) := by decide +kernel
theorem dX11_piece_215 : decode cX11_piece 215 = .ok (.iadd, 1) := by decide +kernel
theorem dX11_piece_216 : decode cX11_piece 216 = .ok (.iaload, 1) := by decide +kernel
theorem dX11_piece_217 : decode cX11_piece 217 = .ok (.imul, 1) := by decide +kernel
theorem dX11_piece_218 : decode cX11_piece 218 = .ok (.iadd, 1) := by decide +kernel
theorem dX11_piece_219 : decode cX11_piece 219 = .ok (.if_icmp .ne 15, 3) := by decide +kernel
theorem dX11_piece_222 : decode cX11_piece 222 = .ok (.aload_n 0, 1) := by decide +kernel
theorem dX11_piece_223 : decode cX11_piece 223 = .ok (.iload_n 1, 1) := by decide +kernel
theorem dX11_piece_224 : decode cX11_piece 224 = .ok (.iload 6, 2) := by decide +kernel
theorem dX11_piece_226 : decode cX11_piece 226 = .ok (.iload 8, 2) := by decide +kernel
theorem dX11_piece_228 : decode cX11_piece 228 = .ok (.invokevirtual 277, 3) := by decide +kernel
theorem dX11_piece_231 : decode cX11_piece 231 = .ok (.ifCond .ne 6, 3) := by decide +kernel
theorem dX11_piece_234 : decode cX11_piece 234 = .ok (.bipush 8, 2) := by decide +kernel
theorem dX11_piece_236 : decode cX11_piece 236 = .ok (.ireturn, 1) := by decide +kernel
theorem dX11_piece_237 : decode cX11_piece 237 = .ok (.iconst 1, 1) := by decide +kernel
theorem dX11_piece_238 : decode cX11_piece 238 = .ok (.istore 9, 2) := by decide +kernel
theorem dX11_piece_240 : decode cX11_piece 240 = .ok (.iconst 0, 1) := by decide +kernel
theorem dX11_piece_241 : decode cX11_piece 241 = .ok (.istore 10, 2) := by decide +kernel
theorem dX11_piece_243 : decode cX11_piece 243 = .ok (.iload 10, 2) := by decide +kernel
theorem dX11_piece_245 : decode cX11_piece 245 = .ok (.iload 8, 2) := by decide +kernel
theorem dX11_piece_247 : decode cX11_piece 247 = .ok (.if_icmp .ge 44, 3) := by decide +kernel
theorem dX11_piece_250 : decode cX11_piece 250 = .ok (.iload 9, 2) := by decide +kernel
theorem dX11_piece_252 : decode cX11_piece 252 = .ok (.ifCond .eq 30, 3) := by decide +kernel
theorem dX11_piece_255 : decode cX11_piece 255 = .ok (.iload 7, 2) := by decide +kernel
theorem dX11_piece_257 : decode cX11_piece 257 = .ok (.aload_n 0, 1) := by decide +kernel
theorem dX11_piece_258 : decode cX11_piece 258 = .ok (.getfield 30, 3) := by decide +kernel
theorem dX11_piece_261 : decode cX11_piece 261 = .ok (.iload 10, 2) := by decide +kernel
theorem dX11_piece_263 : decode cX11_piece 263 = .ok (.laload, 1) := by decide +kernel
theorem dX11_piece_264 : decode cX11_piece 264 = .ok (.invokestatic 127, 3) := by decide +kernel
theorem dX11_piece_267 : decode cX11_piece 267 = .ok (.aload_n 0, 1) := by decide +kernel
theorem dX11_piece_268 : decode cX11_piece 268 = .ok (.getfield 30, 3) := by decide +kernel
theorem dX11_piece_271 : decode cX11_piece 271 = .ok (.iload 10, 2) := by decide +kernel
theorem dX11_piece_273 : decode cX11_piece 273 = .ok (.laload, 1) := by decide +kernel
theorem dX11_piece_274 : decode cX11_piece 274 = .ok (.lcmp, 1) := by decide +kernel
theorem dX11_piece_275 : decode cX11_piece 275 = .ok (.ifCond .ne 7, 3) := by decide +kernel
theorem dX11_piece_278 : decode cX11_piece 278 = .ok (.iconst 1, 1) := by decide +kernel
theorem dX11_piece_279 : decode cX11_piece 279 = .ok (.goto 4, 3) := by decide +kernel
theorem dX11_piece_282 : decode cX11_piece 282 = .ok (.iconst 0, 1) := by decide +kernel
theorem dX11_piece_283 : decode cX11_piece 283 = .ok (.istore 9, 2) := by decide +kernel
theorem dX11_piece_285 : decode cX11_piece 285 = .ok (.iinc 10 1, 3) := by decide +kernel
theorem dX11_piece_288 : decode cX11_piece 288 = .ok (.goto (-45), 3) := by decide +kernel
theorem dX11_piece_291 : decode cX11_piece 291 = .ok (.aload_n 0, 1) := by decide +kernel
theorem dX11_piece_292 : decode cX11_piece 292 = .ok (.iload 6, 2) := by decide +kernel
theorem dX11_piece_294 : decode cX11_piece 294 = .ok (.invokevirtual 235, 3) := by decide +kernel
theorem dX11_piece_297 : decode cX11_piece 297 = .ok (.iload 9, 2) := by decide +kernel
theorem dX11_piece_299 : decode cX11_piece 299 = .ok (.ifCond .eq 16, 3) := by decide +kernel
theorem dX11_piece_302 : decode cX11_piece 302 = .ok (.aload_n 0, 1) := by decide +kernel
theorem dX11_piece_303 : decode cX11_piece 303 = .ok (.getfield 214, 3) := by decide +kernel
theorem dX11_piece_306 : decode cX11_piece 306 = .ok (.iload 5, 2) := by decide +kernel
theorem dX11_piece_308 : decode cX11_piece 308 = .ok (.if_icmp .ne 7, 3) := by decide +kernel
theorem dX11_piece_311 : decode cX11_piece 311 = .ok (.iconst 1, 1) := by decide +kernel
theorem dX11_piece_312 : decode cX11_piece 312 = .ok (.goto 4, 3) := by decide +kernel
theorem dX11_piece_315 : decode cX11_piece 315 = .ok (.iconst 0, 1) := by decide +kernel
theorem dX11_piece_316 : decode cX11_piece 316 = .ok (.istore 9, 2) := by decide +kernel
theorem dX11_piece_318 : decode cX11_piece 318 = .ok (.iconst 0, 1) := by decide +kernel
theorem dX11_piece_319 : decode cX11_piece 319 = .ok (.istore 10, 2) := by decide +kernel
theorem dX11_piece_321 : decode cX11_piece 321 = .ok (.iload 10, 2) := by decide +kernel
theorem dX11_piece_323 : decode cX11_piece 323 = .ok (.iload 5, 2) := by decide +kernel
theorem dX11_piece_325 : decode cX11_piece 325 = .ok (.if_icmp .ge 43, 3) := by decide +kernel
theorem dX11_piece_328 : decode cX11_piece 328 = .ok (.iload 9, 2) := by decide +kernel
theorem dX11_piece_330 : decode cX11_piece 330 = .ok (.ifCond .eq 38, 3) := by decide +kernel
theorem dX11_piece_333 : decode cX11_piece 333 = .ok (.aload_n 0, 1) := by decide +kernel
theorem dX11_piece_334 : decode cX11_piece 334 = .ok (.getfield 33, 3) := by decide +kernel
theorem dX11_piece_337 : decode cX11_piece 337 = .ok (.iload 10, 2) := by decide +kernel
theorem dX11_piece_339 : decode cX11_piece 339 = .ok (.iaload, 1) := by decide +kernel
theorem dX11_piece_340 : decode cX11_piece 340 = .ok (.aload_n 0, 1) := by decide +kernel
theorem dX11_piece_341 : decode cX11_piece 341 = .ok (.getfield 36, 3) := by decide +kernel
theorem dX11_piece_344 : decode cX11_piece 344 = .ok (.iload 4, 2) := by decide +kernel
theorem dX11_piece_346 : decode cX11_piece 346 = .ok (.iconst 5, 1) := by decide +kernel
theorem dX11_piece_347 : decode cX11_piece 347 = .ok (.iadd, 1) := by decide +kernel
theorem dX11_piece_348 : decode cX11_piece 348 = .ok (.iload 10, 2) := by decide +kernel
theorem dX11_piece_350 : decode cX11_piece 350 = .ok (.iadd, 1) := by decide +kernel
theorem dX11_piece_351 : decode cX11_piece 351 = .ok (.iaload, 1) := by decide +kernel
theorem dX11_piece_352 : decode cX11_piece 352 = .ok (.if_icmp .ne 7, 3) := by decide +kernel
theorem dX11_piece_355 : decode cX11_piece 355 = .ok (.iconst 1, 1) := by decide +kernel
theorem dX11_piece_356 : decode cX11_piece 356 = .ok (.goto 4, 3) := by decide +kernel
theorem dX11_piece_359 : decode cX11_piece 359 = .ok (.iconst 0, 1) := by decide +kernel
theorem dX11_piece_360 : decode cX11_piece 360 = .ok (.istore 9, 2) := by decide +kernel
theorem dX11_piece_362 : decode cX11_piece 362 = .ok (.iinc 10 1, 3) := by decide +kernel
theorem dX11_piece_365 : decode cX11_piece 365 = .ok (.goto (-44), 3) := by decide +kernel
theorem dX11_piece_368 : decode cX11_piece 368 = .ok (.iload 9, 2) := by decide +kernel
theorem dX11_piece_370 : decode cX11_piece 370 = .ok (.ifCond .eq 7, 3) := by decide +kernel
theorem dX11_piece_373 : decode cX11_piece 373 = .ok (.iconst 0, 1) := by decide +kernel
theorem dX11_piece_374 : decode cX11_piece 374 = .ok (.goto 5, 3) := by decide +kernel
theorem dX11_piece_377 : decode cX11_piece 377 = .ok (.bipush 8, 2) := by decide +kernel
theorem dX11_piece_379 : decode cX11_piece 379 = .ok (.ireturn, 1) := by decide +kernel
theorem dX11_read_0 : decode cX11_read 0 = .ok (.aload_n 0, 1) := by decide +kernel
theorem dX11_read_1 : decode cX11_read 1 = .ok (.iload_n 1, 1) := by decide +kernel
theorem dX11_read_2 : decode cX11_read 2 = .ok (.invokevirtual 247, 3) := by decide +kernel
theorem dX11_read_5 : decode cX11_read 5 = .ok (.ifCond .ne 6, 3) := by decide +kernel
theorem dX11_read_8 : decode cX11_read 8 = .ok (.bipush (-101), 2) := by decide +kernel
theorem dX11_read_10 : decode cX11_read 10 = .ok (.ireturn, 1) := by decide +kernel
theorem dX11_read_11 : decode cX11_read 11 = .ok (.aload_n 0, 1) := by decide +kernel
theorem dX11_read_12 : decode cX11_read 12 = .ok (.iload_n 1, 1) := by decide +kernel
theorem dX11_read_13 : decode cX11_read 13 = .ok (.aload_n 0, 1) := by decide +kernel
theorem dX11_read_14 : decode cX11_read 14 = .ok (.getfield 42, 3) := by decide +kernel
theorem dX11_read_17 : decode cX11_read 17 = .ok (.iload_n 1, 1) := by decide +kernel
theorem dX11_read_18 : decode cX11_read 18 = .ok (.iaload, 1) := by decide +kernel
theorem dX11_read_19 : decode cX11_read 19 = .ok (.invokevirtual 281, 3) := by decide +kernel
theorem dX11_read_22 : decode cX11_read 22 = .ok (.istore_n 2, 1) := by decide +kernel
theorem dX11_read_23 : decode cX11_read 23 = .ok (.iload_n 2, 1) := by decide +kernel
theorem dX11_read_24 : decode cX11_read 24 = .ok (.ifCond .le 9, 3) := by decide +kernel
theorem dX11_read_27 : decode cX11_read 27 = .ok (.aload_n 0, 1) := by decide +kernel
theorem dX11_read_28 : decode cX11_read 28 = .ok (.iload_n 2, 1) := by decide +kernel
theorem dX11_read_29 : decode cX11_read 29 = .ok (.invokevirtual 146, 3) := by decide +kernel
theorem dX11_read_32 : decode cX11_read 32 = .ok (.ireturn, 1) := by decide +kernel
theorem dX11_read_33 : decode cX11_read 33 = .ok (.aload_n 0, 1) := by decide +kernel
theorem dX11_read_34 : decode cX11_read 34 = .ok (.getfield 137, 3) := by decide +kernel
theorem dX11_read_37 : decode cX11_read 37 = .ok (.bipush 60, 2) := by decide +kernel
theorem dX11_read_39 : decode cX11_read 39 = .ok (.if_icmp .ne 6, 3) := by decide +kernel
theorem dX11_read_42 : decode cX11_read 42 = .ok (.bipush (-104), 2) := by decide +kernel
theorem dX11_read_44 : decode cX11_read 44 = .ok (.ireturn, 1) := by decide +kernel
theorem dX11_read_45 : decode cX11_read 45 = .ok (.aload_n 0, 1) := by decide +kernel
theorem dX11_read_46 : decode cX11_read 46 = .ok (.aload_n 0, 1) := by decide +kernel
theorem dX11_read_47 : decode cX11_read 47 = .ok (.getfield 36, 3) := by decide +kernel
theorem dX11_read_50 : decode cX11_read 50 = .ok (.sipush 400, 3) := by decide +kernel
theorem dX11_read_53 : decode cX11_read 53 = .ok (.iload_n 1, 1) := by decide +kernel
theorem dX11_read_54 : decode cX11_read 54 = .ok (.imul, 1) := by decide +kernel
theorem dX11_read_55 : decode cX11_read 55 = .ok (.aload_n 0, 1) := by decide +kernel
theorem dX11_read_56 : decode cX11_read 56 = .ok (.getfield 42, 3) := by decide +kernel
theorem dX11_read_59 : decode cX11_read 59 = .ok (.iload_n 1, 1) := by decide +kernel
theorem dX11_read_60 : decode cX11_read 60 = .ok (.iaload, 1) := by decide +kernel
theorem dX11_read_61 : decode cX11_read 61 = .ok (.iadd, 1) := by decide +kernel
theorem dX11_read_62 : decode cX11_read 62 = .ok (.iconst 1, 1) := by decide +kernel
theorem dX11_read_63 : decode cX11_read 63 = .ok (.iadd, 1) := by decide +kernel
theorem dX11_read_64 : decode cX11_read 64 = .ok (.iaload, 1) := by decide +kernel
theorem dX11_read_65 : decode cX11_read 65 = .ok (.aload_n 0, 1) := by decide +kernel
theorem dX11_read_66 : decode cX11_read 66 = .ok (.getfield 219, 3) := by decide +kernel
theorem dX11_read_69 : decode cX11_read 69 = .ok (.invokevirtual 150, 3) := by decide +kernel
theorem dX11_read_72 : decode cX11_read 72 = .ok (.istore_n 3, 1) := by decide +kernel
theorem dX11_read_73 : decode cX11_read 73 = .ok (.iconst 0, 1) := by decide +kernel
theorem dX11_read_74 : decode cX11_read 74 = .ok (.istore 4, 2) := by decide +kernel
theorem dX11_read_76 : decode cX11_read 76 = .ok (.iload 4, 2) := by decide +kernel
theorem dX11_read_78 : decode cX11_read 78 = .ok (.aload_n 0, 1) := by decide +kernel
theorem dX11_read_79 : decode cX11_read 79 = .ok (.getfield 219, 3) := by decide +kernel
theorem dX11_read_82 : decode cX11_read 82 = .ok (.if_icmp .ge 28, 3) := by decide +kernel
theorem dX11_read_85 : decode cX11_read 85 = .ok (.aload_n 0, 1) := by decide +kernel
theorem dX11_read_86 : decode cX11_read 86 = .ok (.getfield 23, 3) := by decide +kernel
theorem dX11_read_89 : decode cX11_read 89 = .ok (.bipush 24, 2) := by decide +kernel
theorem dX11_read_91 : decode cX11_read 91 = .ok (.iload_n 3, 1) := by decide +kernel
theorem dX11_read_92 : decode cX11_read 92 = .ok (.imul, 1) := by decide +kernel
theorem dX11_read_93 : decode cX11_read 93 = .ok (.iload 4, 2) := by decide +kernel
theorem dX11_read_95 : decode cX11_read 95 = .ok (.iadd, 1) := by decide +kernel
theorem dX11_read_96 : decode cX11_read 96 = .ok (.aload_n 0, 1) := by decide +kernel
theorem dX11_read_97 : decode cX11_read 97 = .ok (.getfield 30, 3) := by decide +kernel
theorem dX11_read_100 : decode cX11_read 100 = .ok (.iload 4, 2) := by decide +kernel
theorem dX11_read_102 : decode cX11_read 102 = .ok (.laload, 1) := by decide +kernel
theorem dX11_read_103 : decode cX11_read 103 = .ok (.lastore, 1) := by decide +kernel
theorem dX11_read_104 : decode cX11_read 104 = .ok (.iinc 4 1, 3) := by decide +kernel
theorem dX11_read_107 : decode cX11_read 107 = .ok (.goto (-31), 3) := by decide +kernel
theorem dX11_read_110 : decode cX11_read 110 = .ok (.aload_n 0, 1) := by decide +kernel
theorem dX11_read_111 : decode cX11_read 111 = .ok (.getfield 42, 3) := by decide +kernel
theorem dX11_read_114 : decode cX11_read 114 = .ok (.iload_n 1, 1) := by decide +kernel
theorem dX11_read_115 : decode cX11_read 115 = .ok (.aload_n 0, 1) := by decide +kernel
theorem dX11_read_116 : decode cX11_read 116 = .ok (.getfield 266, 3) := by decide +kernel
theorem dX11_read_119 : decode cX11_read 119 = .ok (.iconst 2, 1) := by decide +kernel
theorem dX11_read_120 : decode cX11_read 120 = .ok (.iadd, 1) := by decide +kernel
theorem dX11_read_121 : decode cX11_read 121 = .ok (.iastore, 1) := by decide +kernel
theorem dX11_read_122 : decode cX11_read 122 = .ok (.iload_n 3, 1) := by decide +kernel
theorem dX11_read_123 : decode cX11_read 123 = .ok (.ireturn, 1) := by decide +kernel
theorem dX11_pieces_0 : decode cX11_pieces 0 = .ok (.aload_n 0, 1) := by decide +kernel
theorem dX11_pieces_1 : decode cX11_pieces 1 = .ok (.iload_n 1, 1) := by decide +kernel
theorem dX11_pieces_2 : decode cX11_pieces 2 = .ok (.invokevirtual 247, 3) := by decide +kernel
theorem dX11_pieces_5 : decode cX11_pieces 5 = .ok (.ifCond .ne 6, 3) := by decide +kernel
theorem dX11_pieces_8 : decode cX11_pieces 8 = .ok (.bipush (-101), 2) := by decide +kernel
theorem dX11_pieces_10 : decode cX11_pieces 10 = .ok (.ireturn, 1) := by decide +kernel
theorem dX11_pieces_11 : decode cX11_pieces 11 = .ok (.iconst 0, 1) := by decide +kernel
theorem dX11_pieces_12 : decode cX11_pieces 12 = .ok (.istore_n 2, 1) := by decide +kernel
theorem dX11_pieces_13 : decode cX11_pieces 13 = .ok (.iconst 0, 1) := by decide +kernel
theorem dX11_pieces_14 : decode cX11_pieces 14 = .ok (.istore_n 3, 1) := by decide +kernel
theorem dX11_pieces_15 : decode cX11_pieces 15 = .ok (.aload_n 0, 1) := by decide +kernel
theorem dX11_pieces_16 : decode cX11_pieces 16 = .ok (.iload_n 1, 1) := by decide +kernel
theorem dX11_pieces_17 : decode cX11_pieces 17 = .ok (.iload_n 2, 1) := by decide +kernel
theorem dX11_pieces_18 : decode cX11_pieces 18 = .ok (.invokevirtual 281, 3) := by decide +kernel
theorem dX11_pieces_21 : decode cX11_pieces 21 = .ok (.ifCond .ne 16, 3) := by decide +kernel
theorem dX11_pieces_24 : decode cX11_pieces 24 = .ok (.aload_n 0, 1) := by decide +kernel
theorem dX11_pieces_25 : decode cX11_pieces 25 = .ok (.getfield 266, 3) := by decide +kernel
theorem dX11_pieces_28 : decode cX11_pieces 28 = .ok (.iconst 2, 1) := by decide +kernel
theorem dX11_pieces_29 : decode cX11_pieces 29 = .ok (.iadd, 1) := by decide +kernel
theorem dX11_pieces_30 : decode cX11_pieces 30 = .ok (.istore_n 2, 1) := by decide +kernel
theorem dX11_pieces_31 : decode cX11_pieces 31 = .ok (.iinc 3 1, 3) := by decide +kernel
theorem dX11_pieces_34 : decode cX11_pieces 34 = .ok (.goto (-19), 3) := by decide +kernel
theorem dX11_pieces_37 : decode cX11_pieces 37 = .ok (.iload_n 3, 1) := by decide +kernel
theorem dX11_pieces_38 : decode cX11_pieces 38 = .ok (.ireturn, 1) := by decide +kernel
theorem dX11_isHouse_0 : decode cX11_isHouse 0 = .ok (.iload_n 1, 1) := by decide +kernel
theorem dX11_isHouse_1 : decode cX11_isHouse 1 = .ok (.i2l, 1) := by decide +kernel
theorem dX11_isHouse_2 : decode cX11_isHouse 2 = .ok (.lconst 0, 1) := by decide +kernel
theorem dX11_isHouse_3 : decode cX11_isHouse 3 = .ok (.aload_n 0, 1) := by decide +kernel
theorem dX11_isHouse_4 : decode cX11_isHouse 4 = .ok (.getfield 284, 3) := by decide +kernel
theorem dX11_isHouse_7 : decode cX11_isHouse 7 = .ok (.iconst 1, 1) := by decide +kernel
theorem dX11_isHouse_8 : decode cX11_isHouse 8 = .ok (.isub, 1) := by decide +kernel
theorem dX11_isHouse_9 : decode cX11_isHouse 9 = .ok (.i2l, 1) := by decide +kernel
theorem dX11_isHouse_10 : decode cX11_isHouse 10 = .ok (.invokestatic 140, 3) := by decide +kernel
theorem dX11_isHouse_13 : decode cX11_isHouse 13 = .ok (.ireturn, 1) := by decide +kernel
theorem dX11_house_0 : decode cX11_house 0 = .ok (.aload_n 0, 1) := by decide +kernel
theorem dX11_house_1 : decode cX11_house 1 = .ok (.getfield 284, 3) := by decide +kernel
theorem dX11_house_4 : decode cX11_house 4 = .ok (.bipush 6, 2) := by decide +kernel
theorem dX11_house_6 : decode cX11_house 6 = .ok (.if_icmp .ne 6, 3) := by decide +kernel
theorem dX11_house_9 : decode cX11_house 9 = .ok (.bipush (-104), 2) := by decide +kernel
theorem dX11_house_11 : decode cX11_house 11 = .ok (.ireturn, 1) := by decide +kernel
theorem dX11_house_12 : decode cX11_house 12 = .ok (.aload_n 0, 1) := by decide +kernel
theorem dX11_house_13 : decode cX11_house 13 = .ok (.getfield 60, 3) := by decide +kernel
theorem dX11_house_16 : decode cX11_house 16 = .ok (.aload_n 0, 1) := by decide +kernel
theorem dX11_house_17 : decode cX11_house 17 = .ok (.getfield 284, 3) := by decide +kernel
theorem dX11_house_20 : decode cX11_house 20 = .ok (.iconst 0, 1) := by decide +kernel
theorem dX11_house_21 : decode cX11_house 21 = .ok (.iastore, 1) := by decide +kernel
theorem dX11_house_22 : decode cX11_house 22 = .ok (.aload_n 0, 1) := by decide +kernel
theorem dX11_house_23 : decode cX11_house 23 = .ok (.dup, 1) := by decide +kernel
theorem dX11_house_24 : decode cX11_house 24 = .ok (.getfield 284, 3) := by decide +kernel
theorem dX11_house_27 : decode cX11_house 27 = .ok (.iconst 1, 1) := by decide +kernel
theorem dX11_house_28 : decode cX11_house 28 = .ok (.iadd, 1) := by decide +kernel
theorem dX11_house_29 : decode cX11_house 29 = .ok (.putfield 284, 3) := by decide +kernel
theorem dX11_house_32 : decode cX11_house 32 = .ok (.aload_n 0, 1) := by decide +kernel
theorem dX11_house_33 : decode cX11_house 33 = .ok (.getfield 284, 3) := by decide +kernel
theorem dX11_house_36 : decode cX11_house 36 = .ok (.iconst 1, 1) := by decide +kernel
theorem dX11_house_37 : decode cX11_house 37 = .ok (.isub, 1) := by decide +kernel
theorem dX11_house_38 : decode cX11_house 38 = .ok (.ireturn, 1) := by decide +kernel
theorem dX11_entry_0 : decode cX11_entry 0 = .ok (.iconst 0, 1) := by decide +kernel
theorem dX11_entry_1 : decode cX11_entry 1 = .ok (.istore 4, 2) := by decide +kernel
theorem dX11_entry_3 : decode cX11_entry 3 = .ok (.iload 4, 2) := by decide +kernel
theorem dX11_entry_5 : decode cX11_entry 5 = .ok (.aload_n 0, 1) := by decide +kernel
theorem dX11_entry_6 : decode cX11_entry 6 = .ok (.getfield 60, 3) := by decide +kernel
theorem dX11_entry_9 : decode cX11_entry 9 = .ok (.iload_n 1, 1) := by decide +kernel
theorem dX11_entry_10 : decode cX11_entry 10 = .ok (.iaload, 1) := by decide +kernel
theorem dX11_entry_11 : decode cX11_entry 11 = .ok (.if_icmp .ge 34, 3) := by decide +kernel
theorem dX11_entry_14 : decode cX11_entry 14 = .ok (.aload_n 0, 1) := by decide +kernel
theorem dX11_entry_15 : decode cX11_entry 15 = .ok (.getfield 63, 3) := by decide +kernel
theorem dX11_entry_18 : decode cX11_entry 18 = .ok (.bipush 12, 2) := by decide +kernel
theorem dX11_entry_20 : decode cX11_entry 20 = .ok (.iload_n 1, 1) := by decide +kernel
theorem dX11_entry_21 : decode cX11_entry 21 = .ok (.imul, 1) := by decide +kernel
theorem dX11_entry_22 : decode cX11_entry 22 = .ok (.iload 4, 2) := by decide +kernel
theorem dX11_entry_24 : decode cX11_entry 24 = .ok (.iadd, 1) := by decide +kernel
theorem dX11_entry_25 : decode cX11_entry 25 = .ok (.laload, 1) := by decide +kernel
theorem dX11_entry_26 : decode cX11_entry 26 = .ok (.lload_n 2, 1) := by decide +kernel
theorem dX11_entry_27 : decode cX11_entry 27 = .ok (.lcmp, 1) := by decide +kernel
theorem dX11_entry_28 : decode cX11_entry 28 = .ok (.ifCond .ne 11, 3) := by decide +kernel
theorem dX11_entry_31 : decode cX11_entry 31 = .ok (.bipush 12, 2) := by decide +kernel
theorem dX11_entry_33 : decode cX11_entry 33 = .ok (.iload_n 1, 1) := by decide +kernel
theorem dX11_entry_34 : decode cX11_entry 34 = .ok (.imul, 1) := by decide +kernel
theorem dX11_entry_35 : decode cX11_entry 35 = .ok (.iload 4, 2) := by decide +kernel
theorem dX11_entry_37 : decode cX11_entry 37 = .ok (.iadd, 1) := by decide +kernel
theorem dX11_entry_38 : decode cX11_entry 38 = .ok (.ireturn, 1) := by decide +kernel
theorem dX11_entry_39 : decode cX11_entry 39 = .ok (.iinc 4 1, 3) := by decide +kernel
theorem dX11_entry_42 : decode cX11_entry 42 = .ok (.goto (-39), 3) := by decide +kernel
theorem dX11_entry_45 : decode cX11_entry 45 = .ok (.iconst (-1), 1) := by decide +kernel
theorem dX11_entry_46 : decode cX11_entry 46 = .ok (.ireturn, 1) := by decide +kernel
theorem dX11_likeBody_0 : decode cX11_likeBody 0 = .ok (.iconst 0, 1) := by decide +kernel
theorem dX11_likeBody_1 : decode cX11_likeBody 1 = .ok (.istore_n 2, 1) := by decide +kernel
theorem dX11_likeBody_2 : decode cX11_likeBody 2 = .ok (.iload_n 2, 1) := by decide +kernel
theorem dX11_likeBody_3 : decode cX11_likeBody 3 = .ok (.bipush 30, 2) := by decide +kernel
theorem dX11_likeBody_5 : decode cX11_likeBody 5 = .ok (.if_icmp .ge 105, 3) := by decide +kernel
theorem dX11_likeBody_8 : decode cX11_likeBody 8 = .ok (.aload_n 0, 1) := by decide +kernel
theorem dX11_likeBody_9 : decode cX11_likeBody 9 = .ok (.getfield 48, 3) := by decide +kernel
theorem dX11_likeBody_12 : decode cX11_likeBody 12 = .ok (.iload_n 2, 1) := by decide +kernel
theorem dX11_likeBody_13 : decode cX11_likeBody 13 = .ok (.iaload, 1) := by decide +kernel
theorem dX11_likeBody_14 : decode cX11_likeBody 14 = .ok (.iconst (-1), 1) := by decide +kernel
theorem dX11_likeBody_15 : decode cX11_likeBody 15 = .ok (.if_icmp .eq 22, 3) := by decide +kernel
theorem dX11_likeBody_18 : decode cX11_likeBody 18 = .ok (.aload_n 0, 1) := by decide +kernel
theorem dX11_likeBody_19 : decode cX11_likeBody 19 = .ok (.getfield 51, 3) := by decide +kernel
theorem dX11_likeBody_22 : decode cX11_likeBody 22 = .ok (.iload_n 2, 1) := by decide +kernel
theorem dX11_likeBody_23 : decode cX11_likeBody 23 = .ok (.iaload, 1) := by decide +kernel
theorem dX11_likeBody_24 : decode cX11_likeBody 24 = .ok (.aload_n 0, 1) := by decide +kernel
theorem dX11_likeBody_25 : decode cX11_likeBody 25 = .ok (.getfield 39, 3) := by decide +kernel
theorem dX11_likeBody_28 : decode cX11_likeBody 28 = .ok (.iload_n 1, 1) := by decide +kernel
theorem dX11_likeBody_29 : decode cX11_likeBody 29 = .ok (.iaload, 1) := by decide +kernel
theorem dX11_likeBody_30 : decode cX11_likeBody 30 = .ok (.if_icmp .ne 7, 3) := by decide +kernel
theorem dX11_likeBody_33 : decode cX11_likeBody 33 = .ok (.iconst 1, 1) := by decide +kernel
theorem dX11_likeBody_34 : decode cX11_likeBody 34 = .ok (.goto 4, 3) := by decide +kernel
theorem dX11_likeBody_37 : decode cX11_likeBody 37 = .ok (.iconst 0, 1) := by decide +kernel
theorem dX11_likeBody_38 : decode cX11_likeBody 38 = .ok (.istore_n 3, 1) := by decide +kernel
theorem dX11_likeBody_39 : decode cX11_likeBody 39 = .ok (.iconst 0, 1) := by decide +kernel
theorem dX11_likeBody_40 : decode cX11_likeBody 40 = .ok (.istore 4, 2) := by decide +kernel
theorem dX11_likeBody_42 : decode cX11_likeBody 42 = .ok (.iload 4, 2) := by decide +kernel
theorem dX11_likeBody_44 : decode cX11_likeBody 44 = .ok (.aload_n 0, 1) := by decide +kernel
theorem dX11_likeBody_45 : decode cX11_likeBody 45 = .ok (.getfield 39, 3) := by decide +kernel
theorem dX11_likeBody_48 : decode cX11_likeBody 48 = .ok (.iload_n 1, 1) := by decide +kernel
theorem dX11_likeBody_49 : decode cX11_likeBody 49 = .ok (.iaload, 1) := by decide +kernel
theorem dX11_likeBody_50 : decode cX11_likeBody 50 = .ok (.if_icmp .ge 48, 3) := by decide +kernel
theorem dX11_likeBody_53 : decode cX11_likeBody 53 = .ok (.iload_n 3, 1) := by decide +kernel
theorem dX11_likeBody_54 : decode cX11_likeBody 54 = .ok (.ifCond .eq 44, 3) := by decide +kernel
theorem dX11_likeBody_57 : decode cX11_likeBody 57 = .ok (.aload_n 0, 1) := by decide +kernel
theorem dX11_likeBody_58 : decode cX11_likeBody 58 = .ok (.getfield 57, 3) := by decide +kernel
theorem dX11_likeBody_61 : decode cX11_likeBody 61 = .ok (.sipush 400, 3) := by decide +kernel
theorem dX11_likeBody_64 : decode cX11_likeBody 64 = .ok (.iload_n 2, 1) := by decide +kernel
theorem dX11_likeBody_65 : decode cX11_likeBody 65 = .ok (.imul, 1) := by decide +kernel
theorem dX11_likeBody_66 : decode cX11_likeBody 66 = .ok (.iload 4, 2) := by decide +kernel
theorem dX11_likeBody_68 : decode cX11_likeBody 68 = .ok (.iadd, 1) := by decide +kernel
theorem dX11_likeBody_69 : decode cX11_likeBody 69 = .ok (.iaload, 1) := by decide +kernel
theorem dX11_likeBody_70 : decode cX11_likeBody 70 = .ok (.aload_n 0, 1) := by decide +kernel
theorem dX11_likeBody_71 : decode cX11_likeBody 71 = .ok (.getfield 36, 3) := by decide +kernel
theorem dX11_likeBody_74 : decode cX11_likeBody 74 = .ok (.sipush 400, 3) := by decide +kernel
theorem dX11_likeBody_77 : decode cX11_likeBody 77 = .ok (.iload_n 1, 1) := by decide +kernel
theorem dX11_likeBody_78 : decode cX11_likeBody 78 = .ok (.imul, 1) := by decide +kernel
theorem dX11_likeBody_79 : decode cX11_likeBody 79 = .ok (.iload 4, 2) := by decide +kernel
theorem dX11_likeBody_81 : decode cX11_likeBody 81 = .ok (.iadd, 1) := by decide +kernel
theorem dX11_likeBody_82 : decode cX11_likeBody 82 = .ok (.iaload, 1) := by decide +kernel
theorem dX11_likeBody_83 : decode cX11_likeBody 83 = .ok (.if_icmp .ne 7, 3) := by decide +kernel
theorem dX11_likeBody_86 : decode cX11_likeBody 86 = .ok (.iconst 1, 1) := by decide +kernel
theorem dX11_likeBody_87 : decode cX11_likeBody 87 = .ok (.goto 4, 3) := by decide +kernel
theorem dX11_likeBody_90 : decode cX11_likeBody 90 = .ok (.iconst 0, 1) := by decide +kernel
theorem dX11_likeBody_91 : decode cX11_likeBody 91 = .ok (.istore_n 3, 1) := by decide +kernel
theorem dX11_likeBody_92 : decode cX11_likeBody 92 = .ok (.iinc 4 1, 3) := by decide +kernel
theorem dX11_likeBody_95 : decode cX11_likeBody 95 = .ok (.goto (-53), 3) := by decide +kernel
theorem dX11_likeBody_98 : decode cX11_likeBody 98 = .ok (.iload_n 3, 1) := by decide +kernel
theorem dX11_likeBody_99 : decode cX11_likeBody 99 = .ok (.ifCond .eq 5, 3) := by decide +kernel
theorem dX11_likeBody_102 : decode cX11_likeBody 102 = .ok (.iload_n 2, 1) := by decide +kernel
theorem dX11_likeBody_103 : decode cX11_likeBody 103 = .ok (.ireturn, 1) := by decide +kernel
theorem dX11_likeBody_104 : decode cX11_likeBody 104 = .ok (.iinc 2 1, 3) := by decide +kernel
theorem dX11_likeBody_107 : decode cX11_likeBody 107 = .ok (.goto (-105), 3) := by decide +kernel
theorem dX11_likeBody_110 : decode cX11_likeBody 110 = .ok (.iconst (-1), 1) := by decide +kernel
theorem dX11_likeBody_111 : decode cX11_likeBody 111 = .ok (.ireturn, 1) := by decide +kernel
theorem dX11_freeBody_0 : decode cX11_freeBody 0 = .ok (.iconst 0, 1) := by decide +kernel
theorem dX11_freeBody_1 : decode cX11_freeBody 1 = .ok (.istore_n 1, 1) := by decide +kernel
theorem dX11_freeBody_2 : decode cX11_freeBody 2 = .ok (.iload_n 1, 1) := by decide +kernel
theorem dX11_freeBody_3 : decode cX11_freeBody 3 = .ok (.bipush 30, 2) := by decide +kernel
theorem dX11_freeBody_5 : decode cX11_freeBody 5 = .ok (.if_icmp .ge 19, 3) := by decide +kernel
theorem dX11_freeBody_8 : decode cX11_freeBody 8 = .ok (.aload_n 0, 1) := by decide +kernel
theorem dX11_freeBody_9 : decode cX11_freeBody 9 = .ok (.getfield 48, 3) := by decide +kernel
theorem dX11_freeBody_12 : decode cX11_freeBody 12 = .ok (.iload_n 1, 1) := by decide +kernel
theorem dX11_freeBody_13 : decode cX11_freeBody 13 = .ok (.iaload, 1) := by decide +kernel
theorem dX11_freeBody_14 : decode cX11_freeBody 14 = .ok (.iconst (-1), 1) := by decide +kernel
theorem dX11_freeBody_15 : decode cX11_freeBody 15 = .ok (.if_icmp .eq 9, 3) := by decide +kernel
theorem dX11_freeBody_18 : decode cX11_freeBody 18 = .ok (.iinc 1 1, 3) := by decide +kernel
theorem dX11_freeBody_21 : decode cX11_freeBody 21 = .ok (.goto (-19), 3) := by decide +kernel
theorem dX11_freeBody_24 : decode cX11_freeBody 24 = .ok (.iload_n 1, 1) := by decide +kernel
theorem dX11_freeBody_25 : decode cX11_freeBody 25 = .ok (.ireturn, 1) := by decide +kernel
theorem dX11_leave_0 : decode cX11_leave 0 = .ok (.aload_n 0, 1) := by decide +kernel
theorem dX11_leave_1 : decode cX11_leave 1 = .ok (.getfield 54, 3) := by decide +kernel
theorem dX11_leave_4 : decode cX11_leave 4 = .ok (.iload_n 1, 1) := by decide +kernel
theorem dX11_leave_5 : decode cX11_leave 5 = .ok (.dup2, 1) := by decide +kernel
theorem dX11_leave_6 : decode cX11_leave 6 = .ok (.iaload, 1) := by decide +kernel
theorem dX11_leave_7 : decode cX11_leave 7 = .ok (.iconst 1, 1) := by decide +kernel
theorem dX11_leave_8 : decode cX11_leave 8 = .ok (.isub, 1) := by decide +kernel
theorem dX11_leave_9 : decode cX11_leave 9 = .ok (.iastore, 1) := by decide +kernel
theorem dX11_leave_10 : decode cX11_leave 10 = .ok (.aload_n 0, 1) := by decide +kernel
theorem dX11_leave_11 : decode cX11_leave 11 = .ok (.getfield 54, 3) := by decide +kernel
theorem dX11_leave_14 : decode cX11_leave 14 = .ok (.iload_n 1, 1) := by decide +kernel
theorem dX11_leave_15 : decode cX11_leave 15 = .ok (.iaload, 1) := by decide +kernel
theorem dX11_leave_16 : decode cX11_leave 16 = .ok (.ifCond .ne 10, 3) := by decide +kernel
theorem dX11_leave_19 : decode cX11_leave 19 = .ok (.aload_n 0, 1) := by decide +kernel
theorem dX11_leave_20 : decode cX11_leave 20 = .ok (.getfield 48, 3) := by decide +kernel
theorem dX11_leave_23 : decode cX11_leave 23 = .ok (.iload_n 1, 1) := by decide +kernel
theorem dX11_leave_24 : decode cX11_leave 24 = .ok (.iconst (-1), 1) := by decide +kernel
theorem dX11_leave_25 : decode cX11_leave 25 = .ok (.iastore, 1) := by decide +kernel
theorem dX11_leave_26 : decode cX11_leave 26 = .ok (.return_, 1) := by decide +kernel
theorem dX11_keep_0 : decode cX11_keep 0 = .ok (.aload_n 0, 1) := by decide +kernel
theorem dX11_keep_1 : decode cX11_keep 1 = .ok (.iload_n 1, 1) := by decide +kernel
theorem dX11_keep_2 : decode cX11_keep 2 = .ok (.invokevirtual 287, 3) := by decide +kernel
theorem dX11_keep_5 : decode cX11_keep 5 = .ok (.ifCond .eq 12, 3) := by decide +kernel
theorem dX11_keep_8 : decode cX11_keep 8 = .ok (.aload_n 0, 1) := by decide +kernel
theorem dX11_keep_9 : decode cX11_keep 9 = .ok (.iload 4, 2) := by decide +kernel
theorem dX11_keep_11 : decode cX11_keep 11 = .ok (.invokevirtual 247, 3) := by decide +kernel
theorem dX11_keep_14 : decode cX11_keep 14 = .ok (.ifCond .ne 6, 3) := by decide +kernel
theorem dX11_keep_17 : decode cX11_keep 17 = .ok (.bipush (-101), 2) := by decide +kernel
theorem dX11_keep_19 : decode cX11_keep 19 = .ok (.ireturn, 1) := by decide +kernel
theorem dX11_keep_20 : decode cX11_keep 20 = .ok (.lload_n 2, 1) := by decide +kernel
theorem dX11_keep_21 : decode cX11_keep 21 = .ok (.lconst 0, 1) := by decide +kernel
theorem dX11_keep_22 : decode cX11_keep 22 = .ok (.lcmp, 1) := by decide +kernel
theorem dX11_keep_23 : decode cX11_keep 23 = .ok (.ifCond .ge 6, 3) := by decide +kernel
theorem dX11_keep_26 : decode cX11_keep 26 = .ok (.bipush (-102), 2) := by decide +kernel
theorem dX11_keep_28 : decode cX11_keep 28 = .ok (.ireturn, 1) := by decide +kernel
theorem dX11_keep_29 : decode cX11_keep 29 = .ok (.aload_n 0, 1) := by decide +kernel
theorem dX11_keep_30 : decode cX11_keep 30 = .ok (.getfield 45, 3) := by decide +kernel
theorem dX11_keep_33 : decode cX11_keep 33 = .ok (.iload 4, 2) := by decide +kernel
theorem dX11_keep_35 : decode cX11_keep 35 = .ok (.baload, 1) := by decide +kernel
theorem dX11_keep_36 : decode cX11_keep 36 = .ok (.ifCond .ne 6, 3) := by decide +kernel
theorem dX11_keep_39 : decode cX11_keep 39 = .ok (.bipush (-103), 2) := by decide +kernel
theorem dX11_keep_41 : decode cX11_keep 41 = .ok (.ireturn, 1) := by decide +kernel
theorem dX11_keep_42 : decode cX11_keep 42 = .ok (.aload_n 0, 1) := by decide +kernel
theorem dX11_keep_43 : decode cX11_keep 43 = .ok (.iload_n 1, 1) := by decide +kernel
theorem dX11_keep_44 : decode cX11_keep 44 = .ok (.lload_n 2, 1) := by decide +kernel
theorem dX11_keep_45 : decode cX11_keep 45 = .ok (.invokevirtual 290, 3) := by decide +kernel
theorem dX11_keep_48 : decode cX11_keep 48 = .ok (.istore 5, 2) := by decide +kernel
theorem dX11_keep_50 : decode cX11_keep 50 = .ok (.aload_n 0, 1) := by decide +kernel
theorem dX11_keep_51 : decode cX11_keep 51 = .ok (.iload 4, 2) := by decide +kernel
theorem dX11_keep_53 : decode cX11_keep 53 = .ok (.invokevirtual 294, 3) := by decide +kernel
theorem dX11_keep_56 : decode cX11_keep 56 = .ok (.istore 6, 2) := by decide +kernel
theorem dX11_keep_58 : decode cX11_keep 58 = .ok (.iload 5, 2) := by decide +kernel
theorem dX11_keep_60 : decode cX11_keep 60 = .ok (.iconst (-1), 1) := by decide +kernel
theorem dX11_keep_61 : decode cX11_keep 61 = .ok (.if_icmp .ne 14, 3) := by decide +kernel
theorem dX11_keep_64 : decode cX11_keep 64 = .ok (.aload_n 0, 1) := by decide +kernel
theorem dX11_keep_65 : decode cX11_keep 65 = .ok (.getfield 60, 3) := by decide +kernel
theorem dX11_keep_68 : decode cX11_keep 68 = .ok (.iload_n 1, 1) := by decide +kernel
theorem dX11_keep_69 : decode cX11_keep 69 = .ok (.iaload, 1) := by decide +kernel
theorem dX11_keep_70 : decode cX11_keep 70 = .ok (.bipush 12, 2) := by decide +kernel
theorem dX11_keep_72 : decode cX11_keep 72 = .ok (.if_icmp .eq 18, 3) := by decide +kernel
theorem dX11_keep_75 : decode cX11_keep 75 = .ok (.iload 6, 2) := by decide +kernel
theorem dX11_keep_77 : decode cX11_keep 77 = .ok (.iconst (-1), 1) := by decide +kernel
theorem dX11_keep_78 : decode cX11_keep 78 = .ok (.if_icmp .ne 15, 3) := by decide +kernel
theorem dX11_keep_81 : decode cX11_keep 81 = .ok (.aload_n 0, 1) := by decide +kernel
theorem dX11_keep_82 : decode cX11_keep 82 = .ok (.invokevirtual 297, 3) := by decide +kernel
theorem dX11_keep_85 : decode cX11_keep 85 = .ok (.bipush 30, 2) := by decide +kernel
theorem dX11_keep_87 : decode cX11_keep 87 = .ok (.if_icmp .ne 6, 3) := by decide +kernel
theorem dX11_keep_90 : decode cX11_keep 90 = .ok (.bipush (-104), 2) := by decide +kernel
theorem dX11_keep_92 : decode cX11_keep 92 = .ok (.ireturn, 1) := by decide +kernel
theorem dX11_keep_93 : decode cX11_keep 93 = .ok (.iload 6, 2) := by decide +kernel
theorem dX11_keep_95 : decode cX11_keep 95 = .ok (.iconst (-1), 1) := by decide +kernel
theorem dX11_keep_96 : decode cX11_keep 96 = .ok (.if_icmp .ne 101, 3) := by decide +kernel
theorem dX11_keep_99 : decode cX11_keep 99 = .ok (.aload_n 0, 1) := by decide +kernel
theorem dX11_keep_100 : decode cX11_keep 100 = .ok (.invokevirtual 297, 3) := by decide +kernel
theorem dX11_keep_103 : decode cX11_keep 103 = .ok (.istore 6, 2) := by decide +kernel
theorem dX11_keep_105 : decode cX11_keep 105 = .ok (.aload_n 0, 1) := by decide +kernel
theorem dX11_keep_106 : decode cX11_keep 106 = .ok (.getfield 48, 3) := by decide +kernel
theorem dX11_keep_109 : decode cX11_keep 109 = .ok (.iload 6, 2) := by decide +kernel
theorem dX11_keep_111 : decode cX11_keep 111 = .ok (.aload_n 0, 1) := by decide +kernel
theorem dX11_keep_112 : decode cX11_keep 112 = .ok (.getfield 300, 3) := by decide +kernel
theorem dX11_keep_115 : decode cX11_keep 115 = .ok (.iastore, 1) := by decide +kernel
theorem dX11_keep_116 : decode cX11_keep 116 = .ok (.aload_n 0, 1) := by decide +kernel
theorem dX11_keep_117 : decode cX11_keep 117 = .ok (.dup, 1) := by decide +kernel
theorem dX11_keep_118 : decode cX11_keep 118 = .ok (.getfield 300, 3) := by decide +kernel
theorem dX11_keep_121 : decode cX11_keep 121 = .ok (.iconst 1, 1) := by decide +kernel
theorem dX11_keep_122 : decode cX11_keep 122 = .ok (.iadd, 1) := by decide +kernel
theorem dX11_keep_123 : decode cX11_keep 123 = .ok (.putfield 300, 3) := by decide +kernel
theorem dX11_keep_126 : decode cX11_keep 126 = .ok (.aload_n 0, 1) := by decide +kernel
theorem dX11_keep_127 : decode cX11_keep 127 = .ok (.getfield 51, 3) := by decide +kernel
theorem dX11_keep_130 : decode cX11_keep 130 = .ok (.iload 6, 2) := by decide +kernel
theorem dX11_keep_132 : decode cX11_keep 132 = .ok (.aload_n 0, 1) := by decide +kernel
theorem dX11_keep_133 : decode cX11_keep 133 = .ok (.getfield 39, 3) := by decide +kernel
theorem dX11_keep_136 : decode cX11_keep 136 = .ok (.iload 4, 2) := by decide +kernel
theorem dX11_keep_138 : decode cX11_keep 138 = .ok (.iaload, 1) := by decide +kernel
theorem dX11_keep_139 : decode cX11_keep 139 = .ok (.iastore, 1) := by decide +kernel
theorem dX11_keep_140 : decode cX11_keep 140 = .ok (.aload_n 0, 1) := by decide +kernel
theorem dX11_keep_141 : decode cX11_keep 141 = .ok (.getfield 54, 3) := by decide +kernel
theorem dX11_keep_144 : decode cX11_keep 144 = .ok (.iload 6, 2) := by decide +kernel
theorem dX11_keep_146 : decode cX11_keep 146 = .ok (.iconst 0, 1) := by decide +kernel
theorem dX11_keep_147 : decode cX11_keep 147 = .ok (.iastore, 1) := by decide +kernel
theorem dX11_keep_148 : decode cX11_keep 148 = .ok (.iconst 0, 1) := by decide +kernel
theorem dX11_keep_149 : decode cX11_keep 149 = .ok (.istore 7, 2) := by decide +kernel
theorem dX11_keep_151 : decode cX11_keep 151 = .ok (.iload 7, 2) := by decide +kernel
theorem dX11_keep_153 : decode cX11_keep 153 = .ok (.aload_n 0, 1) := by decide +kernel
theorem dX11_keep_154 : decode cX11_keep 154 = .ok (.getfield 39, 3) := by decide +kernel
theorem dX11_keep_157 : decode cX11_keep 157 = .ok (.iload 4, 2) := by decide +kernel
theorem dX11_keep_159 : decode cX11_keep 159 = .ok (.iaload, 1) := by decide +kernel
theorem dX11_keep_160 : decode cX11_keep 160 = .ok (.if_icmp .ge 37, 3) := by decide +kernel
theorem dX11_keep_163 : decode cX11_keep 163 = .ok (.aload_n 0, 1) := by decide +kernel
theorem dX11_keep_164 : decode cX11_keep 164 = .ok (.getfield 57, 3) := by decide +kernel
theorem dX11_keep_167 : decode cX11_keep 167 = .ok (.sipush 400, 3) := by decide +kernel
theorem dX11_keep_170 : decode cX11_keep 170 = .ok (.iload 6, 2) := by decide +kernel
theorem dX11_keep_172 : decode cX11_keep 172 = .ok (.imul, 1) := by decide +kernel
theorem dX11_keep_173 : decode cX11_keep 173 = .ok (.iload 7, 2) := by decide +kernel
theorem dX11_keep_175 : decode cX11_keep 175 = .ok (.iadd, 1) := by decide +kernel
theorem dX11_keep_176 : decode cX11_keep 176 = .ok (.aload_n 0, 1) := by decide +kernel
theorem dX11_keep_177 : decode cX11_keep 177 = .ok (.getfield 36, 3) := by decide +kernel
theorem dX11_keep_180 : decode cX11_keep 180 = .ok (.sipush 400, 3) := by decide +kernel
theorem dX11_keep_183 : decode cX11_keep 183 = .ok (.iload 4, 2) := by decide +kernel
theorem dX11_keep_185 : decode cX11_keep 185 = .ok (.imul, 1) := by decide +kernel
theorem dX11_keep_186 : decode cX11_keep 186 = .ok (.iload 7, 2) := by decide +kernel
theorem dX11_keep_188 : decode cX11_keep 188 = .ok (.iadd, 1) := by decide +kernel
theorem dX11_keep_189 : decode cX11_keep 189 = .ok (.iaload, 1) := by decide +kernel
theorem dX11_keep_190 : decode cX11_keep 190 = .ok (.iastore, 1) := by decide +kernel
theorem dX11_keep_191 : decode cX11_keep 191 = .ok (.iinc 7 1, 3) := by decide +kernel
theorem dX11_keep_194 : decode cX11_keep 194 = .ok (.goto (-43), 3) := by decide +kernel
theorem dX11_keep_197 : decode cX11_keep 197 = .ok (.aload_n 0, 1) := by decide +kernel
theorem dX11_keep_198 : decode cX11_keep 198 = .ok (.getfield 54, 3) := by decide +kernel
theorem dX11_keep_201 : decode cX11_keep 201 = .ok (.iload 6, 2) := by decide +kernel
theorem dX11_keep_203 : decode cX11_keep 203 = .ok (.dup2, 1) := by decide +kernel
theorem dX11_keep_204 : decode cX11_keep 204 = .ok (.iaload, 1) := by decide +kernel
theorem dX11_keep_205 : decode cX11_keep 205 = .ok (.iconst 1, 1) := by decide +kernel
theorem dX11_keep_206 : decode cX11_keep 206 = .ok (.iadd, 1) := by decide +kernel
theorem dX11_keep_207 : decode cX11_keep 207 = .ok (.iastore, 1) := by decide +kernel
theorem dX11_keep_208 : decode cX11_keep 208 = .ok (.iload 5, 2) := by decide +kernel
theorem dX11_keep_210 : decode cX11_keep 210 = .ok (.iconst (-1), 1) := by decide +kernel
theorem dX11_keep_211 : decode cX11_keep 211 = .ok (.if_icmp .eq 31, 3) := by decide +kernel
theorem dX11_keep_214 : decode cX11_keep 214 = .ok (.aload_n 0, 1) := by decide +kernel
theorem dX11_keep_215 : decode cX11_keep 215 = .ok (.aload_n 0, 1) := by decide +kernel
theorem dX11_keep_216 : decode cX11_keep 216 = .ok (.getfield 66, 3) := by decide +kernel
theorem dX11_keep_219 : decode cX11_keep 219 = .ok (.iload 5, 2) := by decide +kernel
theorem dX11_keep_221 : decode cX11_keep 221 = .ok (.iaload, 1) := by decide +kernel
theorem dX11_keep_222 : decode cX11_keep 222 = .ok (.invokevirtual 303, 3) := by decide +kernel
theorem dX11_keep_225 : decode cX11_keep 225 = .ok (.aload_n 0, 1) := by decide +kernel
theorem dX11_keep_226 : decode cX11_keep 226 = .ok (.getfield 66, 3) := by decide +kernel
theorem dX11_keep_229 : decode cX11_keep 229 = .ok (.iload 5, 2) := by decide +kernel
theorem dX11_keep_231 : decode cX11_keep 231 = .ok (.iload 6, 2) := by decide +kernel
theorem dX11_keep_233 : decode cX11_keep 233 = .ok (.iastore, 1) := by decide +kernel
theorem dX11_keep_234 : decode cX11_keep 234 = .ok (.aload_n 0, 1) := by decide +kernel
theorem dX11_keep_235 : decode cX11_keep 235 = .ok (.getfield 48, 3) := by decide +kernel
theorem dX11_keep_238 : decode cX11_keep 238 = .ok (.iload 6, 2) := by decide +kernel
theorem dX11_keep_240 : decode cX11_keep 240 = .ok (.iaload, 1) := by decide +kernel
theorem dX11_keep_241 : decode cX11_keep 241 = .ok (.ireturn, 1) := by decide +kernel
theorem dX11_keep_242 : decode cX11_keep 242 = .ok (.bipush 12, 2) := by decide +kernel
theorem dX11_keep_244 : decode cX11_keep 244 = .ok (.iload_n 1, 1) := by decide +kernel
theorem dX11_keep_245 : decode cX11_keep 245 = .ok (.imul, 1) := by decide +kernel
theorem dX11_keep_246 : decode cX11_keep 246 = .ok (.aload_n 0, 1) := by decide +kernel
theorem dX11_keep_247 : decode cX11_keep 247 = .ok (.getfield 60, 3) := by decide +kernel
theorem dX11_keep_250 : decode cX11_keep 250 = .ok (.iload_n 1, 1) := by decide +kernel
theorem dX11_keep_251 : decode cX11_keep 251 = .ok (.iaload, 1) := by decide +kernel
theorem dX11_keep_252 : decode cX11_keep 252 = .ok (.iadd, 1) := by decide +kernel
theorem dX11_keep_253 : decode cX11_keep 253 = .ok (.istore 7, 2) := by decide +kernel
theorem dX11_keep_255 : decode cX11_keep 255 = .ok (.iload 7, 2) := by decide +kernel
theorem dX11_keep_257 : decode cX11_keep 257 = .ok (.bipush 12, 2) := by decide +kernel
theorem dX11_keep_259 : decode cX11_keep 259 = .ok (.iload_n 1, 1) := by decide +kernel
theorem dX11_keep_260 : decode cX11_keep 260 = .ok (.imul, 1) := by decide +kernel
theorem dX11_keep_261 : decode cX11_keep 261 = .ok (.if_icmp .le 55, 3) := by decide +kernel
theorem dX11_keep_264 : decode cX11_keep 264 = .ok (.aload_n 0, 1) := by decide +kernel
theorem dX11_keep_265 : decode cX11_keep 265 = .ok (.getfield 63, 3) := by decide +kernel
theorem dX11_keep_268 : decode cX11_keep 268 = .ok (.iload 7, 2) := by decide +kernel
theorem dX11_keep_270 : decode cX11_keep 270 = .ok (.iconst 1, 1) := by decide +kernel
theorem dX11_keep_271 : decode cX11_keep 271 = .ok (.isub, 1) := by decide +kernel
theorem dX11_keep_272 : decode cX11_keep 272 = .ok (.laload, 1) := by decide +kernel
theorem dX11_keep_273 : decode cX11_keep 273 = .ok (.lload_n 2, 1) := by decide +kernel
theorem dX11_keep_274 : decode cX11_keep 274 = .ok (.lcmp, 1) := by decide +kernel
theorem dX11_keep_275 : decode cX11_keep 275 = .ok (.ifCond .le 41, 3) := by decide +kernel
theorem dX11_keep_278 : decode cX11_keep 278 = .ok (.aload_n 0, 1) := by decide +kernel
theorem dX11_keep_279 : decode cX11_keep 279 = .ok (.getfield 63, 3) := by decide +kernel
theorem dX11_keep_282 : decode cX11_keep 282 = .ok (.iload 7, 2) := by decide +kernel
theorem dX11_keep_284 : decode cX11_keep 284 = .ok (.aload_n 0, 1) := by decide +kernel
theorem dX11_keep_285 : decode cX11_keep 285 = .ok (.getfield 63, 3) := by decide +kernel
theorem dX11_keep_288 : decode cX11_keep 288 = .ok (.iload 7, 2) := by decide +kernel
theorem dX11_keep_290 : decode cX11_keep 290 = .ok (.iconst 1, 1) := by decide +kernel
theorem dX11_keep_291 : decode cX11_keep 291 = .ok (.isub, 1) := by decide +kernel
theorem dX11_keep_292 : decode cX11_keep 292 = .ok (.laload, 1) := by decide +kernel
theorem dX11_keep_293 : decode cX11_keep 293 = .ok (.lastore, 1) := by decide +kernel
theorem dX11_keep_294 : decode cX11_keep 294 = .ok (.aload_n 0, 1) := by decide +kernel
theorem dX11_keep_295 : decode cX11_keep 295 = .ok (.getfield 66, 3) := by decide +kernel
theorem dX11_keep_298 : decode cX11_keep 298 = .ok (.iload 7, 2) := by decide +kernel
theorem dX11_keep_300 : decode cX11_keep 300 = .ok (.aload_n 0, 1) := by decide +kernel
theorem dX11_keep_301 : decode cX11_keep 301 = .ok (.getfield 66, 3) := by decide +kernel
theorem dX11_keep_304 : decode cX11_keep 304 = .ok (.iload 7, 2) := by decide +kernel
theorem dX11_keep_306 : decode cX11_keep 306 = .ok (.iconst 1, 1) := by decide +kernel
theorem dX11_keep_307 : decode cX11_keep 307 = .ok (.isub, 1) := by decide +kernel
theorem dX11_keep_308 : decode cX11_keep 308 = .ok (.iaload, 1) := by decide +kernel
theorem dX11_keep_309 : decode cX11_keep 309 = .ok (.iastore, 1) := by decide +kernel
theorem dX11_keep_310 : decode cX11_keep 310 = .ok (.iinc 7 (-1), 3) := by decide +kernel
theorem dX11_keep_313 : decode cX11_keep 313 = .ok (.goto (-58), 3) := by decide +kernel
theorem dX11_keep_316 : decode cX11_keep 316 = .ok (.aload_n 0, 1) := by decide +kernel
theorem dX11_keep_317 : decode cX11_keep 317 = .ok (.getfield 63, 3) := by decide +kernel
theorem dX11_keep_320 : decode cX11_keep 320 = .ok (.iload 7, 2) := by decide +kernel
theorem dX11_keep_322 : decode cX11_keep 322 = .ok (.lload_n 2, 1) := by decide +kernel
theorem dX11_keep_323 : decode cX11_keep 323 = .ok (.lastore, 1) := by decide +kernel
theorem dX11_keep_324 : decode cX11_keep 324 = .ok (.aload_n 0, 1) := by decide +kernel
theorem dX11_keep_325 : decode cX11_keep 325 = .ok (.getfield 66, 3) := by decide +kernel
theorem dX11_keep_328 : decode cX11_keep 328 = .ok (.iload 7, 2) := by decide +kernel
theorem dX11_keep_330 : decode cX11_keep 330 = .ok (.iload 6, 2) := by decide +kernel
theorem dX11_keep_332 : decode cX11_keep 332 = .ok (.iastore, 1) := by decide +kernel
theorem dX11_keep_333 : decode cX11_keep 333 = .ok (.aload_n 0, 1) := by decide +kernel
theorem dX11_keep_334 : decode cX11_keep 334 = .ok (.getfield 60, 3) := by decide +kernel
theorem dX11_keep_337 : decode cX11_keep 337 = .ok (.iload_n 1, 1) := by decide +kernel
theorem dX11_keep_338 : decode cX11_keep 338 = .ok (.dup2, 1) := by decide +kernel
theorem dX11_keep_339 : decode cX11_keep 339 = .ok (.iaload, 1) := by decide +kernel
theorem dX11_keep_340 : decode cX11_keep 340 = .ok (.iconst 1, 1) := by decide +kernel
theorem dX11_keep_341 : decode cX11_keep 341 = .ok (.iadd, 1) := by decide +kernel
theorem dX11_keep_342 : decode cX11_keep 342 = .ok (.iastore, 1) := by decide +kernel
theorem dX11_keep_343 : decode cX11_keep 343 = .ok (.aload_n 0, 1) := by decide +kernel
theorem dX11_keep_344 : decode cX11_keep 344 = .ok (.getfield 48, 3) := by decide +kernel
theorem dX11_keep_347 : decode cX11_keep 347 = .ok (.iload 6, 2) := by decide +kernel
theorem dX11_keep_349 : decode cX11_keep 349 = .ok (.iaload, 1) := by decide +kernel
theorem dX11_keep_350 : decode cX11_keep 350 = .ok (.ireturn, 1) := by decide +kernel
theorem dX11_find_0 : decode cX11_find 0 = .ok (.aload_n 0, 1) := by decide +kernel
theorem dX11_find_1 : decode cX11_find 1 = .ok (.iload_n 1, 1) := by decide +kernel
theorem dX11_find_2 : decode cX11_find 2 = .ok (.invokevirtual 287, 3) := by decide +kernel
theorem dX11_find_5 : decode cX11_find 5 = .ok (.ifCond .ne 6, 3) := by decide +kernel
theorem dX11_find_8 : decode cX11_find 8 = .ok (.bipush (-101), 2) := by decide +kernel
theorem dX11_find_10 : decode cX11_find 10 = .ok (.ireturn, 1) := by decide +kernel
theorem dX11_find_11 : decode cX11_find 11 = .ok (.lload_n 2, 1) := by decide +kernel
theorem dX11_find_12 : decode cX11_find 12 = .ok (.lconst 0, 1) := by decide +kernel
theorem dX11_find_13 : decode cX11_find 13 = .ok (.lcmp, 1) := by decide +kernel
theorem dX11_find_14 : decode cX11_find 14 = .ok (.ifCond .ge 6, 3) := by decide +kernel
theorem dX11_find_17 : decode cX11_find 17 = .ok (.bipush (-102), 2) := by decide +kernel
theorem dX11_find_19 : decode cX11_find 19 = .ok (.ireturn, 1) := by decide +kernel
theorem dX11_find_20 : decode cX11_find 20 = .ok (.aload_n 0, 1) := by decide +kernel
theorem dX11_find_21 : decode cX11_find 21 = .ok (.iload_n 1, 1) := by decide +kernel
theorem dX11_find_22 : decode cX11_find 22 = .ok (.lload_n 2, 1) := by decide +kernel
theorem dX11_find_23 : decode cX11_find 23 = .ok (.invokevirtual 290, 3) := by decide +kernel
theorem dX11_find_26 : decode cX11_find 26 = .ok (.istore 4, 2) := by decide +kernel
theorem dX11_find_28 : decode cX11_find 28 = .ok (.iload 4, 2) := by decide +kernel
theorem dX11_find_30 : decode cX11_find 30 = .ok (.iconst (-1), 1) := by decide +kernel
theorem dX11_find_31 : decode cX11_find 31 = .ok (.if_icmp .ne 7, 3) := by decide +kernel
theorem dX11_find_34 : decode cX11_find 34 = .ok (.iconst (-1), 1) := by decide +kernel
theorem dX11_find_35 : decode cX11_find 35 = .ok (.goto 15, 3) := by decide +kernel
theorem dX11_find_38 : decode cX11_find 38 = .ok (.aload_n 0, 1) := by decide +kernel
theorem dX11_find_39 : decode cX11_find 39 = .ok (.getfield 48, 3) := by decide +kernel
theorem dX11_find_42 : decode cX11_find 42 = .ok (.aload_n 0, 1) := by decide +kernel
theorem dX11_find_43 : decode cX11_find 43 = .ok (.getfield 66, 3) := by decide +kernel
theorem dX11_find_46 : decode cX11_find 46 = .ok (.iload 4, 2) := by decide +kernel
theorem dX11_find_48 : decode cX11_find 48 = .ok (.iaload, 1) := by decide +kernel
theorem dX11_find_49 : decode cX11_find 49 = .ok (.iaload, 1) := by decide +kernel
theorem dX11_find_50 : decode cX11_find 50 = .ok (.ireturn, 1) := by decide +kernel
theorem dX11_drop_0 : decode cX11_drop 0 = .ok (.aload_n 0, 1) := by decide +kernel
theorem dX11_drop_1 : decode cX11_drop 1 = .ok (.iload_n 1, 1) := by decide +kernel
theorem dX11_drop_2 : decode cX11_drop 2 = .ok (.invokevirtual 287, 3) := by decide +kernel
theorem dX11_drop_5 : decode cX11_drop 5 = .ok (.ifCond .ne 6, 3) := by decide +kernel
theorem dX11_drop_8 : decode cX11_drop 8 = .ok (.bipush (-101), 2) := by decide +kernel
theorem dX11_drop_10 : decode cX11_drop 10 = .ok (.ireturn, 1) := by decide +kernel
theorem dX11_drop_11 : decode cX11_drop 11 = .ok (.lload_n 2, 1) := by decide +kernel
theorem dX11_drop_12 : decode cX11_drop 12 = .ok (.lconst 0, 1) := by decide +kernel
theorem dX11_drop_13 : decode cX11_drop 13 = .ok (.lcmp, 1) := by decide +kernel
theorem dX11_drop_14 : decode cX11_drop 14 = .ok (.ifCond .ge 6, 3) := by decide +kernel
theorem dX11_drop_17 : decode cX11_drop 17 = .ok (.bipush (-102), 2) := by decide +kernel
theorem dX11_drop_19 : decode cX11_drop 19 = .ok (.ireturn, 1) := by decide +kernel
theorem dX11_drop_20 : decode cX11_drop 20 = .ok (.aload_n 0, 1) := by decide +kernel
theorem dX11_drop_21 : decode cX11_drop 21 = .ok (.iload_n 1, 1) := by decide +kernel
theorem dX11_drop_22 : decode cX11_drop 22 = .ok (.lload_n 2, 1) := by decide +kernel
theorem dX11_drop_23 : decode cX11_drop 23 = .ok (.invokevirtual 290, 3) := by decide +kernel
theorem dX11_drop_26 : decode cX11_drop 26 = .ok (.istore 4, 2) := by decide +kernel
theorem dX11_drop_28 : decode cX11_drop 28 = .ok (.iload 4, 2) := by decide +kernel
theorem dX11_drop_30 : decode cX11_drop 30 = .ok (.iconst (-1), 1) := by decide +kernel
theorem dX11_drop_31 : decode cX11_drop 31 = .ok (.if_icmp .ne 5, 3) := by decide +kernel
theorem dX11_drop_34 : decode cX11_drop 34 = .ok (.iconst (-1), 1) := by decide +kernel
theorem dX11_drop_35 : decode cX11_drop 35 = .ok (.ireturn, 1) := by decide +kernel
theorem dX11_drop_36 : decode cX11_drop 36 = .ok (.aload_n 0, 1) := by decide +kernel
theorem dX11_drop_37 : decode cX11_drop 37 = .ok (.getfield 48, 3) := by decide +kernel
theorem dX11_drop_40 : decode cX11_drop 40 = .ok (.aload_n 0, 1) := by decide +kernel
theorem dX11_drop_41 : decode cX11_drop 41 = .ok (.getfield 66, 3) := by decide +kernel
theorem dX11_drop_44 : decode cX11_drop 44 = .ok (.iload 4, 2) := by decide +kernel
theorem dX11_drop_46 : decode cX11_drop 46 = .ok (.iaload, 1) := by decide +kernel
theorem dX11_drop_47 : decode cX11_drop 47 = .ok (.iaload, 1) := by decide +kernel
theorem dX11_drop_48 : decode cX11_drop 48 = .ok (.istore 5, 2) := by decide +kernel
theorem dX11_drop_50 : decode cX11_drop 50 = .ok (.aload_n 0, 1) := by decide +kernel
theorem dX11_drop_51 : decode cX11_drop 51 = .ok (.aload_n 0, 1) := by decide +kernel
theorem dX11_drop_52 : decode cX11_drop 52 = .ok (.getfield 66, 3) := by decide +kernel
theorem dX11_drop_55 : decode cX11_drop 55 = .ok (.iload 4, 2) := by decide +kernel
theorem dX11_drop_57 : decode cX11_drop 57 = .ok (.iaload, 1) := by decide +kernel
theorem dX11_drop_58 : decode cX11_drop 58 = .ok (.invokevirtual 303, 3) := by decide +kernel
theorem dX11_drop_61 : decode cX11_drop 61 = .ok (.aload_n 0, 1) := by decide +kernel
theorem dX11_drop_62 : decode cX11_drop 62 = .ok (.getfield 60, 3) := by decide +kernel
theorem dX11_drop_65 : decode cX11_drop 65 = .ok (.iload_n 1, 1) := by decide +kernel
theorem dX11_drop_66 : decode cX11_drop 66 = .ok (.dup2, 1) := by decide +kernel
theorem dX11_drop_67 : decode cX11_drop 67 = .ok (.iaload, 1) := by decide +kernel
theorem dX11_drop_68 : decode cX11_drop 68 = .ok (.iconst 1, 1) := by decide +kernel
theorem dX11_drop_69 : decode cX11_drop 69 = .ok (.isub, 1) := by decide +kernel
theorem dX11_drop_70 : decode cX11_drop 70 = .ok (.iastore, 1) := by decide +kernel
theorem dX11_drop_71 : decode cX11_drop 71 = .ok (.iload 4, 2) := by decide +kernel
theorem dX11_drop_73 : decode cX11_drop 73 = .ok (.istore 6, 2) := by decide +kernel
theorem dX11_drop_75 : decode cX11_drop 75 = .ok (.iload 6, 2) := by decide +kernel
theorem dX11_drop_77 : decode cX11_drop 77 = .ok (.bipush 12, 2) := by decide +kernel
theorem dX11_drop_79 : decode cX11_drop 79 = .ok (.iload_n 1, 1) := by decide +kernel
theorem dX11_drop_80 : decode cX11_drop 80 = .ok (.imul, 1) := by decide +kernel
theorem dX11_drop_81 : decode cX11_drop 81 = .ok (.aload_n 0, 1) := by decide +kernel
theorem dX11_drop_82 : decode cX11_drop 82 = .ok (.getfield 60, 3) := by decide +kernel
theorem dX11_drop_85 : decode cX11_drop 85 = .ok (.iload_n 1, 1) := by decide +kernel
theorem dX11_drop_86 : decode cX11_drop 86 = .ok (.iaload, 1) := by decide +kernel
theorem dX11_drop_87 : decode cX11_drop 87 = .ok (.iadd, 1) := by decide +kernel
theorem dX11_drop_88 : decode cX11_drop 88 = .ok (.if_icmp .ge 41, 3) := by decide +kernel
theorem dX11_drop_91 : decode cX11_drop 91 = .ok (.aload_n 0, 1) := by decide +kernel
theorem dX11_drop_92 : decode cX11_drop 92 = .ok (.getfield 63, 3) := by decide +kernel
theorem dX11_drop_95 : decode cX11_drop 95 = .ok (.iload 6, 2) := by decide +kernel
theorem dX11_drop_97 : decode cX11_drop 97 = .ok (.aload_n 0, 1) := by decide +kernel
theorem dX11_drop_98 : decode cX11_drop 98 = .ok (.getfield 63, 3) := by decide +kernel
theorem dX11_drop_101 : decode cX11_drop 101 = .ok (.iload 6, 2) := by decide +kernel
theorem dX11_drop_103 : decode cX11_drop 103 = .ok (.iconst 1, 1) := by decide +kernel
theorem dX11_drop_104 : decode cX11_drop 104 = .ok (.iadd, 1) := by decide +kernel
theorem dX11_drop_105 : decode cX11_drop 105 = .ok (.laload, 1) := by decide +kernel
theorem dX11_drop_106 : decode cX11_drop 106 = .ok (.lastore, 1) := by decide +kernel
theorem dX11_drop_107 : decode cX11_drop 107 = .ok (.aload_n 0, 1) := by decide +kernel
theorem dX11_drop_108 : decode cX11_drop 108 = .ok (.getfield 66, 3) := by decide +kernel
theorem dX11_drop_111 : decode cX11_drop 111 = .ok (.iload 6, 2) := by decide +kernel
theorem dX11_drop_113 : decode cX11_drop 113 = .ok (.aload_n 0, 1) := by decide +kernel
theorem dX11_drop_114 : decode cX11_drop 114 = .ok (.getfield 66, 3) := by decide +kernel
theorem dX11_drop_117 : decode cX11_drop 117 = .ok (.iload 6, 2) := by decide +kernel
theorem dX11_drop_119 : decode cX11_drop 119 = .ok (.iconst 1, 1) := by decide +kernel
theorem dX11_drop_120 : decode cX11_drop 120 = .ok (.iadd, 1) := by decide +kernel
theorem dX11_drop_121 : decode cX11_drop 121 = .ok (.iaload, 1) := by decide +kernel
theorem dX11_drop_122 : decode cX11_drop 122 = .ok (.iastore, 1) := by decide +kernel
theorem dX11_drop_123 : decode cX11_drop 123 = .ok (.iinc 6 1, 3) := by decide +kernel
theorem dX11_drop_126 : decode cX11_drop 126 = .ok (.goto (-51), 3) := by decide +kernel
theorem dX11_drop_129 : decode cX11_drop 129 = .ok (.iload 5, 2) := by decide +kernel
theorem dX11_drop_131 : decode cX11_drop 131 = .ok (.ireturn, 1) := by decide +kernel
theorem dX11_list_0 : decode cX11_list 0 = .ok (.aload_n 0, 1) := by decide +kernel
theorem dX11_list_1 : decode cX11_list 1 = .ok (.iload_n 1, 1) := by decide +kernel
theorem dX11_list_2 : decode cX11_list 2 = .ok (.invokevirtual 287, 3) := by decide +kernel
theorem dX11_list_5 : decode cX11_list 5 = .ok (.ifCond .ne 6, 3) := by decide +kernel
theorem dX11_list_8 : decode cX11_list 8 = .ok (.bipush (-101), 2) := by decide +kernel
theorem dX11_list_10 : decode cX11_list 10 = .ok (.ireturn, 1) := by decide +kernel
theorem dX11_list_11 : decode cX11_list 11 = .ok (.iload_n 2, 1) := by decide +kernel
theorem dX11_list_12 : decode cX11_list 12 = .ok (.i2l, 1) := by decide +kernel
theorem dX11_list_13 : decode cX11_list 13 = .ok (.lconst 0, 1) := by decide +kernel
theorem dX11_list_14 : decode cX11_list 14 = .ok (.aload_n 0, 1) := by decide +kernel
theorem dX11_list_15 : decode cX11_list 15 = .ok (.getfield 60, 3) := by decide +kernel
theorem dX11_list_18 : decode cX11_list 18 = .ok (.iload_n 1, 1) := by decide +kernel
theorem dX11_list_19 : decode cX11_list 19 = .ok (.iaload, 1) := by decide +kernel
theorem dX11_list_20 : decode cX11_list 20 = .ok (.iconst 1, 1) := by decide +kernel
theorem dX11_list_21 : decode cX11_list 21 = .ok (.isub, 1) := by decide +kernel
theorem dX11_list_22 : decode cX11_list 22 = .ok (.i2l, 1) := by decide +kernel
theorem dX11_list_23 : decode cX11_list 23 = .ok (.invokestatic 140, 3) := by decide +kernel
theorem dX11_list_26 : decode cX11_list 26 = .ok (.ifCond .ne 9, 3) := by decide +kernel
theorem dX11_list_29 : decode cX11_list 29 = .ok (.aload_n 0, 1) := by decide +kernel
theorem dX11_list_30 : decode cX11_list 30 = .ok (.iconst 2, 1) := by decide +kernel
theorem dX11_list_31 : decode cX11_list 31 = .ok (.invokevirtual 146, 3) := by decide +kernel
theorem dX11_list_34 : decode cX11_list 34 = .ok (.ireturn, 1) := by decide +kernel
theorem dX11_list_35 : decode cX11_list 35 = .ok (.aload_n 0, 1) := by decide +kernel
theorem dX11_list_36 : decode cX11_list 36 = .ok (.aload_n 0, 1) := by decide +kernel
theorem dX11_list_37 : decode cX11_list 37 = .ok (.getfield 63, 3) := by decide +kernel
theorem dX11_list_40 : decode cX11_list 40 = .ok (.bipush 12, 2) := by decide +kernel
theorem dX11_list_42 : decode cX11_list 42 = .ok (.iload_n 1, 1) := by decide +kernel
theorem dX11_list_43 : decode cX11_list 43 = .ok (.imul, 1) := by decide +kernel
theorem dX11_list_44 : decode cX11_list 44 = .ok (.iload_n 2, 1) := by decide +kernel
theorem dX11_list_45 : decode cX11_list 45 = .ok (.iadd, 1) := by decide +kernel
theorem dX11_list_46 : decode cX11_list 46 = .ok (.laload, 1) := by decide +kernel
theorem dX11_list_47 : decode cX11_list 47 = .ok (.putfield 161, 3) := by decide +kernel
theorem dX11_list_50 : decode cX11_list 50 = .ok (.aload_n 0, 1) := by decide +kernel
theorem dX11_list_51 : decode cX11_list 51 = .ok (.getfield 60, 3) := by decide +kernel
theorem dX11_list_54 : decode cX11_list 54 = .ok (.iload_n 1, 1) := by decide +kernel
theorem dX11_list_55 : decode cX11_list 55 = .ok (.iaload, 1) := by decide +kernel
theorem dX11_list_56 : decode cX11_list 56 = .ok (.ireturn, 1) := by decide +kernel
theorem dX11_take_0 : decode cX11_take 0 = .ok (.aload_n 0, 1) := by decide +kernel
theorem dX11_take_1 : decode cX11_take 1 = .ok (.iload_n 1, 1) := by decide +kernel
theorem dX11_take_2 : decode cX11_take 2 = .ok (.invokevirtual 287, 3) := by decide +kernel
theorem dX11_take_5 : decode cX11_take 5 = .ok (.ifCond .ne 6, 3) := by decide +kernel
theorem dX11_take_8 : decode cX11_take 8 = .ok (.bipush (-101), 2) := by decide +kernel
theorem dX11_take_10 : decode cX11_take 10 = .ok (.ireturn, 1) := by decide +kernel
theorem dX11_take_11 : decode cX11_take 11 = .ok (.lload_n 2, 1) := by decide +kernel
theorem dX11_take_12 : decode cX11_take 12 = .ok (.lconst 0, 1) := by decide +kernel
theorem dX11_take_13 : decode cX11_take 13 = .ok (.lcmp, 1) := by decide +kernel
theorem dX11_take_14 : decode cX11_take 14 = .ok (.ifCond .ge 6, 3) := by decide +kernel
theorem dX11_take_17 : decode cX11_take 17 = .ok (.bipush (-102), 2) := by decide +kernel
theorem dX11_take_19 : decode cX11_take 19 = .ok (.ireturn, 1) := by decide +kernel
theorem dX11_take_20 : decode cX11_take 20 = .ok (.aload_n 0, 1) := by decide +kernel
theorem dX11_take_21 : decode cX11_take 21 = .ok (.iload_n 1, 1) := by decide +kernel
theorem dX11_take_22 : decode cX11_take 22 = .ok (.lload_n 2, 1) := by decide +kernel
theorem dX11_take_23 : decode cX11_take 23 = .ok (.invokevirtual 290, 3) := by decide +kernel
theorem dX11_take_26 : decode cX11_take 26 = .ok (.istore 4, 2) := by decide +kernel
theorem dX11_take_28 : decode cX11_take 28 = .ok (.iload 4, 2) := by decide +kernel
theorem dX11_take_30 : decode cX11_take 30 = .ok (.iconst (-1), 1) := by decide +kernel
theorem dX11_take_31 : decode cX11_take 31 = .ok (.if_icmp .ne 6, 3) := by decide +kernel
theorem dX11_take_34 : decode cX11_take 34 = .ok (.bipush (-103), 2) := by decide +kernel
theorem dX11_take_36 : decode cX11_take 36 = .ok (.ireturn, 1) := by decide +kernel
theorem dX11_take_37 : decode cX11_take 37 = .ok (.aload_n 0, 1) := by decide +kernel
theorem dX11_take_38 : decode cX11_take 38 = .ok (.getfield 239, 3) := by decide +kernel
theorem dX11_take_41 : decode cX11_take 41 = .ok (.bipush 24, 2) := by decide +kernel
theorem dX11_take_43 : decode cX11_take 43 = .ok (.if_icmp .ne 6, 3) := by decide +kernel
theorem dX11_take_46 : decode cX11_take 46 = .ok (.bipush (-104), 2) := by decide +kernel
theorem dX11_take_48 : decode cX11_take 48 = .ok (.ireturn, 1) := by decide +kernel
theorem dX11_take_49 : decode cX11_take 49 = .ok (.aload_n 0, 1) := by decide +kernel
theorem dX11_take_50 : decode cX11_take 50 = .ok (.invokevirtual 243, 3) := by decide +kernel
theorem dX11_take_53 : decode cX11_take 53 = .ok (.istore 5, 2) := by decide +kernel
theorem dX11_take_55 : decode cX11_take 55 = .ok (.aload_n 0, 1) := by decide +kernel
theorem dX11_take_56 : decode cX11_take 56 = .ok (.getfield 66, 3) := by decide +kernel
theorem dX11_take_59 : decode cX11_take 59 = .ok (.iload 4, 2) := by decide +kernel
theorem dX11_take_61 : decode cX11_take 61 = .ok (.iaload, 1) := by decide +kernel
theorem dX11_take_62 : decode cX11_take 62 = .ok (.istore 6, 2) := by decide +kernel
theorem dX11_take_64 : decode cX11_take 64 = .ok (.iconst 0, 1) := by decide +kernel
theorem dX11_take_65 : decode cX11_take 65 = .ok (.istore 7, 2) := by decide +kernel
theorem dX11_take_67 : decode cX11_take 67 = .ok (.iload 7, 2) := by decide +kernel
theorem dX11_take_69 : decode cX11_take 69 = .ok (.aload_n 0, 1) := by decide +kernel
theorem dX11_take_70 : decode cX11_take 70 = .ok (.getfield 51, 3) := by decide +kernel
theorem dX11_take_73 : decode cX11_take 73 = .ok (.iload 6, 2) := by decide +kernel
theorem dX11_take_75 : decode cX11_take 75 = .ok (.iaload, 1) := by decide +kernel
theorem dX11_take_76 : decode cX11_take 76 = .ok (.if_icmp .ge 29, 3) := by decide +kernel
theorem dX11_take_79 : decode cX11_take 79 = .ok (.aload_n 0, 1) := by decide +kernel
theorem dX11_take_80 : decode cX11_take 80 = .ok (.iload 5, 2) := by decide +kernel
theorem dX11_take_82 : decode cX11_take 82 = .ok (.aload_n 0, 1) := by decide +kernel
theorem dX11_take_83 : decode cX11_take 83 = .ok (.getfield 57, 3) := by decide +kernel
theorem dX11_take_86 : decode cX11_take 86 = .ok (.sipush 400, 3) := by decide +kernel
theorem dX11_take_89 : decode cX11_take 89 = .ok (.iload 6, 2) := by decide +kernel
theorem dX11_take_91 : decode cX11_take 91 = .ok (.imul, 1) := by decide +kernel
theorem dX11_take_92 : decode cX11_take 92 = .ok (.iload 7, 2) := by decide +kernel
theorem dX11_take_94 : decode cX11_take 94 = .ok (.iadd, 1) := by decide +kernel
theorem dX11_take_95 : decode cX11_take 95 = .ok (.iaload, 1) := by decide +kernel
theorem dX11_take_96 : decode cX11_take 96 = .ok (.invokevirtual 256, 3) := by decide +kernel
theorem dX11_take_99 : decode cX11_take 99 = .ok (.iinc 7 1, 3) := by decide +kernel
theorem dX11_take_102 : decode cX11_take 102 = .ok (.goto (-35), 3) := by decide +kernel
theorem dX11_take_105 : decode cX11_take 105 = .ok (.aload_n 0, 1) := by decide +kernel
theorem dX11_take_106 : decode cX11_take 106 = .ok (.getfield 45, 3) := by decide +kernel
theorem dX11_take_109 : decode cX11_take 109 = .ok (.iload 5, 2) := by decide +kernel
theorem dX11_take_111 : decode cX11_take 111 = .ok (.iconst 1, 1) := by decide +kernel
theorem dX11_take_112 : decode cX11_take 112 = .ok (.bastore, 1) := by decide +kernel
theorem dX11_take_113 : decode cX11_take 113 = .ok (.iload 5, 2) := by decide +kernel
theorem dX11_take_115 : decode cX11_take 115 = .ok (.ireturn, 1) := by decide +kernel
theorem dX11_uses_0 : decode cX11_uses 0 = .ok (.iconst 0, 1) := by decide +kernel
theorem dX11_uses_1 : decode cX11_uses 1 = .ok (.istore_n 2, 1) := by decide +kernel
theorem dX11_uses_2 : decode cX11_uses 2 = .ok (.iconst 0, 1) := by decide +kernel
theorem dX11_uses_3 : decode cX11_uses 3 = .ok (.istore_n 3, 1) := by decide +kernel
theorem dX11_uses_4 : decode cX11_uses 4 = .ok (.iload_n 3, 1) := by decide +kernel
theorem dX11_uses_5 : decode cX11_uses 5 = .ok (.bipush 30, 2) := by decide +kernel
theorem dX11_uses_7 : decode cX11_uses 7 = .ok (.if_icmp .ge 34, 3) := by decide +kernel
theorem dX11_uses_10 : decode cX11_uses 10 = .ok (.iload_n 1, 1) := by decide +kernel
theorem dX11_uses_11 : decode cX11_uses 11 = .ok (.ifCond .lt 22, 3) := by decide +kernel
theorem dX11_uses_14 : decode cX11_uses 14 = .ok (.aload_n 0, 1) := by decide +kernel
theorem dX11_uses_15 : decode cX11_uses 15 = .ok (.getfield 48, 3) := by decide +kernel
theorem dX11_uses_18 : decode cX11_uses 18 = .ok (.iload_n 3, 1) := by decide +kernel
theorem dX11_uses_19 : decode cX11_uses 19 = .ok (.iaload, 1) := by decide +kernel
theorem dX11_uses_20 : decode cX11_uses 20 = .ok (.iload_n 1, 1) := by decide +kernel
theorem dX11_uses_21 : decode cX11_uses 21 = .ok (.if_icmp .ne 12, 3) := by decide +kernel
theorem dX11_uses_24 : decode cX11_uses 24 = .ok (.aload_n 0, 1) := by decide +kernel
theorem dX11_uses_25 : decode cX11_uses 25 = .ok (.getfield 54, 3) := by decide +kernel
theorem dX11_uses_28 : decode cX11_uses 28 = .ok (.iload_n 3, 1) := by decide +kernel
theorem dX11_uses_29 : decode cX11_uses 29 = .ok (.iaload, 1) := by decide +kernel
theorem dX11_uses_30 : decode cX11_uses 30 = .ok (.goto 4, 3) := by decide +kernel
theorem dX11_uses_33 : decode cX11_uses 33 = .ok (.iload_n 2, 1) := by decide +kernel
theorem dX11_uses_34 : decode cX11_uses 34 = .ok (.istore_n 2, 1) := by decide +kernel
theorem dX11_uses_35 : decode cX11_uses 35 = .ok (.iinc 3 1, 3) := by decide +kernel
theorem dX11_uses_38 : decode cX11_uses 38 = .ok (.goto (-34), 3) := by decide +kernel
theorem dX11_uses_41 : decode cX11_uses 41 = .ok (.iload_n 2, 1) := by decide +kernel
theorem dX11_uses_42 : decode cX11_uses 42 = .ok (.ireturn, 1) := by decide +kernel
theorem dX11_isDelta_0 : decode cX11_isDelta 0 = .ok (.iload_n 1, 1) := by decide +kernel
theorem dX11_isDelta_1 : decode cX11_isDelta 1 = .ok (.i2l, 1) := by decide +kernel
theorem dX11_isDelta_2 : decode cX11_isDelta 2 = .ok (.lconst 0, 1) := by decide +kernel
theorem dX11_isDelta_3 : decode cX11_isDelta 3 = .ok (.aload_n 0, 1) := by decide +kernel
theorem dX11_isDelta_4 : decode cX11_isDelta 4 = .ok (.getfield 306, 3) := by decide +kernel
theorem dX11_isDelta_7 : decode cX11_isDelta 7 = .ok (.iconst 1, 1) := by decide +kernel
theorem dX11_isDelta_8 : decode cX11_isDelta 8 = .ok (.isub, 1) := by decide +kernel
theorem dX11_isDelta_9 : decode cX11_isDelta 9 = .ok (.i2l, 1) := by decide +kernel
theorem dX11_isDelta_10 : decode cX11_isDelta 10 = .ok (.invokestatic 140, 3) := by decide +kernel
theorem dX11_isDelta_13 : decode cX11_isDelta 13 = .ok (.ireturn, 1) := by decide +kernel
theorem dX11_matching_0 : decode cX11_matching 0 = .ok (.iconst 0, 1) := by decide +kernel
theorem dX11_matching_1 : decode cX11_matching 1 = .ok (.istore 5, 2) := by decide +kernel
theorem dX11_matching_3 : decode cX11_matching 3 = .ok (.iload_n 2, 1) := by decide +kernel
theorem dX11_matching_4 : decode cX11_matching 4 = .ok (.iload 5, 2) := by decide +kernel
theorem dX11_matching_6 : decode cX11_matching 6 = .ok (.iadd, 1) := by decide +kernel
theorem dX11_matching_7 : decode cX11_matching 7 = .ok (.aload_n 0, 1) := by decide +kernel
theorem dX11_matching_8 : decode cX11_matching 8 = .ok (.getfield 39, 3) := by decide +kernel
theorem dX11_matching_11 : decode cX11_matching 11 = .ok (.iload_n 1, 1) := by decide +kernel
theorem dX11_matching_12 : decode cX11_matching 12 = .ok (.iaload, 1) := by decide +kernel
theorem dX11_matching_13 : decode cX11_matching 13 = .ok (.if_icmp .ge 57, 3) := by decide +kernel
theorem dX11_matching_16 : decode cX11_matching 16 = .ok (.iload 4, 2) := by decide +kernel
theorem dX11_matching_18 : decode cX11_matching 18 = .ok (.iload 5, 2) := by decide +kernel
theorem dX11_matching_20 : decode cX11_matching 20 = .ok (.iadd, 1) := by decide +kernel
theorem dX11_matching_21 : decode cX11_matching 21 = .ok (.aload_n 0, 1) := by decide +kernel
theorem dX11_matching_22 : decode cX11_matching 22 = .ok (.getfield 39, 3) := by decide +kernel
theorem dX11_matching_25 : decode cX11_matching 25 = .ok (.iload_n 3, 1) := by decide +kernel
theorem dX11_matching_26 : decode cX11_matching 26 = .ok (.iaload, 1) := by decide +kernel
theorem dX11_matching_27 : decode cX11_matching 27 = .ok (.if_icmp .ge 43, 3) := by decide +kernel
theorem dX11_matching_30 : decode cX11_matching 30 = .ok (.aload_n 0, 1) := by decide +kernel
theorem dX11_matching_31 : decode cX11_matching 31 = .ok (.getfield 36, 3) := by decide +kernel
theorem dX11_matching_34 : decode cX11_matching 34 = .ok (.sipush 400, 3) := by decide +kernel
theorem dX11_matching_37 : decode cX11_matching 37 = .ok (.iload_n 1, 1) := by decide +kernel
theorem dX11_matching_38 : decode cX11_matching 38 = .ok (.imul, 1) := by decide +kernel
theorem dX11_matching_39 : decode cX11_matching 39 = .ok (.iload_n 2, 1) := by decide +kernel
theorem dX11_matching_40 : decode cX11_matching 40 = .ok (.iadd, 1) := by decide +kernel
theorem dX11_matching_41 : decode cX11_matching 41 = .ok (.iload 5, 2) := by decide +kernel
theorem dX11_matching_43 : decode cX11_matching 43 = .ok (.iadd, 1) := by decide +kernel
theorem dX11_matching_44 : decode cX11_matching 44 = .ok (.iaload, 1) := by decide +kernel
theorem dX11_matching_45 : decode cX11_matching 45 = .ok (.aload_n 0, 1) := by decide +kernel
theorem dX11_matching_46 : decode cX11_matching 46 = .ok (.getfield 36, 3) := by decide +kernel
theorem dX11_matching_49 : decode cX11_matching 49 = .ok (.sipush 400, 3) := by decide +kernel
theorem dX11_matching_52 : decode cX11_matching 52 = .ok (.iload_n 3, 1) := by decide +kernel
theorem dX11_matching_53 : decode cX11_matching 53 = .ok (.imul, 1) := by decide +kernel
theorem dX11_matching_54 : decode cX11_matching 54 = .ok (.iload 4, 2) := by decide +kernel
theorem dX11_matching_56 : decode cX11_matching 56 = .ok (.iadd, 1) := by decide +kernel
theorem dX11_matching_57 : decode cX11_matching 57 = .ok (.iload 5, 2) := by decide +kernel
theorem dX11_matching_59 : decode cX11_matching 59 = .ok (.iadd, 1) := by decide +kernel
theorem dX11_matching_60 : decode cX11_matching 60 = .ok (.iaload, 1) := by decide +kernel
theorem dX11_matching_61 : decode cX11_matching 61 = .ok (.if_icmp .ne 9, 3) := by decide +kernel
theorem dX11_matching_64 : decode cX11_matching 64 = .ok (.iinc 5 1, 3) := by decide +kernel
theorem dX11_matching_67 : decode cX11_matching 67 = .ok (.goto (-64), 3) := by decide +kernel
theorem dX11_matching_70 : decode cX11_matching 70 = .ok (.iload 5, 2) := by decide +kernel
theorem dX11_matching_72 : decode cX11_matching 72 = .ok (.ireturn, 1) := by decide +kernel
theorem dX11_delta_0 : decode cX11_delta 0 = .ok (.aload_n 0, 1) := by decide +kernel
theorem dX11_delta_1 : decode cX11_delta 1 = .ok (.iload_n 1, 1) := by decide +kernel
theorem dX11_delta_2 : decode cX11_delta 2 = .ok (.invokevirtual 247, 3) := by decide +kernel
theorem dX11_delta_5 : decode cX11_delta 5 = .ok (.ifCond .eq 11, 3) := by decide +kernel
theorem dX11_delta_8 : decode cX11_delta 8 = .ok (.aload_n 0, 1) := by decide +kernel
theorem dX11_delta_9 : decode cX11_delta 9 = .ok (.iload_n 2, 1) := by decide +kernel
theorem dX11_delta_10 : decode cX11_delta 10 = .ok (.invokevirtual 247, 3) := by decide +kernel
theorem dX11_delta_13 : decode cX11_delta 13 = .ok (.ifCond .ne 6, 3) := by decide +kernel
theorem dX11_delta_16 : decode cX11_delta 16 = .ok (.bipush (-101), 2) := by decide +kernel
theorem dX11_delta_18 : decode cX11_delta 18 = .ok (.ireturn, 1) := by decide +kernel
theorem dX11_delta_19 : decode cX11_delta 19 = .ok (.aload_n 0, 1) := by decide +kernel
theorem dX11_delta_20 : decode cX11_delta 20 = .ok (.getfield 306, 3) := by decide +kernel
theorem dX11_delta_23 : decode cX11_delta 23 = .ok (.bipush 16, 2) := by decide +kernel
theorem dX11_delta_25 : decode cX11_delta 25 = .ok (.if_icmp .ne 6, 3) := by decide +kernel
theorem dX11_delta_28 : decode cX11_delta 28 = .ok (.bipush (-104), 2) := by decide +kernel
theorem dX11_delta_30 : decode cX11_delta 30 = .ok (.ireturn, 1) := by decide +kernel
theorem dX11_delta_31 : decode cX11_delta 31 = .ok (.aload_n 0, 1) := by decide +kernel
theorem dX11_delta_32 : decode cX11_delta 32 = .ok (.getfield 306, 3) := by decide +kernel
theorem dX11_delta_35 : decode cX11_delta 35 = .ok (.istore_n 3, 1) := by decide +kernel
theorem dX11_delta_36 : decode cX11_delta 36 = .ok (.iconst 0, 1) := by decide +kernel
theorem dX11_delta_37 : decode cX11_delta 37 = .ok (.istore 4, 2) := by decide +kernel
theorem dX11_delta_39 : decode cX11_delta 39 = .ok (.iconst 0, 1) := by decide +kernel
theorem dX11_delta_40 : decode cX11_delta 40 = .ok (.istore 5, 2) := by decide +kernel
theorem dX11_delta_42 : decode cX11_delta 42 = .ok (.iconst 0, 1) := by decide +kernel
theorem dX11_delta_43 : decode cX11_delta 43 = .ok (.istore 6, 2) := by decide +kernel
theorem dX11_delta_45 : decode cX11_delta 45 = .ok (.iload 6, 2) := by decide +kernel
theorem dX11_delta_47 : decode cX11_delta 47 = .ok (.aload_n 0, 1) := by decide +kernel
theorem dX11_delta_48 : decode cX11_delta 48 = .ok (.getfield 39, 3) := by decide +kernel
theorem dX11_delta_51 : decode cX11_delta 51 = .ok (.iload_n 2, 1) := by decide +kernel
theorem dX11_delta_52 : decode cX11_delta 52 = .ok (.iaload, 1) := by decide +kernel
theorem dX11_delta_53 : decode cX11_delta 53 = .ok (.if_icmp .ge 214, 3) := by decide +kernel
theorem dX11_delta_56 : decode cX11_delta 56 = .ok (.iconst (-1), 1) := by decide +kernel
theorem dX11_delta_57 : decode cX11_delta 57 = .ok (.istore 7, 2) := by decide +kernel
theorem dX11_delta_59 : decode cX11_delta 59 = .ok (.iconst 3, 1) := by decide +kernel
theorem dX11_delta_60 : decode cX11_delta 60 = .ok (.istore 8, 2) := by decide +kernel
theorem dX11_delta_62 : decode cX11_delta 62 = .ok (.iconst 0, 1) := by decide +kernel
theorem dX11_delta_63 : decode cX11_delta 63 = .ok (.istore 9, 2) := by decide +kernel
theorem dX11_delta_65 : decode cX11_delta 65 = .ok (.iload 9, 2) := by decide +kernel
theorem dX11_delta_67 : decode cX11_delta 67 = .ok (.aload_n 0, 1) := by decide +kernel
theorem dX11_delta_68 : decode cX11_delta 68 = .ok (.getfield 39, 3) := by decide +kernel
theorem dX11_delta_71 : decode cX11_delta 71 = .ok (.iload_n 1, 1) := by decide +kernel
theorem dX11_delta_72 : decode cX11_delta 72 = .ok (.iaload, 1) := by decide +kernel
theorem dX11_delta_73 : decode cX11_delta 73 = .ok (.if_icmp .ge 36, 3) := by decide +kernel
theorem dX11_delta_76 : decode cX11_delta 76 = .ok (.aload_n 0, 1) := by decide +kernel
theorem dX11_delta_77 : decode cX11_delta 77 = .ok (.iload_n 1, 1) := by decide +kernel
theorem dX11_delta_78 : decode cX11_delta 78 = .ok (.iload 9, 2) := by decide +kernel
theorem dX11_delta_80 : decode cX11_delta 80 = .ok (.iload_n 2, 1) := by decide +kernel
theorem dX11_delta_81 : decode cX11_delta 81 = .ok (.iload 6, 2) := by decide +kernel
theorem dX11_delta_83 : decode cX11_delta 83 = .ok (.invokevirtual 309, 3) := by decide +kernel
theorem dX11_delta_86 : decode cX11_delta 86 = .ok (.istore 10, 2) := by decide +kernel
theorem dX11_delta_88 : decode cX11_delta 88 = .ok (.iload 10, 2) := by decide +kernel
theorem dX11_delta_90 : decode cX11_delta 90 = .ok (.iload 8, 2) := by decide +kernel
theorem dX11_delta_92 : decode cX11_delta 92 = .ok (.if_icmp .le 11, 3) := by decide +kernel
theorem dX11_delta_95 : decode cX11_delta 95 = .ok (.iload 10, 2) := by decide +kernel
theorem dX11_delta_97 : decode cX11_delta 97 = .ok (.istore 8, 2) := by decide +kernel
theorem dX11_delta_99 : decode cX11_delta 99 = .ok (.iload 9, 2) := by decide +kernel
theorem dX11_delta_101 : decode cX11_delta 101 = .ok (.istore 7, 2) := by decide +kernel
theorem dX11_delta_103 : decode cX11_delta 103 = .ok (.iinc 9 1, 3) := by decide +kernel
theorem dX11_delta_106 : decode cX11_delta 106 = .ok (.goto (-41), 3) := by decide +kernel
theorem dX11_delta_109 : decode cX11_delta 109 = .ok (.iload 7, 2) := by decide +kernel
theorem dX11_delta_111 : decode cX11_delta 111 = .ok (.iconst (-1), 1) := by decide +kernel
theorem dX11_delta_112 : decode cX11_delta 112 = .ok (.if_icmp .eq 46, 3) := by decide +kernel
theorem dX11_delta_115 : decode cX11_delta 115 = .ok (.aload_n 0, 1) := by decide +kernel
theorem dX11_delta_116 : decode cX11_delta 116 = .ok (.getfield 78, 3) := by decide +kernel
theorem dX11_delta_119 : decode cX11_delta 119 = .ok (.sipush 400, 3) := by decide +kernel
theorem dX11_delta_122 : decode cX11_delta 122 = .ok (.iload_n 3, 1) := by decide +kernel
theorem dX11_delta_123 : decode cX11_delta 123 = .ok (.imul, 1) := by decide +kernel
theorem dX11_delta_124 : decode cX11_delta 124 = .ok (.iload 4, 2) := by decide +kernel
theorem dX11_delta_126 : decode cX11_delta 126 = .ok (.iadd, 1) := by decide +kernel
theorem dX11_delta_127 : decode cX11_delta 127 = .ok (.iload 7, 2) := by decide +kernel
theorem dX11_delta_129 : decode cX11_delta 129 = .ok (.iastore, 1) := by decide +kernel
theorem dX11_delta_130 : decode cX11_delta 130 = .ok (.aload_n 0, 1) := by decide +kernel
theorem dX11_delta_131 : decode cX11_delta 131 = .ok (.getfield 81, 3) := by decide +kernel
theorem dX11_delta_134 : decode cX11_delta 134 = .ok (.sipush 400, 3) := by decide +kernel
theorem dX11_delta_137 : decode cX11_delta 137 = .ok (.iload_n 3, 1) := by decide +kernel
theorem dX11_delta_138 : decode cX11_delta 138 = .ok (.imul, 1) := by decide +kernel
theorem dX11_delta_139 : decode cX11_delta 139 = .ok (.iload 4, 2) := by decide +kernel
theorem dX11_delta_141 : decode cX11_delta 141 = .ok (.iadd, 1) := by decide +kernel
theorem dX11_delta_142 : decode cX11_delta 142 = .ok (.iload 8, 2) := by decide +kernel
theorem dX11_delta_144 : decode cX11_delta 144 = .ok (.iastore, 1) := by decide +kernel
theorem dX11_delta_145 : decode cX11_delta 145 = .ok (.iinc 4 1, 3) := by decide +kernel
theorem dX11_delta_148 : decode cX11_delta 148 = .ok (.iload 6, 2) := by decide +kernel
theorem dX11_delta_150 : decode cX11_delta 150 = .ok (.iload 8, 2) := by decide +kernel
theorem dX11_delta_152 : decode cX11_delta 152 = .ok (.iadd, 1) := by decide +kernel
theorem dX11_delta_153 : decode cX11_delta 153 = .ok (.istore 6, 2) := by decide +kernel
theorem dX11_delta_155 : decode cX11_delta 155 = .ok (.goto 109, 3) := by decide +kernel
theorem dX11_delta_158 : decode cX11_delta 158 = .ok (.iload 4, 2) := by decide +kernel
theorem dX11_delta_160 : decode cX11_delta 160 = .ok (.ifCond .eq 22, 3) := by decide +kernel
theorem dX11_delta_163 : decode cX11_delta 163 = .ok (.aload_n 0, 1) := by decide +kernel
theorem dX11_delta_164 : decode cX11_delta 164 = .ok (.getfield 78, 3) := by decide +kernel
theorem dX11_delta_167 : decode cX11_delta 167 = .ok (.sipush 400, 3) := by decide +kernel
theorem dX11_delta_170 : decode cX11_delta 170 = .ok (.iload_n 3, 1) := by decide +kernel
theorem dX11_delta_171 : decode cX11_delta 171 = .ok (.imul, 1) := by decide +kernel
theorem dX11_delta_172 : decode cX11_delta 172 = .ok (.iload 4, 2) := by decide +kernel
theorem dX11_delta_174 : decode cX11_delta 174 = .ok (.iadd, 1) := by decide +kernel
theorem dX11_delta_175 : decode cX11_delta 175 = .ok (.iconst 1, 1) := by decide +kernel
theorem dX11_delta_176 : decode cX11_delta 176 = .ok (.isub, 1) := by decide +kernel
theorem dX11_delta_177 : decode cX11_delta 177 = .ok (.iaload, 1) := by decide +kernel
theorem dX11_delta_178 : decode cX11_delta 178 = .ok (.iconst (-1), 1) := by decide +kernel
theorem dX11_delta_179 : decode cX11_delta 179 = .ok (.if_icmp .eq 34, 3) := by decide +kernel
theorem dX11_delta_182 : decode cX11_delta 182 = .ok (.aload_n 0, 1) := by decide +kernel
theorem dX11_delta_183 : decode cX11_delta 183 = .ok (.getfield 78, 3) := by decide +kernel
theorem dX11_delta_186 : decode cX11_delta 186 = .ok (.sipush 400, 3) := by decide +kernel
theorem dX11_delta_189 : decode cX11_delta 189 = .ok (.iload_n 3, 1) := by decide +kernel
theorem dX11_delta_190 : decode cX11_delta 190 = .ok (.imul, 1) := by decide +kernel
theorem dX11_delta_191 : decode cX11_delta 191 = .ok (.iload 4, 2) := by decide +kernel
theorem dX11_delta_193 : decode cX11_delta 193 = .ok (.iadd, 1) := by decide +kernel
theorem dX11_delta_194 : decode cX11_delta 194 = .ok (.iconst (-1), 1) := by decide +kernel
theorem dX11_delta_195 : decode cX11_delta 195 = .ok (.iastore, 1) := by decide +kernel
theorem dX11_delta_196 : decode cX11_delta 196 = .ok (.aload_n 0, 1) := by decide +kernel
theorem dX11_delta_197 : decode cX11_delta 197 = .ok (.getfield 81, 3) := by decide +kernel
theorem dX11_delta_200 : decode cX11_delta 200 = .ok (.sipush 400, 3) := by decide +kernel
theorem dX11_delta_203 : decode cX11_delta 203 = .ok (.iload_n 3, 1) := by decide +kernel
theorem dX11_delta_204 : decode cX11_delta 204 = .ok (.imul, 1) := by decide +kernel
theorem dX11_delta_205 : decode cX11_delta 205 = .ok (.iload 4, 2) := by decide +kernel
theorem dX11_delta_207 : decode cX11_delta 207 = .ok (.iadd, 1) := by decide +kernel
theorem dX11_delta_208 : decode cX11_delta 208 = .ok (.iconst 0, 1) := by decide +kernel
theorem dX11_delta_209 : decode cX11_delta 209 = .ok (.iastore, 1) := by decide +kernel
theorem dX11_delta_210 : decode cX11_delta 210 = .ok (.iinc 4 1, 3) := by decide +kernel
theorem dX11_delta_213 : decode cX11_delta 213 = .ok (.aload_n 0, 1) := by decide +kernel
theorem dX11_delta_214 : decode cX11_delta 214 = .ok (.getfield 81, 3) := by decide +kernel
theorem dX11_delta_217 : decode cX11_delta 217 = .ok (.sipush 400, 3) := by decide +kernel
theorem dX11_delta_220 : decode cX11_delta 220 = .ok (.iload_n 3, 1) := by decide +kernel
theorem dX11_delta_221 : decode cX11_delta 221 = .ok (.imul, 1) := by decide +kernel
theorem dX11_delta_222 : decode cX11_delta 222 = .ok (.iload 4, 2) := by decide +kernel
theorem dX11_delta_224 : decode cX11_delta 224 = .ok (.iadd, 1) := by decide +kernel
theorem dX11_delta_225 : decode cX11_delta 225 = .ok (.iconst 1, 1) := by decide +kernel
theorem dX11_delta_226 : decode cX11_delta 226 = .ok (.isub, 1) := by decide +kernel
theorem dX11_delta_227 : decode cX11_delta 227 = .ok (.dup2, 1) := by decide +kernel
theorem dX11_delta_228 : decode cX11_delta 228 = .ok (.iaload, 1) := by decide +kernel
theorem dX11_delta_229 : decode cX11_delta 229 = .ok (.iconst 1, 1) := by decide +kernel
theorem dX11_delta_230 : decode cX11_delta 230 = .ok (.iadd, 1) := by decide +kernel
theorem dX11_delta_231 : decode cX11_delta 231 = .ok (.iastore, 1) := by decide +kernel
theorem dX11_delta_232 : decode cX11_delta 232 = .ok (.aload_n 0, 1) := by decide +kernel
theorem dX11_delta_233 : decode cX11_delta 233 = .ok (.getfield 84, 3) := by decide +kernel
theorem dX11_delta_236 : decode cX11_delta 236 = .ok (.sipush 400, 3) := by decide +kernel
theorem dX11_delta_239 : decode cX11_delta 239 = .ok (.iload_n 3, 1) := by decide +kernel
theorem dX11_delta_240 : decode cX11_delta 240 = .ok (.imul, 1) := by decide +kernel
theorem dX11_delta_241 : decode cX11_delta 241 = .ok (.iload 5, 2) := by decide +kernel
theorem dX11_delta_243 : decode cX11_delta 243 = .ok (.iadd, 1) := by decide +kernel
theorem dX11_delta_244 : decode cX11_delta 244 = .ok (.aload_n 0, 1) := by decide +kernel
theorem dX11_delta_245 : decode cX11_delta 245 = .ok (.getfield 36, 3) := by decide +kernel
theorem dX11_delta_248 : decode cX11_delta 248 = .ok (.sipush 400, 3) := by decide +kernel
theorem dX11_delta_251 : decode cX11_delta 251 = .ok (.iload_n 2, 1) := by decide +kernel
theorem dX11_delta_252 : decode cX11_delta 252 = .ok (.imul, 1) := by decide +kernel
theorem dX11_delta_253 : decode cX11_delta 253 = .ok (.iload 6, 2) := by decide +kernel
theorem dX11_delta_255 : decode cX11_delta 255 = .ok (.iadd, 1) := by decide +kernel
theorem dX11_delta_256 : decode cX11_delta 256 = .ok (.iaload, 1) := by decide +kernel
theorem dX11_delta_257 : decode cX11_delta 257 = .ok (.iastore, 1) := by decide +kernel
theorem dX11_delta_258 : decode cX11_delta 258 = .ok (.iinc 5 1, 3) := by decide +kernel
theorem dX11_delta_261 : decode cX11_delta 261 = .ok (.iinc 6 1, 3) := by decide +kernel
theorem dX11_delta_264 : decode cX11_delta 264 = .ok (.goto (-219), 3) := by decide +kernel
theorem dX11_delta_267 : decode cX11_delta 267 = .ok (.aload_n 0, 1) := by decide +kernel
theorem dX11_delta_268 : decode cX11_delta 268 = .ok (.getfield 75, 3) := by decide +kernel
theorem dX11_delta_271 : decode cX11_delta 271 = .ok (.iload_n 3, 1) := by decide +kernel
theorem dX11_delta_272 : decode cX11_delta 272 = .ok (.iload 4, 2) := by decide +kernel
theorem dX11_delta_274 : decode cX11_delta 274 = .ok (.iastore, 1) := by decide +kernel
theorem dX11_delta_275 : decode cX11_delta 275 = .ok (.aload_n 0, 1) := by decide +kernel
theorem dX11_delta_276 : decode cX11_delta 276 = .ok (.getfield 69, 3) := by decide +kernel
theorem dX11_delta_279 : decode cX11_delta 279 = .ok (.iload_n 3, 1) := by decide +kernel
theorem dX11_delta_280 : decode cX11_delta 280 = .ok (.aload_n 0, 1) := by decide +kernel
theorem dX11_delta_281 : decode cX11_delta 281 = .ok (.getfield 39, 3) := by decide +kernel
theorem dX11_delta_284 : decode cX11_delta 284 = .ok (.iload_n 1, 1) := by decide +kernel
theorem dX11_delta_285 : decode cX11_delta 285 = .ok (.iaload, 1) := by decide +kernel
theorem dX11_delta_286 : decode cX11_delta 286 = .ok (.iastore, 1) := by decide +kernel
theorem dX11_delta_287 : decode cX11_delta 287 = .ok (.aload_n 0, 1) := by decide +kernel
theorem dX11_delta_288 : decode cX11_delta 288 = .ok (.getfield 72, 3) := by decide +kernel
theorem dX11_delta_291 : decode cX11_delta 291 = .ok (.iload_n 3, 1) := by decide +kernel
theorem dX11_delta_292 : decode cX11_delta 292 = .ok (.aload_n 0, 1) := by decide +kernel
theorem dX11_delta_293 : decode cX11_delta 293 = .ok (.iload_n 1, 1) := by decide +kernel
theorem dX11_delta_294 : decode cX11_delta 294 = .ok (.iconst 0, 1) := by decide +kernel
theorem dX11_delta_295 : decode cX11_delta 295 = .ok (.aload_n 0, 1) := by decide +kernel
theorem dX11_delta_296 : decode cX11_delta 296 = .ok (.getfield 39, 3) := by decide +kernel
theorem dX11_delta_299 : decode cX11_delta 299 = .ok (.iload_n 1, 1) := by decide +kernel
theorem dX11_delta_300 : decode cX11_delta 300 = .ok (.iaload, 1) := by decide +kernel
theorem dX11_delta_301 : decode cX11_delta 301 = .ok (.invokevirtual 259, 3) := by decide +kernel
theorem dX11_delta_304 : decode cX11_delta 304 = .ok (.iastore, 1) := by decide +kernel
theorem dX11_delta_305 : decode cX11_delta 305 = .ok (.aload_n 0, 1) := by decide +kernel
theorem dX11_delta_306 : decode cX11_delta 306 = .ok (.dup, 1) := by decide +kernel
theorem dX11_delta_307 : decode cX11_delta 307 = .ok (.getfield 306, 3) := by decide +kernel
theorem dX11_delta_310 : decode cX11_delta 310 = .ok (.iconst 1, 1) := by decide +kernel
theorem dX11_delta_311 : decode cX11_delta 311 = .ok (.iadd, 1) := by decide +kernel
theorem dX11_delta_312 : decode cX11_delta 312 = .ok (.putfield 306, 3) := by decide +kernel
theorem dX11_delta_315 : decode cX11_delta 315 = .ok (.iload_n 3, 1) := by decide +kernel
theorem dX11_delta_316 : decode cX11_delta 316 = .ok (.ireturn, 1) := by decide +kernel
theorem dX11_total_0 : decode cX11_total 0 = .ok (.iconst 0, 1) := by decide +kernel
theorem dX11_total_1 : decode cX11_total 1 = .ok (.istore_n 3, 1) := by decide +kernel
theorem dX11_total_2 : decode cX11_total 2 = .ok (.iconst 0, 1) := by decide +kernel
theorem dX11_total_3 : decode cX11_total 3 = .ok (.istore 4, 2) := by decide +kernel
theorem dX11_total_5 : decode cX11_total 5 = .ok (.iload 4, 2) := by decide +kernel
theorem dX11_total_7 : decode cX11_total 7 = .ok (.aload_n 0, 1) := by decide +kernel
theorem dX11_total_8 : decode cX11_total 8 = .ok (.getfield 75, 3) := by decide +kernel
theorem dX11_total_11 : decode cX11_total 11 = .ok (.iload_n 1, 1) := by decide +kernel
theorem dX11_total_12 : decode cX11_total 12 = .ok (.iaload, 1) := by decide +kernel
theorem dX11_total_13 : decode cX11_total 13 = .ok (.if_icmp .ge 55, 3) := by decide +kernel
theorem dX11_total_16 : decode cX11_total 16 = .ok (.iload_n 3, 1) := by decide +kernel
theorem dX11_total_17 : decode cX11_total 17 = .ok (.aload_n 0, 1) := by decide +kernel
theorem dX11_total_18 : decode cX11_total 18 = .ok (.getfield 78, 3) := by decide +kernel
theorem dX11_total_21 : decode cX11_total 21 = .ok (.sipush 400, 3) := by decide +kernel
theorem dX11_total_24 : decode cX11_total 24 = .ok (.iload_n 1, 1) := by decide +kernel
theorem dX11_total_25 : decode cX11_total 25 = .ok (.imul, 1) := by decide +kernel
theorem dX11_total_26 : decode cX11_total 26 = .ok (.iload 4, 2) := by decide +kernel
theorem dX11_total_28 : decode cX11_total 28 = .ok (.iadd, 1) := by decide +kernel
theorem dX11_total_29 : decode cX11_total 29 = .ok (.iaload, 1) := by decide +kernel
theorem dX11_total_30 : decode cX11_total 30 = .ok (.iconst (-1), 1) := by decide +kernel
theorem dX11_total_31 : decode cX11_total 31 = .ok (.if_icmp .eq 7, 3) := by decide +kernel
theorem dX11_total_34 : decode cX11_total 34 = .ok (.iconst 1, 1) := by decide +kernel
theorem dX11_total_35 : decode cX11_total 35 = .ok (.goto 4, 3) := by decide +kernel
theorem dX11_total_38 : decode cX11_total 38 = .ok (.iconst 0, 1) := by decide +kernel
theorem dX11_total_39 : decode cX11_total 39 = .ok (.iload_n 2, 1) := by decide +kernel
theorem dX11_total_40 : decode cX11_total 40 = .ok (.if_icmp .ne 19, 3) := by decide +kernel
theorem dX11_total_43 : decode cX11_total 43 = .ok (.aload_n 0, 1) := by decide +kernel
theorem dX11_total_44 : decode cX11_total 44 = .ok (.getfield 81, 3) := by decide +kernel
theorem dX11_total_47 : decode cX11_total 47 = .ok (.sipush 400, 3) := by decide +kernel
theorem dX11_total_50 : decode cX11_total 50 = .ok (.iload_n 1, 1) := by decide +kernel
theorem dX11_total_51 : decode cX11_total 51 = .ok (.imul, 1) := by decide +kernel
theorem dX11_total_52 : decode cX11_total 52 = .ok (.iload 4, 2) := by decide +kernel
theorem dX11_total_54 : decode cX11_total 54 = .ok (.iadd, 1) := by decide +kernel
theorem dX11_total_55 : decode cX11_total 55 = .ok (.iaload, 1) := by decide +kernel
theorem dX11_total_56 : decode cX11_total 56 = .ok (.goto 4, 3) := by decide +kernel
theorem dX11_total_59 : decode cX11_total 59 = .ok (.iconst 0, 1) := by decide +kernel
theorem dX11_total_60 : decode cX11_total 60 = .ok (.iadd, 1) := by decide +kernel
theorem dX11_total_61 : decode cX11_total 61 = .ok (.istore_n 3, 1) := by decide +kernel
theorem dX11_total_62 : decode cX11_total 62 = .ok (.iinc 4 1, 3) := by decide +kernel
theorem dX11_total_65 : decode cX11_total 65 = .ok (.goto (-60), 3) := by decide +kernel
theorem dX11_total_68 : decode cX11_total 68 = .ok (.iload_n 3, 1) := by decide +kernel
theorem dX11_total_69 : decode cX11_total 69 = .ok (.ireturn, 1) := by decide +kernel
theorem dX11_act_0 : decode cX11_act 0 = .ok (.aload_n 0, 1) := by decide +kernel
theorem dX11_act_1 : decode cX11_act 1 = .ok (.iload_n 1, 1) := by decide +kernel
theorem dX11_act_2 : decode cX11_act 2 = .ok (.invokevirtual 313, 3) := by decide +kernel
theorem dX11_act_5 : decode cX11_act 5 = .ok (.ifCond .ne 6, 3) := by decide +kernel
theorem dX11_act_8 : decode cX11_act 8 = .ok (.bipush (-101), 2) := by decide +kernel
theorem dX11_act_10 : decode cX11_act 10 = .ok (.ireturn, 1) := by decide +kernel
theorem dX11_act_11 : decode cX11_act 11 = .ok (.iload_n 3, 1) := by decide +kernel
theorem dX11_act_12 : decode cX11_act 12 = .ok (.i2l, 1) := by decide +kernel
theorem dX11_act_13 : decode cX11_act 13 = .ok (.lconst 0, 1) := by decide +kernel
theorem dX11_act_14 : decode cX11_act 14 = .ok (.ldc2_w 207, 3) := by decide +kernel
theorem dX11_act_17 : decode cX11_act 17 = .ok (.invokestatic 140, 3) := by decide +kernel
theorem dX11_act_20 : decode cX11_act 20 = .ok (.ifCond .ne 6, 3) := by decide +kernel
theorem dX11_act_23 : decode cX11_act 23 = .ok (.bipush (-102), 2) := by decide +kernel
theorem dX11_act_25 : decode cX11_act 25 = .ok (.ireturn, 1) := by decide +kernel
theorem dX11_act_26 : decode cX11_act 26 = .ok (.iload_n 2, 1) := by decide +kernel
theorem dX11_act_27 : decode cX11_act 27 = .ok (.iconst (-1), 1) := by decide +kernel
theorem dX11_act_28 : decode cX11_act 28 = .ok (.if_icmp .ne 32, 3) := by decide +kernel
theorem dX11_act_31 : decode cX11_act 31 = .ok (.iload_n 3, 1) := by decide +kernel
theorem dX11_act_32 : decode cX11_act 32 = .ok (.ifCond .ne 12, 3) := by decide +kernel
theorem dX11_act_35 : decode cX11_act 35 = .ok (.aload_n 0, 1) := by decide +kernel
theorem dX11_act_36 : decode cX11_act 36 = .ok (.getfield 75, 3) := by decide +kernel
theorem dX11_act_39 : decode cX11_act 39 = .ok (.iload_n 1, 1) := by decide +kernel
theorem dX11_act_40 : decode cX11_act 40 = .ok (.iaload, 1) := by decide +kernel
theorem dX11_act_41 : decode cX11_act 41 = .ok (.goto 18, 3) := by decide +kernel
theorem dX11_act_44 : decode cX11_act 44 = .ok (.aload_n 0, 1) := by decide +kernel
theorem dX11_act_45 : decode cX11_act 45 = .ok (.iload_n 1, 1) := by decide +kernel
theorem dX11_act_46 : decode cX11_act 46 = .ok (.iload_n 3, 1) := by decide +kernel
theorem dX11_act_47 : decode cX11_act 47 = .ok (.iconst 1, 1) := by decide +kernel
theorem dX11_act_48 : decode cX11_act 48 = .ok (.if_icmp .ne 7, 3) := by decide +kernel
theorem dX11_act_51 : decode cX11_act 51 = .ok (.iconst 1, 1) := by decide +kernel
theorem dX11_act_52 : decode cX11_act 52 = .ok (.goto 4, 3) := by decide +kernel
theorem dX11_act_55 : decode cX11_act 55 = .ok (.iconst 0, 1) := by decide +kernel
theorem dX11_act_56 : decode cX11_act 56 = .ok (.invokevirtual 316, 3) := by decide +kernel
theorem dX11_act_59 : decode cX11_act 59 = .ok (.ireturn, 1) := by decide +kernel
theorem dX11_act_60 : decode cX11_act 60 = .ok (.iload_n 2, 1) := by decide +kernel
theorem dX11_act_61 : decode cX11_act 61 = .ok (.i2l, 1) := by decide +kernel
theorem dX11_act_62 : decode cX11_act 62 = .ok (.lconst 0, 1) := by decide +kernel
theorem dX11_act_63 : decode cX11_act 63 = .ok (.aload_n 0, 1) := by decide +kernel
theorem dX11_act_64 : decode cX11_act 64 = .ok (.getfield 75, 3) := by decide +kernel
theorem dX11_act_67 : decode cX11_act 67 = .ok (.iload_n 1, 1) := by decide +kernel
theorem dX11_act_68 : decode cX11_act 68 = .ok (.iaload, 1) := by decide +kernel
theorem dX11_act_69 : decode cX11_act 69 = .ok (.iconst 1, 1) := by decide +kernel
theorem dX11_act_70 : decode cX11_act 70 = .ok (.isub, 1) := by decide +kernel
theorem dX11_act_71 : decode cX11_act 71 = .ok (.i2l, 1) := by decide +kernel
theorem dX11_act_72 : decode cX11_act 72 = .ok (.invokestatic 140, 3) := by decide +kernel
theorem dX11_act_75 : decode cX11_act 75 = .ok (.ifCond .ne 9, 3) := by decide +kernel
theorem dX11_act_78 : decode cX11_act 78 = .ok (.aload_n 0, 1) := by decide +kernel
theorem dX11_act_79 : decode cX11_act 79 = .ok (.iconst 2, 1) := by decide +kernel
theorem dX11_act_80 : decode cX11_act 80 = .ok (.invokevirtual 146, 3) := by decide +kernel
theorem dX11_act_83 : decode cX11_act 83 = .ok (.ireturn, 1) := by decide +kernel
theorem dX11_act_84 : decode cX11_act 84 = .ok (.aload_n 0, 1) := by decide +kernel
theorem dX11_act_85 : decode cX11_act 85 = .ok (.getfield 78, 3) := by decide +kernel
theorem dX11_act_88 : decode cX11_act 88 = .ok (.sipush 400, 3) := by decide +kernel
theorem dX11_act_91 : decode cX11_act 91 = .ok (.iload_n 1, 1) := by decide +kernel
theorem dX11_act_92 : decode cX11_act 92 = .ok (.imul, 1) := by decide +kernel
theorem dX11_act_93 : decode cX11_act 93 = .ok (.iload_n 2, 1) := by decide +kernel
theorem dX11_act_94 : decode cX11_act 94 = .ok (.iadd, 1) := by decide +kernel
theorem dX11_act_95 : decode cX11_act 95 = .ok (.iaload, 1) := by decide +kernel
theorem dX11_act_96 : decode cX11_act 96 = .ok (.istore 4, 2) := by decide +kernel
theorem dX11_act_98 : decode cX11_act 98 = .ok (.iload_n 3, 1) := by decide +kernel
theorem dX11_act_99 : decode cX11_act 99 = .ok (.ifCond .ne 17, 3) := by decide +kernel
theorem dX11_act_102 : decode cX11_act 102 = .ok (.iload 4, 2) := by decide +kernel
theorem dX11_act_104 : decode cX11_act 104 = .ok (.iconst (-1), 1) := by decide +kernel
theorem dX11_act_105 : decode cX11_act 105 = .ok (.if_icmp .ne 7, 3) := by decide +kernel
theorem dX11_act_108 : decode cX11_act 108 = .ok (.iconst 1, 1) := by decide +kernel
theorem dX11_act_109 : decode cX11_act 109 = .ok (.goto 29, 3) := by decide +kernel
theorem dX11_act_112 : decode cX11_act 112 = .ok (.iconst 0, 1) := by decide +kernel
theorem dX11_act_113 : decode cX11_act 113 = .ok (.goto 25, 3) := by decide +kernel
theorem dX11_act_116 : decode cX11_act 116 = .ok (.iload_n 3, 1) := by decide +kernel
theorem dX11_act_117 : decode cX11_act 117 = .ok (.iconst 1, 1) := by decide +kernel
theorem dX11_act_118 : decode cX11_act 118 = .ok (.if_icmp .ne 8, 3) := by decide +kernel
theorem dX11_act_121 : decode cX11_act 121 = .ok (.iload 4, 2) := by decide +kernel
theorem dX11_act_123 : decode cX11_act 123 = .ok (.goto 15, 3) := by decide +kernel
theorem dX11_act_126 : decode cX11_act 126 = .ok (.aload_n 0, 1) := by decide +kernel
theorem dX11_act_127 : decode cX11_act 127 = .ok (.getfield 81, 3) := by decide +kernel
theorem dX11_act_130 : decode cX11_act 130 = .ok (.sipush 400, 3) := by decide +kernel
theorem dX11_act_133 : decode cX11_act 133 = .ok (.iload_n 1, 1) := by decide +kernel
theorem dX11_act_134 : decode cX11_act 134 = .ok (.imul, 1) := by decide +kernel
theorem dX11_act_135 : decode cX11_act 135 = .ok (.iload_n 2, 1) := by decide +kernel
theorem dX11_act_136 : decode cX11_act 136 = .ok (.iadd, 1) := by decide +kernel
theorem dX11_act_137 : decode cX11_act 137 = .ok (.iaload, 1) := by decide +kernel
theorem dX11_act_138 : decode cX11_act 138 = .ok (.ireturn, 1) := by decide +kernel
theorem dX11_apply_0 : decode cX11_apply 0 = .ok (.aload_n 0, 1) := by decide +kernel
theorem dX11_apply_1 : decode cX11_apply 1 = .ok (.iload_n 1, 1) := by decide +kernel
theorem dX11_apply_2 : decode cX11_apply 2 = .ok (.invokevirtual 313, 3) := by decide +kernel
theorem dX11_apply_5 : decode cX11_apply 5 = .ok (.ifCond .eq 11, 3) := by decide +kernel
theorem dX11_apply_8 : decode cX11_apply 8 = .ok (.aload_n 0, 1) := by decide +kernel
theorem dX11_apply_9 : decode cX11_apply 9 = .ok (.iload_n 2, 1) := by decide +kernel
theorem dX11_apply_10 : decode cX11_apply 10 = .ok (.invokevirtual 247, 3) := by decide +kernel
theorem dX11_apply_13 : decode cX11_apply 13 = .ok (.ifCond .ne 6, 3) := by decide +kernel
theorem dX11_apply_16 : decode cX11_apply 16 = .ok (.bipush (-101), 2) := by decide +kernel
theorem dX11_apply_18 : decode cX11_apply 18 = .ok (.ireturn, 1) := by decide +kernel
theorem dX11_apply_19 : decode cX11_apply 19 = .ok (.aload_n 0, 1) := by decide +kernel
theorem dX11_apply_20 : decode cX11_apply 20 = .ok (.getfield 39, 3) := by decide +kernel
theorem dX11_apply_23 : decode cX11_apply 23 = .ok (.iload_n 2, 1) := by decide +kernel
theorem dX11_apply_24 : decode cX11_apply 24 = .ok (.iaload, 1) := by decide +kernel
theorem dX11_apply_25 : decode cX11_apply 25 = .ok (.aload_n 0, 1) := by decide +kernel
theorem dX11_apply_26 : decode cX11_apply 26 = .ok (.getfield 69, 3) := by decide +kernel
theorem dX11_apply_29 : decode cX11_apply 29 = .ok (.iload_n 1, 1) := by decide +kernel
theorem dX11_apply_30 : decode cX11_apply 30 = .ok (.iaload, 1) := by decide +kernel
theorem dX11_apply_31 : decode cX11_apply 31 = .ok (.if_icmp .ne 24, 3) := by decide +kernel
theorem dX11_apply_34 : decode cX11_apply 34 = .ok (.aload_n 0, 1) := by decide +kernel
theorem dX11_apply_35 : decode cX11_apply 35 = .ok (.iload_n 2, 1) := by decide +kernel
theorem dX11_apply_36 : decode cX11_apply 36 = .ok (.iconst 0, 1) := by decide +kernel
theorem dX11_apply_37 : decode cX11_apply 37 = .ok (.aload_n 0, 1) := by decide +kernel
theorem dX11_apply_38 : decode cX11_apply 38 = .ok (.getfield 39, 3) := by decide +kernel
theorem dX11_apply_41 : decode cX11_apply 41 = .ok (.iload_n 2, 1) := by decide +kernel
theorem dX11_apply_42 : decode cX11_apply 42 = .ok (.iaload, 1) := by decide +kernel
theorem dX11_apply_43 : decode cX11_apply 43 = .ok (.invokevirtual 259, 3) := by decide +kernel
theorem dX11_apply_46 : decode cX11_apply 46 = .ok (.aload_n 0, 1) := by decide +kernel
theorem dX11_apply_47 : decode cX11_apply 47 = .ok (.getfield 72, 3) := by decide +kernel
theorem dX11_apply_50 : decode cX11_apply 50 = .ok (.iload_n 1, 1) := by decide +kernel
theorem dX11_apply_51 : decode cX11_apply 51 = .ok (.iaload, 1) := by decide +kernel
theorem dX11_apply_52 : decode cX11_apply 52 = .ok (.if_icmp .eq 10, 3) := by decide +kernel
theorem dX11_apply_55 : decode cX11_apply 55 = .ok (.aload_n 0, 1) := by decide +kernel
theorem dX11_apply_56 : decode cX11_apply 56 = .ok (.bipush 9, 2) := by decide +kernel
theorem dX11_apply_58 : decode cX11_apply 58 = .ok (.invokevirtual 146, 3) := by decide +kernel
theorem dX11_apply_61 : decode cX11_apply 61 = .ok (.ireturn, 1) := by decide +kernel
theorem dX11_apply_62 : decode cX11_apply 62 = .ok (.aload_n 0, 1) := by decide +kernel
theorem dX11_apply_63 : decode cX11_apply 63 = .ok (.getfield 239, 3) := by decide +kernel
theorem dX11_apply_66 : decode cX11_apply 66 = .ok (.bipush 24, 2) := by decide +kernel
theorem dX11_apply_68 : decode cX11_apply 68 = .ok (.if_icmp .ne 6, 3) := by decide +kernel
theorem dX11_apply_71 : decode cX11_apply 71 = .ok (.bipush (-104), 2) := by decide +kernel
theorem dX11_apply_73 : decode cX11_apply 73 = .ok (.ireturn, 1) := by decide +kernel
theorem dX11_apply_74 : decode cX11_apply 74 = .ok (.aload_n 0, 1) := by decide +kernel
theorem dX11_apply_75 : decode cX11_apply 75 = .ok (.invokevirtual 243, 3) := by decide +kernel
theorem dX11_apply_78 : decode cX11_apply 78 = .ok (.istore_n 3, 1) := by decide +kernel
theorem dX11_apply_79 : decode cX11_apply 79 = .ok (.iconst 0, 1) := by decide +kernel
theorem dX11_apply_80 : decode cX11_apply 80 = .ok (.istore 4, 2) := by decide +kernel
theorem dX11_apply_82 : decode cX11_apply 82 = .ok (.iconst 0, 1) := by decide +kernel
theorem dX11_apply_83 : decode cX11_apply 83 = .ok (.istore 5, 2) := by decide +kernel
theorem dX11_apply_85 : decode cX11_apply 85 = .ok (.iload 5, 2) := by decide +kernel
theorem dX11_apply_87 : decode cX11_apply 87 = .ok (.aload_n 0, 1) := by decide +kernel
theorem dX11_apply_88 : decode cX11_apply 88 = .ok (.getfield 75, 3) := by decide +kernel
theorem dX11_apply_91 : decode cX11_apply 91 = .ok (.iload_n 1, 1) := by decide +kernel
theorem dX11_apply_92 : decode cX11_apply 92 = .ok (.iaload, 1) := by decide +kernel
theorem dX11_apply_93 : decode cX11_apply 93 = .ok (.if_icmp .ge 102, 3) := by decide +kernel
theorem dX11_apply_96 : decode cX11_apply 96 = .ok (.aload_n 0, 1) := by decide +kernel
theorem dX11_apply_97 : decode cX11_apply 97 = .ok (.getfield 78, 3) := by decide +kernel
theorem dX11_apply_100 : decode cX11_apply 100 = .ok (.sipush 400, 3) := by decide +kernel
theorem dX11_apply_103 : decode cX11_apply 103 = .ok (.iload_n 1, 1) := by decide +kernel
theorem dX11_apply_104 : decode cX11_apply 104 = .ok (.imul, 1) := by decide +kernel
theorem dX11_apply_105 : decode cX11_apply 105 = .ok (.iload 5, 2) := by decide +kernel
theorem dX11_apply_107 : decode cX11_apply 107 = .ok (.iadd, 1) := by decide +kernel
theorem dX11_apply_108 : decode cX11_apply 108 = .ok (.iaload, 1) := by decide +kernel
theorem dX11_apply_109 : decode cX11_apply 109 = .ok (.istore 6, 2) := by decide +kernel
theorem dX11_apply_111 : decode cX11_apply 111 = .ok (.iconst 0, 1) := by decide +kernel
theorem dX11_apply_112 : decode cX11_apply 112 = .ok (.istore 7, 2) := by decide +kernel
theorem dX11_apply_114 : decode cX11_apply 114 = .ok (.iload 7, 2) := by decide +kernel
theorem dX11_apply_116 : decode cX11_apply 116 = .ok (.aload_n 0, 1) := by decide +kernel
theorem dX11_apply_117 : decode cX11_apply 117 = .ok (.getfield 81, 3) := by decide +kernel
theorem dX11_apply_120 : decode cX11_apply 120 = .ok (.sipush 400, 3) := by decide +kernel
theorem dX11_apply_123 : decode cX11_apply 123 = .ok (.iload_n 1, 1) := by decide +kernel
theorem dX11_apply_124 : decode cX11_apply 124 = .ok (.imul, 1) := by decide +kernel
theorem dX11_apply_125 : decode cX11_apply 125 = .ok (.iload 5, 2) := by decide +kernel
theorem dX11_apply_127 : decode cX11_apply 127 = .ok (.iadd, 1) := by decide +kernel
theorem dX11_apply_128 : decode cX11_apply 128 = .ok (.iaload, 1) := by decide +kernel
theorem dX11_apply_129 : decode cX11_apply 129 = .ok (.if_icmp .ge 60, 3) := by decide +kernel
theorem dX11_apply_132 : decode cX11_apply 132 = .ok (.iload 6, 2) := by decide +kernel
theorem dX11_apply_134 : decode cX11_apply 134 = .ok (.iconst (-1), 1) := by decide +kernel
theorem dX11_apply_135 : decode cX11_apply 135 = .ok (.if_icmp .ne 27, 3) := by decide +kernel
theorem dX11_apply_138 : decode cX11_apply 138 = .ok (.aload_n 0, 1) := by decide +kernel
theorem dX11_apply_139 : decode cX11_apply 139 = .ok (.iload_n 3, 1) := by decide +kernel
theorem dX11_apply_140 : decode cX11_apply 140 = .ok (.aload_n 0, 1) := by decide +kernel
theorem dX11_apply_141 : decode cX11_apply 141 = .ok (.getfield 84, 3) := by decide +kernel
theorem dX11_apply_144 : decode cX11_apply 144 = .ok (.sipush 400, 3) := by decide +kernel
theorem dX11_apply_147 : decode cX11_apply 147 = .ok (.iload_n 1, 1) := by decide +kernel
theorem dX11_apply_148 : decode cX11_apply 148 = .ok (.imul, 1) := by decide +kernel
theorem dX11_apply_149 : decode cX11_apply 149 = .ok (.iload 4, 2) := by decide +kernel
theorem dX11_apply_151 : decode cX11_apply 151 = .ok (.iadd, 1) := by decide +kernel
theorem dX11_apply_152 : decode cX11_apply 152 = .ok (.iaload, 1) := by decide +kernel
theorem dX11_apply_153 : decode cX11_apply 153 = .ok (.invokevirtual 256, 3) := by decide +kernel
theorem dX11_apply_156 : decode cX11_apply 156 = .ok (.iinc 4 1, 3) := by decide +kernel
theorem dX11_apply_159 : decode cX11_apply 159 = .ok (.goto 24, 3) := by decide +kernel
theorem dX11_apply_162 : decode cX11_apply 162 = .ok (.aload_n 0, 1) := by decide +kernel
theorem dX11_apply_163 : decode cX11_apply 163 = .ok (.iload_n 3, 1) := by decide +kernel
theorem dX11_apply_164 : decode cX11_apply 164 = .ok (.aload_n 0, 1) := by decide +kernel
theorem dX11_apply_165 : decode cX11_apply 165 = .ok (.getfield 36, 3) := by decide +kernel
theorem dX11_apply_168 : decode cX11_apply 168 = .ok (.sipush 400, 3) := by decide +kernel
theorem dX11_apply_171 : decode cX11_apply 171 = .ok (.iload_n 2, 1) := by decide +kernel
theorem dX11_apply_172 : decode cX11_apply 172 = .ok (.imul, 1) := by decide +kernel
theorem dX11_apply_173 : decode cX11_apply 173 = .ok (.iload 6, 2) := by decide +kernel
theorem dX11_apply_175 : decode cX11_apply 175 = .ok (.iadd, 1) := by decide +kernel
theorem dX11_apply_176 : decode cX11_apply 176 = .ok (.iload 7, 2) := by decide +kernel
theorem dX11_apply_178 : decode cX11_apply 178 = .ok (.iadd, 1) := by decide +kernel
theorem dX11_apply_179 : decode cX11_apply 179 = .ok (.iaload, 1) := by decide +kernel
theorem dX11_apply_180 : decode cX11_apply 180 = .ok (.invokevirtual 256, 3) := by decide +kernel
theorem dX11_apply_183 : decode cX11_apply 183 = .ok (.iinc 7 1, 3) := by decide +kernel
theorem dX11_apply_186 : decode cX11_apply 186 = .ok (.goto (-72), 3) := by decide +kernel
theorem dX11_apply_189 : decode cX11_apply 189 = .ok (.iinc 5 1, 3) := by decide +kernel
theorem dX11_apply_192 : decode cX11_apply 192 = .ok (.goto (-107), 3) := by decide +kernel
theorem dX11_apply_195 : decode cX11_apply 195 = .ok (.iload_n 3, 1) := by decide +kernel
theorem dX11_apply_196 : decode cX11_apply 196 = .ok (.ireturn, 1) := by decide +kernel
theorem dX11_finding_0 : decode cX11_finding 0 = .ok (.aload_n 0, 1) := by decide +kernel
theorem dX11_finding_1 : decode cX11_finding 1 = .ok (.getfield 87, 3) := by decide +kernel
theorem dX11_finding_4 : decode cX11_finding 4 = .ok (.ireturn, 1) := by decide +kernel
theorem dX11_findings_0 : decode cX11_findings 0 = .ok (.iload_n 1, 1) := by decide +kernel
theorem dX11_findings_1 : decode cX11_findings 1 = .ok (.i2l, 1) := by decide +kernel
theorem dX11_findings_2 : decode cX11_findings 2 = .ok (.lconst 1, 1) := by decide +kernel
theorem dX11_findings_3 : decode cX11_findings 3 = .ok (.ldc2_w 320, 3) := by decide +kernel
theorem dX11_findings_6 : decode cX11_findings 6 = .ok (.invokestatic 140, 3) := by decide +kernel
theorem dX11_findings_9 : decode cX11_findings 9 = .ok (.ifCond .eq 12, 3) := by decide +kernel
theorem dX11_findings_12 : decode cX11_findings 12 = .ok (.aload_n 0, 1) := by decide +kernel
theorem dX11_findings_13 : decode cX11_findings 13 = .ok (.getfield 7, 3) := by decide +kernel
theorem dX11_findings_16 : decode cX11_findings 16 = .ok (.iload_n 1, 1) := by decide +kernel
theorem dX11_findings_17 : decode cX11_findings 17 = .ok (.iaload, 1) := by decide +kernel
theorem dX11_findings_18 : decode cX11_findings 18 = .ok (.goto 5, 3) := by decide +kernel
theorem dX11_findings_21 : decode cX11_findings 21 = .ok (.bipush (-102), 2) := by decide +kernel
theorem dX11_findings_23 : decode cX11_findings 23 = .ok (.ireturn, 1) := by decide +kernel
theorem dX11_bodiesNow_0 : decode cX11_bodiesNow 0 = .ok (.iconst 0, 1) := by decide +kernel
theorem dX11_bodiesNow_1 : decode cX11_bodiesNow 1 = .ok (.istore_n 1, 1) := by decide +kernel
theorem dX11_bodiesNow_2 : decode cX11_bodiesNow 2 = .ok (.iconst 0, 1) := by decide +kernel
theorem dX11_bodiesNow_3 : decode cX11_bodiesNow 3 = .ok (.istore_n 2, 1) := by decide +kernel
theorem dX11_bodiesNow_4 : decode cX11_bodiesNow 4 = .ok (.iload_n 2, 1) := by decide +kernel
theorem dX11_bodiesNow_5 : decode cX11_bodiesNow 5 = .ok (.bipush 30, 2) := by decide +kernel
theorem dX11_bodiesNow_7 : decode cX11_bodiesNow 7 = .ok (.if_icmp .ge 27, 3) := by decide +kernel
theorem dX11_bodiesNow_10 : decode cX11_bodiesNow 10 = .ok (.iload_n 1, 1) := by decide +kernel
theorem dX11_bodiesNow_11 : decode cX11_bodiesNow 11 = .ok (.aload_n 0, 1) := by decide +kernel
theorem dX11_bodiesNow_12 : decode cX11_bodiesNow 12 = .ok (.getfield 48, 3) := by decide +kernel
theorem dX11_bodiesNow_15 : decode cX11_bodiesNow 15 = .ok (.iload_n 2, 1) := by decide +kernel
theorem dX11_bodiesNow_16 : decode cX11_bodiesNow 16 = .ok (.iaload, 1) := by decide +kernel
theorem dX11_bodiesNow_17 : decode cX11_bodiesNow 17 = .ok (.iconst (-1), 1) := by decide +kernel
theorem dX11_bodiesNow_18 : decode cX11_bodiesNow 18 = .ok (.if_icmp .eq 7, 3) := by decide +kernel
theorem dX11_bodiesNow_21 : decode cX11_bodiesNow 21 = .ok (.iconst 1, 1) := by decide +kernel
theorem dX11_bodiesNow_22 : decode cX11_bodiesNow 22 = .ok (.goto 4, 3) := by decide +kernel
theorem dX11_bodiesNow_25 : decode cX11_bodiesNow 25 = .ok (.iconst 0, 1) := by decide +kernel
theorem dX11_bodiesNow_26 : decode cX11_bodiesNow 26 = .ok (.iadd, 1) := by decide +kernel
theorem dX11_bodiesNow_27 : decode cX11_bodiesNow 27 = .ok (.istore_n 1, 1) := by decide +kernel
theorem dX11_bodiesNow_28 : decode cX11_bodiesNow 28 = .ok (.iinc 2 1, 3) := by decide +kernel
theorem dX11_bodiesNow_31 : decode cX11_bodiesNow 31 = .ok (.goto (-27), 3) := by decide +kernel
theorem dX11_bodiesNow_34 : decode cX11_bodiesNow 34 = .ok (.iload_n 1, 1) := by decide +kernel
theorem dX11_bodiesNow_35 : decode cX11_bodiesNow 35 = .ok (.ireturn, 1) := by decide +kernel
theorem dX11_count_0 : decode cX11_count 0 = .ok (.iload_n 1, 1) := by decide +kernel
theorem dX11_count_1 : decode cX11_count 1 = .ok (.ifCond .ne 10, 3) := by decide +kernel
theorem dX11_count_4 : decode cX11_count 4 = .ok (.aload_n 0, 1) := by decide +kernel
theorem dX11_count_5 : decode cX11_count 5 = .ok (.getfield 137, 3) := by decide +kernel
theorem dX11_count_8 : decode cX11_count 8 = .ok (.goto 65, 3) := by decide +kernel
theorem dX11_count_11 : decode cX11_count 11 = .ok (.iload_n 1, 1) := by decide +kernel
theorem dX11_count_12 : decode cX11_count 12 = .ok (.iconst 1, 1) := by decide +kernel
theorem dX11_count_13 : decode cX11_count 13 = .ok (.if_icmp .ne 10, 3) := by decide +kernel
theorem dX11_count_16 : decode cX11_count 16 = .ok (.aload_n 0, 1) := by decide +kernel
theorem dX11_count_17 : decode cX11_count 17 = .ok (.getfield 239, 3) := by decide +kernel
theorem dX11_count_20 : decode cX11_count 20 = .ok (.goto 53, 3) := by decide +kernel
theorem dX11_count_23 : decode cX11_count 23 = .ok (.iload_n 1, 1) := by decide +kernel
theorem dX11_count_24 : decode cX11_count 24 = .ok (.iconst 2, 1) := by decide +kernel
theorem dX11_count_25 : decode cX11_count 25 = .ok (.if_icmp .ne 10, 3) := by decide +kernel
theorem dX11_count_28 : decode cX11_count 28 = .ok (.aload_n 0, 1) := by decide +kernel
theorem dX11_count_29 : decode cX11_count 29 = .ok (.invokevirtual 322, 3) := by decide +kernel
theorem dX11_count_32 : decode cX11_count 32 = .ok (.goto 41, 3) := by decide +kernel
theorem dX11_count_35 : decode cX11_count 35 = .ok (.iload_n 1, 1) := by decide +kernel
theorem dX11_count_36 : decode cX11_count 36 = .ok (.iconst 3, 1) := by decide +kernel
theorem dX11_count_37 : decode cX11_count 37 = .ok (.if_icmp .ne 10, 3) := by decide +kernel
theorem dX11_count_40 : decode cX11_count 40 = .ok (.aload_n 0, 1) := by decide +kernel
theorem dX11_count_41 : decode cX11_count 41 = .ok (.getfield 300, 3) := by decide +kernel
theorem dX11_count_44 : decode cX11_count 44 = .ok (.goto 29, 3) := by decide +kernel
theorem dX11_count_47 : decode cX11_count 47 = .ok (.iload_n 1, 1) := by decide +kernel
theorem dX11_count_48 : decode cX11_count 48 = .ok (.iconst 4, 1) := by decide +kernel
theorem dX11_count_49 : decode cX11_count 49 = .ok (.if_icmp .ne 10, 3) := by decide +kernel
theorem dX11_count_52 : decode cX11_count 52 = .ok (.aload_n 0, 1) := by decide +kernel
theorem dX11_count_53 : decode cX11_count 53 = .ok (.getfield 284, 3) := by decide +kernel
theorem dX11_count_56 : decode cX11_count 56 = .ok (.goto 17, 3) := by decide +kernel
theorem dX11_count_59 : decode cX11_count 59 = .ok (.iload_n 1, 1) := by decide +kernel
theorem dX11_count_60 : decode cX11_count 60 = .ok (.iconst 5, 1) := by decide +kernel
theorem dX11_count_61 : decode cX11_count 61 = .ok (.if_icmp .ne 10, 3) := by decide +kernel
theorem dX11_count_64 : decode cX11_count 64 = .ok (.aload_n 0, 1) := by decide +kernel
theorem dX11_count_65 : decode cX11_count 65 = .ok (.getfield 306, 3) := by decide +kernel
theorem dX11_count_68 : decode cX11_count 68 = .ok (.goto 5, 3) := by decide +kernel
theorem dX11_count_71 : decode cX11_count 71 = .ok (.bipush (-102), 2) := by decide +kernel
theorem dX11_count_73 : decode cX11_count 73 = .ok (.ireturn, 1) := by decide +kernel
theorem dX11_digest_0 : decode cX11_digest 0 = .ok (.ldc2_w 325, 3) := by decide +kernel
theorem dX11_digest_3 : decode cX11_digest 3 = .ok (.aload_n 0, 1) := by decide +kernel
theorem dX11_digest_4 : decode cX11_digest 4 = .ok (.getfield 137, 3) := by decide +kernel
theorem dX11_digest_7 : decode cX11_digest 7 = .ok (.i2l, 1) := by decide +kernel
theorem dX11_digest_8 : decode cX11_digest 8 = .ok (.ladd, 1) := by decide +kernel
theorem dX11_digest_9 : decode cX11_digest 9 = .ok (.lstore_n 1, 1) := by decide +kernel
theorem dX11_digest_10 : decode cX11_digest 10 = .ok (.iconst 0, 1) := by decide +kernel
theorem dX11_digest_11 : decode cX11_digest 11 = .ok (.istore_n 3, 1) := by decide +kernel
theorem dX11_digest_12 : decode cX11_digest 12 = .ok (.iload_n 3, 1) := by decide +kernel
theorem dX11_digest_13 : decode cX11_digest 13 = .ok (.aload_n 0, 1) := by decide +kernel
theorem dX11_digest_14 : decode cX11_digest 14 = .ok (.getfield 137, 3) := by decide +kernel
theorem dX11_digest_17 : decode cX11_digest 17 = .ok (.if_icmp .ge 98, 3) := by decide +kernel
theorem dX11_digest_20 : decode cX11_digest 20 = .ok (.ldc2_w 327, 3) := by decide +kernel
theorem dX11_digest_23 : decode cX11_digest 23 = .ok (.lload_n 1, 1) := by decide +kernel
theorem dX11_digest_24 : decode cX11_digest 24 = .ok (.lmul, 1) := by decide +kernel
theorem dX11_digest_25 : decode cX11_digest 25 = .ok (.aload_n 0, 1) := by decide +kernel
theorem dX11_digest_26 : decode cX11_digest 26 = .ok (.getfield 13, 3) := by decide +kernel
theorem dX11_digest_29 : decode cX11_digest 29 = .ok (.iload_n 3, 1) := by decide +kernel
theorem dX11_digest_30 : decode cX11_digest 30 = .ok (.iaload, 1) := by decide +kernel
theorem dX11_digest_31 : decode cX11_digest 31 = .ok (.i2l, 1) := by decide +kernel
theorem dX11_digest_32 : decode cX11_digest 32 = .ok (.ladd, 1) := by decide +kernel
theorem dX11_digest_33 : decode cX11_digest 33 = .ok (.lstore_n 1, 1) := by decide +kernel
theorem dX11_digest_34 : decode cX11_digest 34 = .ok (.ldc2_w 327, 3) := by decide +kernel
theorem dX11_digest_37 : decode cX11_digest 37 = .ok (.lload_n 1, 1) := by decide +kernel
theorem dX11_digest_38 : decode cX11_digest 38 = .ok (.lmul, 1) := by decide +kernel
theorem dX11_digest_39 : decode cX11_digest 39 = .ok (.aload_n 0, 1) := by decide +kernel
theorem dX11_digest_40 : decode cX11_digest 40 = .ok (.getfield 19, 3) := by decide +kernel
theorem dX11_digest_43 : decode cX11_digest 43 = .ok (.iload_n 3, 1) := by decide +kernel
theorem dX11_digest_44 : decode cX11_digest 44 = .ok (.baload, 1) := by decide +kernel
theorem dX11_digest_45 : decode cX11_digest 45 = .ok (.ifCond .eq 7, 3) := by decide +kernel
theorem dX11_digest_48 : decode cX11_digest 48 = .ok (.iconst (-1), 1) := by decide +kernel
theorem dX11_digest_49 : decode cX11_digest 49 = .ok (.goto 9, 3) := by decide +kernel
theorem dX11_digest_52 : decode cX11_digest 52 = .ok (.aload_n 0, 1) := by decide +kernel
theorem dX11_digest_53 : decode cX11_digest 53 = .ok (.getfield 16, 3) := by decide +kernel
theorem dX11_digest_56 : decode cX11_digest 56 = .ok (.iload_n 3, 1) := by decide +kernel
theorem dX11_digest_57 : decode cX11_digest 57 = .ok (.iaload, 1) := by decide +kernel
theorem dX11_digest_58 : decode cX11_digest 58 = .ok (.i2l, 1) := by decide +kernel
theorem dX11_digest_59 : decode cX11_digest 59 = .ok (.ladd, 1) := by decide +kernel
theorem dX11_digest_60 : decode cX11_digest 60 = .ok (.lstore_n 1, 1) := by decide +kernel
theorem dX11_digest_61 : decode cX11_digest 61 = .ok (.iconst 0, 1) := by decide +kernel
theorem dX11_digest_62 : decode cX11_digest 62 = .ok (.istore 4, 2) := by decide +kernel
theorem dX11_digest_64 : decode cX11_digest 64 = .ok (.iload 4, 2) := by decide +kernel
theorem dX11_digest_66 : decode cX11_digest 66 = .ok (.aload_n 0, 1) := by decide +kernel
theorem dX11_digest_67 : decode cX11_digest 67 = .ok (.getfield 16, 3) := by decide +kernel
theorem dX11_digest_70 : decode cX11_digest 70 = .ok (.iload_n 3, 1) := by decide +kernel
theorem dX11_digest_71 : decode cX11_digest 71 = .ok (.iaload, 1) := by decide +kernel
theorem dX11_digest_72 : decode cX11_digest 72 = .ok (.if_icmp .ge 37, 3) := by decide +kernel
theorem dX11_digest_75 : decode cX11_digest 75 = .ok (.aload_n 0, 1) := by decide +kernel
theorem dX11_digest_76 : decode cX11_digest 76 = .ok (.getfield 19, 3) := by decide +kernel
theorem dX11_digest_79 : decode cX11_digest 79 = .ok (.iload_n 3, 1) := by decide +kernel
theorem dX11_digest_80 : decode cX11_digest 80 = .ok (.baload, 1) := by decide +kernel
theorem dX11_digest_81 : decode cX11_digest 81 = .ok (.ifCond .ne 28, 3) := by decide +kernel
theorem dX11_digest_84 : decode cX11_digest 84 = .ok (.ldc2_w 327, 3) := by decide +kernel
theorem dX11_digest_87 : decode cX11_digest 87 = .ok (.lload_n 1, 1) := by decide +kernel
theorem dX11_digest_88 : decode cX11_digest 88 = .ok (.lmul, 1) := by decide +kernel
theorem dX11_digest_89 : decode cX11_digest 89 = .ok (.aload_n 0, 1) := by decide +kernel
theorem dX11_digest_90 : decode cX11_digest 90 = .ok (.getfield 23, 3) := by decide +kernel
theorem dX11_digest_93 : decode cX11_digest 93 = .ok (.bipush 24, 2) := by decide +kernel
theorem dX11_digest_95 : decode cX11_digest 95 = .ok (.iload_n 3, 1) := by decide +kernel
theorem dX11_digest_96 : decode cX11_digest 96 = .ok (.imul, 1) := by decide +kernel
theorem dX11_digest_97 : decode cX11_digest 97 = .ok (.iload 4, 2) := by decide +kernel
theorem dX11_digest_99 : decode cX11_digest 99 = .ok (.iadd, 1) := by decide +kernel
theorem dX11_digest_100 : decode cX11_digest 100 = .ok (.laload, 1) := by decide +kernel
theorem dX11_digest_101 : decode cX11_digest 101 = .ok (.ladd, 1) := by decide +kernel
theorem dX11_digest_102 : decode cX11_digest 102 = .ok (.lstore_n 1, 1) := by decide +kernel
theorem dX11_digest_103 : decode cX11_digest 103 = .ok (.iinc 4 1, 3) := by decide +kernel
theorem dX11_digest_106 : decode cX11_digest 106 = .ok (.goto (-42), 3) := by decide +kernel
theorem dX11_digest_109 : decode cX11_digest 109 = .ok (.iinc 3 1, 3) := by decide +kernel
theorem dX11_digest_112 : decode cX11_digest 112 = .ok (.goto (-100), 3) := by decide +kernel
theorem dX11_digest_115 : decode cX11_digest 115 = .ok (.ldc2_w 327, 3) := by decide +kernel
theorem dX11_digest_118 : decode cX11_digest 118 = .ok (.lload_n 1, 1) := by decide +kernel
theorem dX11_digest_119 : decode cX11_digest 119 = .ok (.lmul, 1) := by decide +kernel
theorem dX11_digest_120 : decode cX11_digest 120 = .ok (.aload_n 0, 1) := by decide +kernel
theorem dX11_digest_121 : decode cX11_digest 121 = .ok (.getfield 239, 3) := by decide +kernel
theorem dX11_digest_124 : decode cX11_digest 124 = .ok (.i2l, 1) := by decide +kernel
theorem dX11_digest_125 : decode cX11_digest 125 = .ok (.ladd, 1) := by decide +kernel
theorem dX11_digest_126 : decode cX11_digest 126 = .ok (.lstore_n 1, 1) := by decide +kernel
theorem dX11_digest_127 : decode cX11_digest 127 = .ok (.iconst 0, 1) := by decide +kernel
theorem dX11_digest_128 : decode cX11_digest 128 = .ok (.istore_n 3, 1) := by decide +kernel
theorem dX11_digest_129 : decode cX11_digest 129 = .ok (.iload_n 3, 1) := by decide +kernel
theorem dX11_digest_130 : decode cX11_digest 130 = .ok (.aload_n 0, 1) := by decide +kernel
theorem dX11_digest_131 : decode cX11_digest 131 = .ok (.getfield 239, 3) := by decide +kernel
theorem dX11_digest_134 : decode cX11_digest 134 = .ok (.if_icmp .ge 79, 3) := by decide +kernel
theorem dX11_digest_137 : decode cX11_digest 137 = .ok (.ldc2_w 327, 3) := by decide +kernel
theorem dX11_digest_140 : decode cX11_digest 140 = .ok (.lload_n 1, 1) := by decide +kernel
theorem dX11_digest_141 : decode cX11_digest 141 = .ok (.lmul, 1) := by decide +kernel
theorem dX11_digest_142 : decode cX11_digest 142 = .ok (.aload_n 0, 1) := by decide +kernel
theorem dX11_digest_143 : decode cX11_digest 143 = .ok (.getfield 39, 3) := by decide +kernel
theorem dX11_digest_146 : decode cX11_digest 146 = .ok (.iload_n 3, 1) := by decide +kernel
theorem dX11_digest_147 : decode cX11_digest 147 = .ok (.iaload, 1) := by decide +kernel
theorem dX11_digest_148 : decode cX11_digest 148 = .ok (.i2l, 1) := by decide +kernel
theorem dX11_digest_149 : decode cX11_digest 149 = .ok (.ladd, 1) := by decide +kernel
theorem dX11_digest_150 : decode cX11_digest 150 = .ok (.lstore_n 1, 1) := by decide +kernel
theorem dX11_digest_151 : decode cX11_digest 151 = .ok (.ldc2_w 327, 3) := by decide +kernel
theorem dX11_digest_154 : decode cX11_digest 154 = .ok (.lload_n 1, 1) := by decide +kernel
theorem dX11_digest_155 : decode cX11_digest 155 = .ok (.lmul, 1) := by decide +kernel
theorem dX11_digest_156 : decode cX11_digest 156 = .ok (.aload_n 0, 1) := by decide +kernel
theorem dX11_digest_157 : decode cX11_digest 157 = .ok (.iload_n 3, 1) := by decide +kernel
theorem dX11_digest_158 : decode cX11_digest 158 = .ok (.iconst 0, 1) := by decide +kernel
theorem dX11_digest_159 : decode cX11_digest 159 = .ok (.aload_n 0, 1) := by decide +kernel
theorem dX11_digest_160 : decode cX11_digest 160 = .ok (.getfield 39, 3) := by decide +kernel
theorem dX11_digest_163 : decode cX11_digest 163 = .ok (.iload_n 3, 1) := by decide +kernel
theorem dX11_digest_164 : decode cX11_digest 164 = .ok (.iaload, 1) := by decide +kernel
theorem dX11_digest_165 : decode cX11_digest 165 = .ok (.invokevirtual 259, 3) := by decide +kernel
theorem dX11_digest_168 : decode cX11_digest 168 = .ok (.i2l, 1) := by decide +kernel
theorem dX11_digest_169 : decode cX11_digest 169 = .ok (.ladd, 1) := by decide +kernel
theorem dX11_digest_170 : decode cX11_digest 170 = .ok (.lstore_n 1, 1) := by decide +kernel
theorem dX11_digest_171 : decode cX11_digest 171 = .ok (.ldc2_w 327, 3) := by decide +kernel
theorem dX11_digest_174 : decode cX11_digest 174 = .ok (.lload_n 1, 1) := by decide +kernel
theorem dX11_digest_175 : decode cX11_digest 175 = .ok (.lmul, 1) := by decide +kernel
theorem dX11_digest_176 : decode cX11_digest 176 = .ok (.aload_n 0, 1) := by decide +kernel
theorem dX11_digest_177 : decode cX11_digest 177 = .ok (.getfield 42, 3) := by decide +kernel
theorem dX11_digest_180 : decode cX11_digest 180 = .ok (.iload_n 3, 1) := by decide +kernel
theorem dX11_digest_181 : decode cX11_digest 181 = .ok (.iaload, 1) := by decide +kernel
theorem dX11_digest_182 : decode cX11_digest 182 = .ok (.i2l, 1) := by decide +kernel
theorem dX11_digest_183 : decode cX11_digest 183 = .ok (.ladd, 1) := by decide +kernel
theorem dX11_digest_184 : decode cX11_digest 184 = .ok (.lstore_n 1, 1) := by decide +kernel
theorem dX11_digest_185 : decode cX11_digest 185 = .ok (.ldc2_w 327, 3) := by decide +kernel
theorem dX11_digest_188 : decode cX11_digest 188 = .ok (.lload_n 1, 1) := by decide +kernel
theorem dX11_digest_189 : decode cX11_digest 189 = .ok (.lmul, 1) := by decide +kernel
theorem dX11_digest_190 : decode cX11_digest 190 = .ok (.aload_n 0, 1) := by decide +kernel
theorem dX11_digest_191 : decode cX11_digest 191 = .ok (.getfield 45, 3) := by decide +kernel
theorem dX11_digest_194 : decode cX11_digest 194 = .ok (.iload_n 3, 1) := by decide +kernel
theorem dX11_digest_195 : decode cX11_digest 195 = .ok (.baload, 1) := by decide +kernel
theorem dX11_digest_196 : decode cX11_digest 196 = .ok (.ifCond .eq 7, 3) := by decide +kernel
theorem dX11_digest_199 : decode cX11_digest 199 = .ok (.iconst 1, 1) := by decide +kernel
theorem dX11_digest_200 : decode cX11_digest 200 = .ok (.goto 4, 3) := by decide +kernel
theorem dX11_digest_203 : decode cX11_digest 203 = .ok (.iconst 0, 1) := by decide +kernel
theorem dX11_digest_204 : decode cX11_digest 204 = .ok (.i2l, 1) := by decide +kernel
theorem dX11_digest_205 : decode cX11_digest 205 = .ok (.ladd, 1) := by decide +kernel
theorem dX11_digest_206 : decode cX11_digest 206 = .ok (.lstore_n 1, 1) := by decide +kernel
theorem dX11_digest_207 : decode cX11_digest 207 = .ok (.iinc 3 1, 3) := by decide +kernel
theorem dX11_digest_210 : decode cX11_digest 210 = .ok (.goto (-81), 3) := by decide +kernel
theorem dX11_digest_213 : decode cX11_digest 213 = .ok (.iconst 0, 1) := by decide +kernel
theorem dX11_digest_214 : decode cX11_digest 214 = .ok (.istore_n 3, 1) := by decide +kernel
theorem dX11_digest_215 : decode cX11_digest 215 = .ok (.iload_n 3, 1) := by decide +kernel
theorem dX11_digest_216 : decode cX11_digest 216 = .ok (.aload_n 0, 1) := by decide +kernel
theorem dX11_digest_217 : decode cX11_digest 217 = .ok (.getfield 284, 3) := by decide +kernel
theorem dX11_digest_220 : decode cX11_digest 220 = .ok (.if_icmp .ge 85, 3) := by decide +kernel
theorem dX11_digest_223 : decode cX11_digest 223 = .ok (.ldc2_w 327, 3) := by decide +kernel
theorem dX11_digest_226 : decode cX11_digest 226 = .ok (.lload_n 1, 1) := by decide +kernel
theorem dX11_digest_227 : decode cX11_digest 227 = .ok (.lmul, 1) := by decide +kernel
theorem dX11_digest_228 : decode cX11_digest 228 = .ok (.aload_n 0, 1) := by decide +kernel
theorem dX11_digest_229 : decode cX11_digest 229 = .ok (.getfield 60, 3) := by decide +kernel
theorem dX11_digest_232 : decode cX11_digest 232 = .ok (.iload_n 3, 1) := by decide +kernel
theorem dX11_digest_233 : decode cX11_digest 233 = .ok (.iaload, 1) := by decide +kernel
theorem dX11_digest_234 : decode cX11_digest 234 = .ok (.i2l, 1) := by decide +kernel
theorem dX11_digest_235 : decode cX11_digest 235 = .ok (.ladd, 1) := by decide +kernel
theorem dX11_digest_236 : decode cX11_digest 236 = .ok (.lstore_n 1, 1) := by decide +kernel
theorem dX11_digest_237 : decode cX11_digest 237 = .ok (.bipush 12, 2) := by decide +kernel
theorem dX11_digest_239 : decode cX11_digest 239 = .ok (.iload_n 3, 1) := by decide +kernel
theorem dX11_digest_240 : decode cX11_digest 240 = .ok (.imul, 1) := by decide +kernel
theorem dX11_digest_241 : decode cX11_digest 241 = .ok (.istore 4, 2) := by decide +kernel
theorem dX11_digest_243 : decode cX11_digest 243 = .ok (.iload 4, 2) := by decide +kernel
theorem dX11_digest_245 : decode cX11_digest 245 = .ok (.bipush 12, 2) := by decide +kernel
theorem dX11_digest_247 : decode cX11_digest 247 = .ok (.iload_n 3, 1) := by decide +kernel
theorem dX11_digest_248 : decode cX11_digest 248 = .ok (.imul, 1) := by decide +kernel
theorem dX11_digest_249 : decode cX11_digest 249 = .ok (.aload_n 0, 1) := by decide +kernel
theorem dX11_digest_250 : decode cX11_digest 250 = .ok (.getfield 60, 3) := by decide +kernel
theorem dX11_digest_253 : decode cX11_digest 253 = .ok (.iload_n 3, 1) := by decide +kernel
theorem dX11_digest_254 : decode cX11_digest 254 = .ok (.iaload, 1) := by decide +kernel
theorem dX11_digest_255 : decode cX11_digest 255 = .ok (.iadd, 1) := by decide +kernel
theorem dX11_digest_256 : decode cX11_digest 256 = .ok (.if_icmp .ge 43, 3) := by decide +kernel
theorem dX11_digest_259 : decode cX11_digest 259 = .ok (.ldc2_w 327, 3) := by decide +kernel
theorem dX11_digest_262 : decode cX11_digest 262 = .ok (.lload_n 1, 1) := by decide +kernel
theorem dX11_digest_263 : decode cX11_digest 263 = .ok (.lmul, 1) := by decide +kernel
theorem dX11_digest_264 : decode cX11_digest 264 = .ok (.aload_n 0, 1) := by decide +kernel
theorem dX11_digest_265 : decode cX11_digest 265 = .ok (.getfield 63, 3) := by decide +kernel
theorem dX11_digest_268 : decode cX11_digest 268 = .ok (.iload 4, 2) := by decide +kernel
theorem dX11_digest_270 : decode cX11_digest 270 = .ok (.laload, 1) := by decide +kernel
theorem dX11_digest_271 : decode cX11_digest 271 = .ok (.ladd, 1) := by decide +kernel
theorem dX11_digest_272 : decode cX11_digest 272 = .ok (.lstore_n 1, 1) := by decide +kernel
theorem dX11_digest_273 : decode cX11_digest 273 = .ok (.ldc2_w 327, 3) := by decide +kernel
theorem dX11_digest_276 : decode cX11_digest 276 = .ok (.lload_n 1, 1) := by decide +kernel
theorem dX11_digest_277 : decode cX11_digest 277 = .ok (.lmul, 1) := by decide +kernel
theorem dX11_digest_278 : decode cX11_digest 278 = .ok (.aload_n 0, 1) := by decide +kernel
theorem dX11_digest_279 : decode cX11_digest 279 = .ok (.getfield 48, 3) := by decide +kernel
theorem dX11_digest_282 : decode cX11_digest 282 = .ok (.aload_n 0, 1) := by decide +kernel
theorem dX11_digest_283 : decode cX11_digest 283 = .ok (.getfield 66, 3) := by decide +kernel
theorem dX11_digest_286 : decode cX11_digest 286 = .ok (.iload 4, 2) := by decide +kernel
theorem dX11_digest_288 : decode cX11_digest 288 = .ok (.iaload, 1) := by decide +kernel
theorem dX11_digest_289 : decode cX11_digest 289 = .ok (.iaload, 1) := by decide +kernel
theorem dX11_digest_290 : decode cX11_digest 290 = .ok (.i2l, 1) := by decide +kernel
theorem dX11_digest_291 : decode cX11_digest 291 = .ok (.ladd, 1) := by decide +kernel
theorem dX11_digest_292 : decode cX11_digest 292 = .ok (.lstore_n 1, 1) := by decide +kernel
theorem dX11_digest_293 : decode cX11_digest 293 = .ok (.iinc 4 1, 3) := by decide +kernel
theorem dX11_digest_296 : decode cX11_digest 296 = .ok (.goto (-53), 3) := by decide +kernel
theorem dX11_digest_299 : decode cX11_digest 299 = .ok (.iinc 3 1, 3) := by decide +kernel
theorem dX11_digest_302 : decode cX11_digest 302 = .ok (.goto (-87), 3) := by decide +kernel
theorem dX11_digest_305 : decode cX11_digest 305 = .ok (.ldc2_w 327, 3) := by decide +kernel
theorem dX11_digest_308 : decode cX11_digest 308 = .ok (.lload_n 1, 1) := by decide +kernel
theorem dX11_digest_309 : decode cX11_digest 309 = .ok (.lmul, 1) := by decide +kernel
theorem dX11_digest_310 : decode cX11_digest 310 = .ok (.aload_n 0, 1) := by decide +kernel
theorem dX11_digest_311 : decode cX11_digest 311 = .ok (.getfield 306, 3) := by decide +kernel
theorem dX11_digest_314 : decode cX11_digest 314 = .ok (.i2l, 1) := by decide +kernel
theorem dX11_digest_315 : decode cX11_digest 315 = .ok (.ladd, 1) := by decide +kernel
theorem dX11_digest_316 : decode cX11_digest 316 = .ok (.lreturn, 1) := by decide +kernel
theorem dJxe99ae_isNaN_b9ae7_0 : decode cJxe99ae_isNaN_b9ae7 0 = .ok (.dload_n 0, 1) := by decide +kernel
theorem dJxe99ae_isNaN_b9ae7_1 : decode cJxe99ae_isNaN_b9ae7 1 = .ok (.dload_n 0, 1) := by decide +kernel
theorem dJxe99ae_isNaN_b9ae7_2 : decode cJxe99ae_isNaN_b9ae7 2 = .ok (.dcmp .l, 1) := by decide +kernel
theorem dJxe99ae_isNaN_b9ae7_3 : decode cJxe99ae_isNaN_b9ae7 3 = .ok (.ifCond .eq 7, 3) := by decide +kernel
theorem dJxe99ae_isNaN_b9ae7_6 : decode cJxe99ae_isNaN_b9ae7 6 = .ok (.iconst 1, 1) := by decide +kernel
theorem dJxe99ae_isNaN_b9ae7_7 : decode cJxe99ae_isNaN_b9ae7 7 = .ok (.goto 4, 3) := by decide +kernel
theorem dJxe99ae_isNaN_b9ae7_10 : decode cJxe99ae_isNaN_b9ae7 10 = .ok (.iconst 0, 1) := by decide +kernel
theorem dJxe99ae_isNaN_b9ae7_11 : decode cJxe99ae_isNaN_b9ae7 11 = .ok (.ireturn, 1) := by decide +kernel
theorem dJxe99ae_doubleToLongBits_ccdee_0 : decode cJxe99ae_doubleToLongBits_ccdee 0 = .ok (.dload_n 0, 1) := by decide +kernel
theorem dJxe99ae_doubleToLongBits_ccdee_1 : decode cJxe99ae_doubleToLongBits_ccdee 1 = .ok (.invokestatic 122, 3) := by decide +kernel
theorem dJxe99ae_doubleToLongBits_ccdee_4 : decode cJxe99ae_doubleToLongBits_ccdee 4 = .ok (.ifCond .ne 8, 3) := by decide +kernel
theorem dJxe99ae_doubleToLongBits_ccdee_7 : decode cJxe99ae_doubleToLongBits_ccdee 7 = .ok (.dload_n 0, 1) := by decide +kernel
theorem dJxe99ae_doubleToLongBits_ccdee_8 : decode cJxe99ae_doubleToLongBits_ccdee 8 = .ok (.invokestatic 134, 3) := by decide +kernel
theorem dJxe99ae_doubleToLongBits_ccdee_11 : decode cJxe99ae_doubleToLongBits_ccdee 11 = .ok (.lreturn, 1) := by decide +kernel
theorem dJxe99ae_doubleToLongBits_ccdee_12 : decode cJxe99ae_doubleToLongBits_ccdee 12 = .ok (.ldc2_w 137, 3) := by decide +kernel
theorem dJxe99ae_doubleToLongBits_ccdee_15 : decode cJxe99ae_doubleToLongBits_ccdee 15 = .ok (.lreturn, 1) := by decide +kernel
theorem dJxf58ca_isNaN_12338_0 : decode cJxf58ca_isNaN_12338 0 = .ok (.fload_n 0, 1) := by decide +kernel
theorem dJxf58ca_isNaN_12338_1 : decode cJxf58ca_isNaN_12338 1 = .ok (.fload_n 0, 1) := by decide +kernel
theorem dJxf58ca_isNaN_12338_2 : decode cJxf58ca_isNaN_12338 2 = .ok (.fcmp .l, 1) := by decide +kernel
theorem dJxf58ca_isNaN_12338_3 : decode cJxf58ca_isNaN_12338 3 = .ok (.ifCond .eq 7, 3) := by decide +kernel
theorem dJxf58ca_isNaN_12338_6 : decode cJxf58ca_isNaN_12338 6 = .ok (.iconst 1, 1) := by decide +kernel
theorem dJxf58ca_isNaN_12338_7 : decode cJxf58ca_isNaN_12338 7 = .ok (.goto 4, 3) := by decide +kernel
theorem dJxf58ca_isNaN_12338_10 : decode cJxf58ca_isNaN_12338 10 = .ok (.iconst 0, 1) := by decide +kernel
theorem dJxf58ca_isNaN_12338_11 : decode cJxf58ca_isNaN_12338 11 = .ok (.ireturn, 1) := by decide +kernel
theorem dJxf58ca_floatToIntBits_5c35a_0 : decode cJxf58ca_floatToIntBits_5c35a 0 = .ok (.fload_n 0, 1) := by decide +kernel
theorem dJxf58ca_floatToIntBits_5c35a_1 : decode cJxf58ca_floatToIntBits_5c35a 1 = .ok (.invokestatic 59, 3) := by decide +kernel
theorem dJxf58ca_floatToIntBits_5c35a_4 : decode cJxf58ca_floatToIntBits_5c35a 4 = .ok (.ifCond .ne 8, 3) := by decide +kernel
theorem dJxf58ca_floatToIntBits_5c35a_7 : decode cJxf58ca_floatToIntBits_5c35a 7 = .ok (.fload_n 0, 1) := by decide +kernel
theorem dJxf58ca_floatToIntBits_5c35a_8 : decode cJxf58ca_floatToIntBits_5c35a 8 = .ok (.invokestatic 74, 3) := by decide +kernel
theorem dJxf58ca_floatToIntBits_5c35a_11 : decode cJxf58ca_floatToIntBits_5c35a 11 = .ok (.ireturn, 1) := by decide +kernel
theorem dJxf58ca_floatToIntBits_5c35a_12 : decode cJxf58ca_floatToIntBits_5c35a 12 = .ok (.ldc 77, 2) := by decide +kernel
theorem dJxf58ca_floatToIntBits_5c35a_14 : decode cJxf58ca_floatToIntBits_5c35a 14 = .ok (.ireturn, 1) := by decide +kernel
theorem dJ13_compare_74951_0 : decode cJ13_compare_74951 0 = .ok (.lload_n 0, 1) := by decide +kernel
theorem dJ13_compare_74951_1 : decode cJ13_compare_74951 1 = .ok (.lload_n 2, 1) := by decide +kernel
theorem dJ13_compare_74951_2 : decode cJ13_compare_74951 2 = .ok (.lcmp, 1) := by decide +kernel
theorem dJ13_compare_74951_3 : decode cJ13_compare_74951 3 = .ok (.ifCond .ge 7, 3) := by decide +kernel
theorem dJ13_compare_74951_6 : decode cJ13_compare_74951 6 = .ok (.iconst (-1), 1) := by decide +kernel
theorem dJ13_compare_74951_7 : decode cJ13_compare_74951 7 = .ok (.goto 14, 3) := by decide +kernel
theorem dJ13_compare_74951_10 : decode cJ13_compare_74951 10 = .ok (.lload_n 0, 1) := by decide +kernel
theorem dJ13_compare_74951_11 : decode cJ13_compare_74951 11 = .ok (.lload_n 2, 1) := by decide +kernel
theorem dJ13_compare_74951_12 : decode cJ13_compare_74951 12 = .ok (.lcmp, 1) := by decide +kernel
theorem dJ13_compare_74951_13 : decode cJ13_compare_74951 13 = .ok (.ifCond .ne 7, 3) := by decide +kernel
theorem dJ13_compare_74951_16 : decode cJ13_compare_74951 16 = .ok (.iconst 0, 1) := by decide +kernel
theorem dJ13_compare_74951_17 : decode cJ13_compare_74951 17 = .ok (.goto 4, 3) := by decide +kernel
theorem dJ13_compare_74951_20 : decode cJ13_compare_74951 20 = .ok (.iconst 1, 1) := by decide +kernel
theorem dJ13_compare_74951_21 : decode cJ13_compare_74951 21 = .ok (.ireturn, 1) := by decide +kernel
theorem dJ9_max_7cf53_0 : decode cJ9_max_7cf53 0 = .ok (.iload_n 0, 1) := by decide +kernel
theorem dJ9_max_7cf53_1 : decode cJ9_max_7cf53 1 = .ok (.iload_n 1, 1) := by decide +kernel
theorem dJ9_max_7cf53_2 : decode cJ9_max_7cf53 2 = .ok (.if_icmp .lt 7, 3) := by decide +kernel
theorem dJ9_max_7cf53_5 : decode cJ9_max_7cf53 5 = .ok (.iload_n 0, 1) := by decide +kernel
theorem dJ9_max_7cf53_6 : decode cJ9_max_7cf53 6 = .ok (.goto 4, 3) := by decide +kernel
theorem dJ9_max_7cf53_9 : decode cJ9_max_7cf53 9 = .ok (.iload_n 1, 1) := by decide +kernel
theorem dJ9_max_7cf53_10 : decode cJ9_max_7cf53 10 = .ok (.ireturn, 1) := by decide +kernel
theorem dJ9_min_7cf53_0 : decode cJ9_min_7cf53 0 = .ok (.iload_n 0, 1) := by decide +kernel
theorem dJ9_min_7cf53_1 : decode cJ9_min_7cf53 1 = .ok (.iload_n 1, 1) := by decide +kernel
theorem dJ9_min_7cf53_2 : decode cJ9_min_7cf53 2 = .ok (.if_icmp .gt 7, 3) := by decide +kernel
theorem dJ9_min_7cf53_5 : decode cJ9_min_7cf53 5 = .ok (.iload_n 0, 1) := by decide +kernel
theorem dJ9_min_7cf53_6 : decode cJ9_min_7cf53 6 = .ok (.goto 4, 3) := by decide +kernel
theorem dJ9_min_7cf53_9 : decode cJ9_min_7cf53 9 = .ok (.iload_n 1, 1) := by decide +kernel
theorem dJ9_min_7cf53_10 : decode cJ9_min_7cf53 10 = .ok (.ireturn, 1) := by decide +kernel
theorem dL_law_0 : decode cL_law 0 = .ok (.new 7, 3) := by decide +kernel
theorem dL_law_3 : decode cL_law 3 = .ok (.dup, 1) := by decide +kernel
theorem dL_law_4 : decode cL_law 4 = .ok (.invokespecial 9, 3) := by decide +kernel
theorem dL_law_7 : decode cL_law 7 = .ok (.astore_n 1, 1) := by decide +kernel
theorem dL_law_8 : decode cL_law 8 = .ok (.new 10, 3) := by decide +kernel
theorem dL_law_11 : decode cL_law 11 = .ok (.dup, 1) := by decide +kernel
theorem dL_law_12 : decode cL_law 12 = .ok (.invokespecial 12, 3) := by decide +kernel
theorem dL_law_15 : decode cL_law 15 = .ok (.astore_n 2, 1) := by decide +kernel
theorem dL_law_16 : decode cL_law 16 = .ok (.iconst 0, 1) := by decide +kernel
theorem dL_law_17 : decode cL_law 17 = .ok (.istore_n 3, 1) := by decide +kernel
theorem dL_law_18 : decode cL_law 18 = .ok (.iload_n 3, 1) := by decide +kernel
theorem dL_law_19 : decode cL_law 19 = .ok (.aload_n 0, 1) := by decide +kernel
theorem dL_law_20 : decode cL_law 20 = .ok (.arraylength, 1) := by decide +kernel
theorem dL_law_21 : decode cL_law 21 = .ok (.bipush 6, 2) := by decide +kernel
theorem dL_law_23 : decode cL_law 23 = .ok (.isub, 1) := by decide +kernel
theorem dL_law_24 : decode cL_law 24 = .ok (.if_icmp .gt 1498, 3) := by decide +kernel
theorem dL_law_27 : decode cL_law 27 = .ok (.aload_n 0, 1) := by decide +kernel
theorem dL_law_28 : decode cL_law 28 = .ok (.iload_n 3, 1) := by decide +kernel
theorem dL_law_29 : decode cL_law 29 = .ok (.iaload, 1) := by decide +kernel
theorem dL_law_30 : decode cL_law 30 = .ok (.bipush 63, 2) := by decide +kernel
theorem dL_law_32 : decode cL_law 32 = .ok (.iand, 1) := by decide +kernel
theorem dL_law_33 : decode cL_law 33 = .ok (.tableswitch 1483 0 37 #[167, 200, 223, 246, 269, 342, 375, 438, 481, 524, 567, 600, 614, 627, 670, 703, 726, 759, 782, 815, 848, 891, 924, 947, 970, 983, 1056, 1119, 1182, 1215, 1278, 1301, 1334, 1377, 1410, 1423, 1446, 1469], 167) := by decide +kernel
theorem dL_law_200 : decode cL_law 200 = .ok (.aload_n 1, 1) := by decide +kernel
theorem dL_law_201 : decode cL_law 201 = .ok (.aload_n 0, 1) := by decide +kernel
theorem dL_law_202 : decode cL_law 202 = .ok (.iload_n 3, 1) := by decide +kernel
theorem dL_law_203 : decode cL_law 203 = .ok (.iconst 1, 1) := by decide +kernel
theorem dL_law_204 : decode cL_law 204 = .ok (.iadd, 1) := by decide +kernel
theorem dL_law_205 : decode cL_law 205 = .ok (.iaload, 1) := by decide +kernel
theorem dL_law_206 : decode cL_law 206 = .ok (.aload_n 0, 1) := by decide +kernel
theorem dL_law_207 : decode cL_law 207 = .ok (.iload_n 3, 1) := by decide +kernel
theorem dL_law_208 : decode cL_law 208 = .ok (.iconst 2, 1) := by decide +kernel
theorem dL_law_209 : decode cL_law 209 = .ok (.iadd, 1) := by decide +kernel
theorem dL_law_210 : decode cL_law 210 = .ok (.iaload, 1) := by decide +kernel
theorem dL_law_211 : decode cL_law 211 = .ok (.invokevirtual 13, 3) := by decide +kernel
theorem dL_law_214 : decode cL_law 214 = .ok (.aload_n 2, 1) := by decide +kernel
theorem dL_law_215 : decode cL_law 215 = .ok (.aload_n 0, 1) := by decide +kernel
theorem dL_law_216 : decode cL_law 216 = .ok (.iload_n 3, 1) := by decide +kernel
theorem dL_law_217 : decode cL_law 217 = .ok (.iconst 1, 1) := by decide +kernel
theorem dL_law_218 : decode cL_law 218 = .ok (.iadd, 1) := by decide +kernel
theorem dL_law_219 : decode cL_law 219 = .ok (.iaload, 1) := by decide +kernel
theorem dL_law_220 : decode cL_law 220 = .ok (.aload_n 0, 1) := by decide +kernel
theorem dL_law_221 : decode cL_law 221 = .ok (.iload_n 3, 1) := by decide +kernel
theorem dL_law_222 : decode cL_law 222 = .ok (.iconst 2, 1) := by decide +kernel
theorem dL_law_223 : decode cL_law 223 = .ok (.iadd, 1) := by decide +kernel
theorem dL_law_224 : decode cL_law 224 = .ok (.iaload, 1) := by decide +kernel
theorem dL_law_225 : decode cL_law 225 = .ok (.invokevirtual 17, 3) := by decide +kernel
theorem dL_law_228 : decode cL_law 228 = .ok (.if_icmp .eq 1288, 3) := by decide +kernel
theorem dL_law_231 : decode cL_law 231 = .ok (.iconst 0, 1) := by decide +kernel
theorem dL_law_232 : decode cL_law 232 = .ok (.ireturn, 1) := by decide +kernel
theorem dL_law_233 : decode cL_law 233 = .ok (.aload_n 1, 1) := by decide +kernel
theorem dL_law_234 : decode cL_law 234 = .ok (.aload_n 0, 1) := by decide +kernel
theorem dL_law_235 : decode cL_law 235 = .ok (.iload_n 3, 1) := by decide +kernel
theorem dL_law_236 : decode cL_law 236 = .ok (.iconst 1, 1) := by decide +kernel
theorem dL_law_237 : decode cL_law 237 = .ok (.iadd, 1) := by decide +kernel
theorem dL_law_238 : decode cL_law 238 = .ok (.iaload, 1) := by decide +kernel
theorem dL_law_239 : decode cL_law 239 = .ok (.invokevirtual 18, 3) := by decide +kernel
theorem dL_law_242 : decode cL_law 242 = .ok (.aload_n 2, 1) := by decide +kernel
theorem dL_law_243 : decode cL_law 243 = .ok (.aload_n 0, 1) := by decide +kernel
theorem dL_law_244 : decode cL_law 244 = .ok (.iload_n 3, 1) := by decide +kernel
theorem dL_law_245 : decode cL_law 245 = .ok (.iconst 1, 1) := by decide +kernel
theorem dL_law_246 : decode cL_law 246 = .ok (.iadd, 1) := by decide +kernel
theorem dL_law_247 : decode cL_law 247 = .ok (.iaload, 1) := by decide +kernel
theorem dL_law_248 : decode cL_law 248 = .ok (.invokevirtual 22, 3) := by decide +kernel
theorem dL_law_251 : decode cL_law 251 = .ok (.if_icmp .eq 1265, 3) := by decide +kernel
theorem dL_law_254 : decode cL_law 254 = .ok (.iconst 0, 1) := by decide +kernel
theorem dL_law_255 : decode cL_law 255 = .ok (.ireturn, 1) := by decide +kernel
theorem dL_law_256 : decode cL_law 256 = .ok (.aload_n 1, 1) := by decide +kernel
theorem dL_law_257 : decode cL_law 257 = .ok (.aload_n 0, 1) := by decide +kernel
theorem dL_law_258 : decode cL_law 258 = .ok (.iload_n 3, 1) := by decide +kernel
theorem dL_law_259 : decode cL_law 259 = .ok (.iconst 1, 1) := by decide +kernel
theorem dL_law_260 : decode cL_law 260 = .ok (.iadd, 1) := by decide +kernel
theorem dL_law_261 : decode cL_law 261 = .ok (.iaload, 1) := by decide +kernel
theorem dL_law_262 : decode cL_law 262 = .ok (.invokevirtual 23, 3) := by decide +kernel
theorem dL_law_265 : decode cL_law 265 = .ok (.aload_n 2, 1) := by decide +kernel
theorem dL_law_266 : decode cL_law 266 = .ok (.aload_n 0, 1) := by decide +kernel
theorem dL_law_267 : decode cL_law 267 = .ok (.iload_n 3, 1) := by decide +kernel
theorem dL_law_268 : decode cL_law 268 = .ok (.iconst 1, 1) := by decide +kernel
theorem dL_law_269 : decode cL_law 269 = .ok (.iadd, 1) := by decide +kernel
theorem dL_law_270 : decode cL_law 270 = .ok (.iaload, 1) := by decide +kernel
theorem dL_law_271 : decode cL_law 271 = .ok (.invokevirtual 26, 3) := by decide +kernel
theorem dL_law_274 : decode cL_law 274 = .ok (.if_icmp .eq 1242, 3) := by decide +kernel
theorem dL_law_277 : decode cL_law 277 = .ok (.iconst 0, 1) := by decide +kernel
theorem dL_law_278 : decode cL_law 278 = .ok (.ireturn, 1) := by decide +kernel
theorem dL_law_279 : decode cL_law 279 = .ok (.aload_n 1, 1) := by decide +kernel
theorem dL_law_280 : decode cL_law 280 = .ok (.aload_n 0, 1) := by decide +kernel
theorem dL_law_281 : decode cL_law 281 = .ok (.iload_n 3, 1) := by decide +kernel
theorem dL_law_282 : decode cL_law 282 = .ok (.iconst 1, 1) := by decide +kernel
theorem dL_law_283 : decode cL_law 283 = .ok (.iadd, 1) := by decide +kernel
theorem dL_law_284 : decode cL_law 284 = .ok (.iaload, 1) := by decide +kernel
theorem dL_law_285 : decode cL_law 285 = .ok (.invokevirtual 27, 3) := by decide +kernel
theorem dL_law_288 : decode cL_law 288 = .ok (.aload_n 2, 1) := by decide +kernel
theorem dL_law_289 : decode cL_law 289 = .ok (.aload_n 0, 1) := by decide +kernel
theorem dL_law_290 : decode cL_law 290 = .ok (.iload_n 3, 1) := by decide +kernel
theorem dL_law_291 : decode cL_law 291 = .ok (.iconst 1, 1) := by decide +kernel
theorem dL_law_292 : decode cL_law 292 = .ok (.iadd, 1) := by decide +kernel
theorem dL_law_293 : decode cL_law 293 = .ok (.iaload, 1) := by decide +kernel
theorem dL_law_294 : decode cL_law 294 = .ok (.invokevirtual 30, 3) := by decide +kernel
theorem dL_law_297 : decode cL_law 297 = .ok (.if_icmp .eq 1219, 3) := by decide +kernel
theorem dL_law_300 : decode cL_law 300 = .ok (.iconst 0, 1) := by decide +kernel
theorem dL_law_301 : decode cL_law 301 = .ok (.ireturn, 1) := by decide +kernel
theorem dL_law_302 : decode cL_law 302 = .ok (.aload_n 1, 1) := by decide +kernel
theorem dL_law_303 : decode cL_law 303 = .ok (.aload_n 0, 1) := by decide +kernel
theorem dL_law_304 : decode cL_law 304 = .ok (.iload_n 3, 1) := by decide +kernel
theorem dL_law_305 : decode cL_law 305 = .ok (.iconst 1, 1) := by decide +kernel
theorem dL_law_306 : decode cL_law 306 = .ok (.iadd, 1) := by decide +kernel
theorem dL_law_307 : decode cL_law 307 = .ok (.iaload, 1) := by decide +kernel
theorem dL_law_308 : decode cL_law 308 = .ok (.aload_n 0, 1) := by decide +kernel
theorem dL_law_309 : decode cL_law 309 = .ok (.iload_n 3, 1) := by decide +kernel
theorem dL_law_310 : decode cL_law 310 = .ok (.iconst 2, 1) := by decide +kernel
theorem dL_law_311 : decode cL_law 311 = .ok (.iadd, 1) := by decide +kernel
theorem dL_law_312 : decode cL_law 312 = .ok (.iaload, 1) := by decide +kernel
theorem dL_law_313 : decode cL_law 313 = .ok (.aload_n 0, 1) := by decide +kernel
theorem dL_law_314 : decode cL_law 314 = .ok (.iload_n 3, 1) := by decide +kernel
theorem dL_law_315 : decode cL_law 315 = .ok (.iconst 3, 1) := by decide +kernel
theorem dL_law_316 : decode cL_law 316 = .ok (.iadd, 1) := by decide +kernel
theorem dL_law_317 : decode cL_law 317 = .ok (.iaload, 1) := by decide +kernel
theorem dL_law_318 : decode cL_law 318 = .ok (.i2l, 1) := by decide +kernel
theorem dL_law_319 : decode cL_law 319 = .ok (.bipush 32, 2) := by decide +kernel
theorem dL_law_321 : decode cL_law 321 = .ok (.lshl, 1) := by decide +kernel
theorem dL_law_322 : decode cL_law 322 = .ok (.aload_n 0, 1) := by decide +kernel
theorem dL_law_323 : decode cL_law 323 = .ok (.iload_n 3, 1) := by decide +kernel
theorem dL_law_324 : decode cL_law 324 = .ok (.iconst 4, 1) := by decide +kernel
theorem dL_law_325 : decode cL_law 325 = .ok (.iadd, 1) := by decide +kernel
theorem dL_law_326 : decode cL_law 326 = .ok (.iaload, 1) := by decide +kernel
theorem dL_law_327 : decode cL_law 327 = .ok (.i2l, 1) := by decide +kernel
theorem dL_law_328 : decode cL_law 328 = .ok (.ldc2_w 31, 3) := by decide +kernel
theorem dL_law_331 : decode cL_law 331 = .ok (.land, 1) := by decide +kernel
theorem dL_law_332 : decode cL_law 332 = .ok (.lor, 1) := by decide +kernel
theorem dL_law_333 : decode cL_law 333 = .ok (.invokevirtual 33, 3) := by decide +kernel
theorem dL_law_336 : decode cL_law 336 = .ok (.aload_n 2, 1) := by decide +kernel
theorem dL_law_337 : decode cL_law 337 = .ok (.aload_n 0, 1) := by decide +kernel
theorem dL_law_338 : decode cL_law 338 = .ok (.iload_n 3, 1) := by decide +kernel
theorem dL_law_339 : decode cL_law 339 = .ok (.iconst 1, 1) := by decide +kernel
theorem dL_law_340 : decode cL_law 340 = .ok (.iadd, 1) := by decide +kernel
theorem dL_law_341 : decode cL_law 341 = .ok (.iaload, 1) := by decide +kernel
theorem dL_law_342 : decode cL_law 342 = .ok (.aload_n 0, 1) := by decide +kernel
theorem dL_law_343 : decode cL_law 343 = .ok (.iload_n 3, 1) := by decide +kernel
theorem dL_law_344 : decode cL_law 344 = .ok (.iconst 2, 1) := by decide +kernel
theorem dL_law_345 : decode cL_law 345 = .ok (.iadd, 1) := by decide +kernel
theorem dL_law_346 : decode cL_law 346 = .ok (.iaload, 1) := by decide +kernel
theorem dL_law_347 : decode cL_law 347 = .ok (.aload_n 0, 1) := by decide +kernel
theorem dL_law_348 : decode cL_law 348 = .ok (.iload_n 3, 1) := by decide +kernel
theorem dL_law_349 : decode cL_law 349 = .ok (.iconst 3, 1) := by decide +kernel
theorem dL_law_350 : decode cL_law 350 = .ok (.iadd, 1) := by decide +kernel
theorem dL_law_351 : decode cL_law 351 = .ok (.iaload, 1) := by decide +kernel
theorem dL_law_352 : decode cL_law 352 = .ok (.i2l, 1) := by decide +kernel
theorem dL_law_353 : decode cL_law 353 = .ok (.bipush 32, 2) := by decide +kernel
theorem dL_law_355 : decode cL_law 355 = .ok (.lshl, 1) := by decide +kernel
theorem dL_law_356 : decode cL_law 356 = .ok (.aload_n 0, 1) := by decide +kernel
theorem dL_law_357 : decode cL_law 357 = .ok (.iload_n 3, 1) := by decide +kernel
theorem dL_law_358 : decode cL_law 358 = .ok (.iconst 4, 1) := by decide +kernel
theorem dL_law_359 : decode cL_law 359 = .ok (.iadd, 1) := by decide +kernel
theorem dL_law_360 : decode cL_law 360 = .ok (.iaload, 1) := by decide +kernel
theorem dL_law_361 : decode cL_law 361 = .ok (.i2l, 1) := by decide +kernel
theorem dL_law_362 : decode cL_law 362 = .ok (.ldc2_w 31, 3) := by decide +kernel
theorem dL_law_365 : decode cL_law 365 = .ok (.land, 1) := by decide +kernel
theorem dL_law_366 : decode cL_law 366 = .ok (.lor, 1) := by decide +kernel
theorem dL_law_367 : decode cL_law 367 = .ok (.invokevirtual 37, 3) := by decide +kernel
theorem dL_law_370 : decode cL_law 370 = .ok (.if_icmp .eq 1146, 3) := by decide +kernel
theorem dL_law_373 : decode cL_law 373 = .ok (.iconst 0, 1) := by decide +kernel
theorem dL_law_374 : decode cL_law 374 = .ok (.ireturn, 1) := by decide +kernel
theorem dL_law_375 : decode cL_law 375 = .ok (.aload_n 1, 1) := by decide +kernel
theorem dL_law_376 : decode cL_law 376 = .ok (.aload_n 0, 1) := by decide +kernel
theorem dL_law_377 : decode cL_law 377 = .ok (.iload_n 3, 1) := by decide +kernel
theorem dL_law_378 : decode cL_law 378 = .ok (.iconst 1, 1) := by decide +kernel
theorem dL_law_379 : decode cL_law 379 = .ok (.iadd, 1) := by decide +kernel
theorem dL_law_380 : decode cL_law 380 = .ok (.iaload, 1) := by decide +kernel
theorem dL_law_381 : decode cL_law 381 = .ok (.aload_n 0, 1) := by decide +kernel
theorem dL_law_382 : decode cL_law 382 = .ok (.iload_n 3, 1) := by decide +kernel
theorem dL_law_383 : decode cL_law 383 = .ok (.iconst 2, 1) := by decide +kernel
theorem dL_law_384 : decode cL_law 384 = .ok (.iadd, 1) := by decide +kernel
theorem dL_law_385 : decode cL_law 385 = .ok (.iaload, 1) := by decide +kernel
theorem dL_law_386 : decode cL_law 386 = .ok (.invokevirtual 38, 3) := by decide +kernel
theorem dL_law_389 : decode cL_law 389 = .ok (.aload_n 2, 1) := by decide +kernel
theorem dL_law_390 : decode cL_law 390 = .ok (.aload_n 0, 1) := by decide +kernel
theorem dL_law_391 : decode cL_law 391 = .ok (.iload_n 3, 1) := by decide +kernel
theorem dL_law_392 : decode cL_law 392 = .ok (.iconst 1, 1) := by decide +kernel
theorem dL_law_393 : decode cL_law 393 = .ok (.iadd, 1) := by decide +kernel
theorem dL_law_394 : decode cL_law 394 = .ok (.iaload, 1) := by decide +kernel
theorem dL_law_395 : decode cL_law 395 = .ok (.aload_n 0, 1) := by decide +kernel
theorem dL_law_396 : decode cL_law 396 = .ok (.iload_n 3, 1) := by decide +kernel
theorem dL_law_397 : decode cL_law 397 = .ok (.iconst 2, 1) := by decide +kernel
theorem dL_law_398 : decode cL_law 398 = .ok (.iadd, 1) := by decide +kernel
theorem dL_law_399 : decode cL_law 399 = .ok (.iaload, 1) := by decide +kernel
theorem dL_law_400 : decode cL_law 400 = .ok (.invokevirtual 41, 3) := by decide +kernel
theorem dL_law_403 : decode cL_law 403 = .ok (.if_icmp .eq 1113, 3) := by decide +kernel
theorem dL_law_406 : decode cL_law 406 = .ok (.iconst 0, 1) := by decide +kernel
theorem dL_law_407 : decode cL_law 407 = .ok (.ireturn, 1) := by decide +kernel
theorem dL_law_408 : decode cL_law 408 = .ok (.aload_n 1, 1) := by decide +kernel
theorem dL_law_409 : decode cL_law 409 = .ok (.aload_n 0, 1) := by decide +kernel
theorem dL_law_410 : decode cL_law 410 = .ok (.iload_n 3, 1) := by decide +kernel
theorem dL_law_411 : decode cL_law 411 = .ok (.iconst 1, 1) := by decide +kernel
theorem dL_law_412 : decode cL_law 412 = .ok (.iadd, 1) := by decide +kernel
theorem dL_law_413 : decode cL_law 413 = .ok (.iaload, 1) := by decide +kernel
theorem dL_law_414 : decode cL_law 414 = .ok (.aload_n 0, 1) := by decide +kernel
theorem dL_law_415 : decode cL_law 415 = .ok (.iload_n 3, 1) := by decide +kernel
theorem dL_law_416 : decode cL_law 416 = .ok (.iconst 2, 1) := by decide +kernel
theorem dL_law_417 : decode cL_law 417 = .ok (.iadd, 1) := by decide +kernel
theorem dL_law_418 : decode cL_law 418 = .ok (.iaload, 1) := by decide +kernel
theorem dL_law_419 : decode cL_law 419 = .ok (.aload_n 0, 1) := by decide +kernel
theorem dL_law_420 : decode cL_law 420 = .ok (.iload_n 3, 1) := by decide +kernel
theorem dL_law_421 : decode cL_law 421 = .ok (.iconst 3, 1) := by decide +kernel
theorem dL_law_422 : decode cL_law 422 = .ok (.iadd, 1) := by decide +kernel
theorem dL_law_423 : decode cL_law 423 = .ok (.iaload, 1) := by decide +kernel
theorem dL_law_424 : decode cL_law 424 = .ok (.aload_n 0, 1) := by decide +kernel
theorem dL_law_425 : decode cL_law 425 = .ok (.iload_n 3, 1) := by decide +kernel
theorem dL_law_426 : decode cL_law 426 = .ok (.iconst 4, 1) := by decide +kernel
theorem dL_law_427 : decode cL_law 427 = .ok (.iadd, 1) := by decide +kernel
theorem dL_law_428 : decode cL_law 428 = .ok (.iaload, 1) := by decide +kernel
theorem dL_law_429 : decode cL_law 429 = .ok (.aload_n 0, 1) := by decide +kernel
theorem dL_law_430 : decode cL_law 430 = .ok (.iload_n 3, 1) := by decide +kernel
theorem dL_law_431 : decode cL_law 431 = .ok (.iconst 5, 1) := by decide +kernel
theorem dL_law_432 : decode cL_law 432 = .ok (.iadd, 1) := by decide +kernel
theorem dL_law_433 : decode cL_law 433 = .ok (.iaload, 1) := by decide +kernel
theorem dL_law_434 : decode cL_law 434 = .ok (.invokevirtual 42, 3) := by decide +kernel
theorem dL_law_437 : decode cL_law 437 = .ok (.aload_n 2, 1) := by decide +kernel
theorem dL_law_438 : decode cL_law 438 = .ok (.aload_n 0, 1) := by decide +kernel
theorem dL_law_439 : decode cL_law 439 = .ok (.iload_n 3, 1) := by decide +kernel
theorem dL_law_440 : decode cL_law 440 = .ok (.iconst 1, 1) := by decide +kernel
theorem dL_law_441 : decode cL_law 441 = .ok (.iadd, 1) := by decide +kernel
theorem dL_law_442 : decode cL_law 442 = .ok (.iaload, 1) := by decide +kernel
theorem dL_law_443 : decode cL_law 443 = .ok (.aload_n 0, 1) := by decide +kernel
theorem dL_law_444 : decode cL_law 444 = .ok (.iload_n 3, 1) := by decide +kernel
theorem dL_law_445 : decode cL_law 445 = .ok (.iconst 2, 1) := by decide +kernel
theorem dL_law_446 : decode cL_law 446 = .ok (.iadd, 1) := by decide +kernel
theorem dL_law_447 : decode cL_law 447 = .ok (.iaload, 1) := by decide +kernel
theorem dL_law_448 : decode cL_law 448 = .ok (.aload_n 0, 1) := by decide +kernel
theorem dL_law_449 : decode cL_law 449 = .ok (.iload_n 3, 1) := by decide +kernel
theorem dL_law_450 : decode cL_law 450 = .ok (.iconst 3, 1) := by decide +kernel
theorem dL_law_451 : decode cL_law 451 = .ok (.iadd, 1) := by decide +kernel
theorem dL_law_452 : decode cL_law 452 = .ok (.iaload, 1) := by decide +kernel
theorem dL_law_453 : decode cL_law 453 = .ok (.aload_n 0, 1) := by decide +kernel
theorem dL_law_454 : decode cL_law 454 = .ok (.iload_n 3, 1) := by decide +kernel
theorem dL_law_455 : decode cL_law 455 = .ok (.iconst 4, 1) := by decide +kernel
theorem dL_law_456 : decode cL_law 456 = .ok (.iadd, 1) := by decide +kernel
theorem dL_law_457 : decode cL_law 457 = .ok (.iaload, 1) := by decide +kernel
theorem dL_law_458 : decode cL_law 458 = .ok (.aload_n 0, 1) := by decide +kernel
theorem dL_law_459 : decode cL_law 459 = .ok (.iload_n 3, 1) := by decide +kernel
theorem dL_law_460 : decode cL_law 460 = .ok (.iconst 5, 1) := by decide +kernel
theorem dL_law_461 : decode cL_law 461 = .ok (.iadd, 1) := by decide +kernel
theorem dL_law_462 : decode cL_law 462 = .ok (.iaload, 1) := by decide +kernel
theorem dL_law_463 : decode cL_law 463 = .ok (.invokevirtual 46, 3) := by decide +kernel
theorem dL_law_466 : decode cL_law 466 = .ok (.if_icmp .eq 1050, 3) := by decide +kernel
theorem dL_law_469 : decode cL_law 469 = .ok (.iconst 0, 1) := by decide +kernel
theorem dL_law_470 : decode cL_law 470 = .ok (.ireturn, 1) := by decide +kernel
theorem dL_law_471 : decode cL_law 471 = .ok (.aload_n 1, 1) := by decide +kernel
theorem dL_law_472 : decode cL_law 472 = .ok (.aload_n 0, 1) := by decide +kernel
theorem dL_law_473 : decode cL_law 473 = .ok (.iload_n 3, 1) := by decide +kernel
theorem dL_law_474 : decode cL_law 474 = .ok (.iconst 1, 1) := by decide +kernel
theorem dL_law_475 : decode cL_law 475 = .ok (.iadd, 1) := by decide +kernel
theorem dL_law_476 : decode cL_law 476 = .ok (.iaload, 1) := by decide +kernel
theorem dL_law_477 : decode cL_law 477 = .ok (.aload_n 0, 1) := by decide +kernel
theorem dL_law_478 : decode cL_law 478 = .ok (.iload_n 3, 1) := by decide +kernel
theorem dL_law_479 : decode cL_law 479 = .ok (.iconst 2, 1) := by decide +kernel
theorem dL_law_480 : decode cL_law 480 = .ok (.iadd, 1) := by decide +kernel
theorem dL_law_481 : decode cL_law 481 = .ok (.iaload, 1) := by decide +kernel
theorem dL_law_482 : decode cL_law 482 = .ok (.aload_n 0, 1) := by decide +kernel
theorem dL_law_483 : decode cL_law 483 = .ok (.iload_n 3, 1) := by decide +kernel
theorem dL_law_484 : decode cL_law 484 = .ok (.iconst 3, 1) := by decide +kernel
theorem dL_law_485 : decode cL_law 485 = .ok (.iadd, 1) := by decide +kernel
theorem dL_law_486 : decode cL_law 486 = .ok (.iaload, 1) := by decide +kernel
theorem dL_law_487 : decode cL_law 487 = .ok (.invokevirtual 47, 3) := by decide +kernel
theorem dL_law_490 : decode cL_law 490 = .ok (.aload_n 2, 1) := by decide +kernel
theorem dL_law_491 : decode cL_law 491 = .ok (.aload_n 0, 1) := by decide +kernel
theorem dL_law_492 : decode cL_law 492 = .ok (.iload_n 3, 1) := by decide +kernel
theorem dL_law_493 : decode cL_law 493 = .ok (.iconst 1, 1) := by decide +kernel
theorem dL_law_494 : decode cL_law 494 = .ok (.iadd, 1) := by decide +kernel
theorem dL_law_495 : decode cL_law 495 = .ok (.iaload, 1) := by decide +kernel
theorem dL_law_496 : decode cL_law 496 = .ok (.aload_n 0, 1) := by decide +kernel
theorem dL_law_497 : decode cL_law 497 = .ok (.iload_n 3, 1) := by decide +kernel
theorem dL_law_498 : decode cL_law 498 = .ok (.iconst 2, 1) := by decide +kernel
theorem dL_law_499 : decode cL_law 499 = .ok (.iadd, 1) := by decide +kernel
theorem dL_law_500 : decode cL_law 500 = .ok (.iaload, 1) := by decide +kernel
theorem dL_law_501 : decode cL_law 501 = .ok (.aload_n 0, 1) := by decide +kernel
theorem dL_law_502 : decode cL_law 502 = .ok (.iload_n 3, 1) := by decide +kernel
theorem dL_law_503 : decode cL_law 503 = .ok (.iconst 3, 1) := by decide +kernel
theorem dL_law_504 : decode cL_law 504 = .ok (.iadd, 1) := by decide +kernel
theorem dL_law_505 : decode cL_law 505 = .ok (.iaload, 1) := by decide +kernel
theorem dL_law_506 : decode cL_law 506 = .ok (.invokevirtual 51, 3) := by decide +kernel
theorem dL_law_509 : decode cL_law 509 = .ok (.if_icmp .eq 1007, 3) := by decide +kernel
theorem dL_law_512 : decode cL_law 512 = .ok (.iconst 0, 1) := by decide +kernel
theorem dL_law_513 : decode cL_law 513 = .ok (.ireturn, 1) := by decide +kernel
theorem dL_law_514 : decode cL_law 514 = .ok (.aload_n 1, 1) := by decide +kernel
theorem dL_law_515 : decode cL_law 515 = .ok (.aload_n 0, 1) := by decide +kernel
theorem dL_law_516 : decode cL_law 516 = .ok (.iload_n 3, 1) := by decide +kernel
theorem dL_law_517 : decode cL_law 517 = .ok (.iconst 1, 1) := by decide +kernel
theorem dL_law_518 : decode cL_law 518 = .ok (.iadd, 1) := by decide +kernel
theorem dL_law_519 : decode cL_law 519 = .ok (.iaload, 1) := by decide +kernel
theorem dL_law_520 : decode cL_law 520 = .ok (.aload_n 0, 1) := by decide +kernel
theorem dL_law_521 : decode cL_law 521 = .ok (.iload_n 3, 1) := by decide +kernel
theorem dL_law_522 : decode cL_law 522 = .ok (.iconst 2, 1) := by decide +kernel
theorem dL_law_523 : decode cL_law 523 = .ok (.iadd, 1) := by decide +kernel
theorem dL_law_524 : decode cL_law 524 = .ok (.iaload, 1) := by decide +kernel
theorem dL_law_525 : decode cL_law 525 = .ok (.aload_n 0, 1) := by decide +kernel
theorem dL_law_526 : decode cL_law 526 = .ok (.iload_n 3, 1) := by decide +kernel
theorem dL_law_527 : decode cL_law 527 = .ok (.iconst 3, 1) := by decide +kernel
theorem dL_law_528 : decode cL_law 528 = .ok (.iadd, 1) := by decide +kernel
theorem dL_law_529 : decode cL_law 529 = .ok (.iaload, 1) := by decide +kernel
theorem dL_law_530 : decode cL_law 530 = .ok (.invokevirtual 52, 3) := by decide +kernel
theorem dL_law_533 : decode cL_law 533 = .ok (.aload_n 2, 1) := by decide +kernel
theorem dL_law_534 : decode cL_law 534 = .ok (.aload_n 0, 1) := by decide +kernel
theorem dL_law_535 : decode cL_law 535 = .ok (.iload_n 3, 1) := by decide +kernel
theorem dL_law_536 : decode cL_law 536 = .ok (.iconst 1, 1) := by decide +kernel
theorem dL_law_537 : decode cL_law 537 = .ok (.iadd, 1) := by decide +kernel
theorem dL_law_538 : decode cL_law 538 = .ok (.iaload, 1) := by decide +kernel
theorem dL_law_539 : decode cL_law 539 = .ok (.aload_n 0, 1) := by decide +kernel
theorem dL_law_540 : decode cL_law 540 = .ok (.iload_n 3, 1) := by decide +kernel
theorem dL_law_541 : decode cL_law 541 = .ok (.iconst 2, 1) := by decide +kernel
theorem dL_law_542 : decode cL_law 542 = .ok (.iadd, 1) := by decide +kernel
theorem dL_law_543 : decode cL_law 543 = .ok (.iaload, 1) := by decide +kernel
theorem dL_law_544 : decode cL_law 544 = .ok (.aload_n 0, 1) := by decide +kernel
theorem dL_law_545 : decode cL_law 545 = .ok (.iload_n 3, 1) := by decide +kernel
theorem dL_law_546 : decode cL_law 546 = .ok (.iconst 3, 1) := by decide +kernel
theorem dL_law_547 : decode cL_law 547 = .ok (.iadd, 1) := by decide +kernel
theorem dL_law_548 : decode cL_law 548 = .ok (.iaload, 1) := by decide +kernel
theorem dL_law_549 : decode cL_law 549 = .ok (.invokevirtual 55, 3) := by decide +kernel
theorem dL_law_552 : decode cL_law 552 = .ok (.if_icmp .eq 964, 3) := by decide +kernel
theorem dL_law_555 : decode cL_law 555 = .ok (.iconst 0, 1) := by decide +kernel
theorem dL_law_556 : decode cL_law 556 = .ok (.ireturn, 1) := by decide +kernel
theorem dL_law_557 : decode cL_law 557 = .ok (.aload_n 1, 1) := by decide +kernel
theorem dL_law_558 : decode cL_law 558 = .ok (.aload_n 0, 1) := by decide +kernel
theorem dL_law_559 : decode cL_law 559 = .ok (.iload_n 3, 1) := by decide +kernel
theorem dL_law_560 : decode cL_law 560 = .ok (.iconst 1, 1) := by decide +kernel
theorem dL_law_561 : decode cL_law 561 = .ok (.iadd, 1) := by decide +kernel
theorem dL_law_562 : decode cL_law 562 = .ok (.iaload, 1) := by decide +kernel
theorem dL_law_563 : decode cL_law 563 = .ok (.aload_n 0, 1) := by decide +kernel
theorem dL_law_564 : decode cL_law 564 = .ok (.iload_n 3, 1) := by decide +kernel
theorem dL_law_565 : decode cL_law 565 = .ok (.iconst 2, 1) := by decide +kernel
theorem dL_law_566 : decode cL_law 566 = .ok (.iadd, 1) := by decide +kernel
theorem dL_law_567 : decode cL_law 567 = .ok (.iaload, 1) := by decide +kernel
theorem dL_law_568 : decode cL_law 568 = .ok (.aload_n 0, 1) := by decide +kernel
theorem dL_law_569 : decode cL_law 569 = .ok (.iload_n 3, 1) := by decide +kernel
theorem dL_law_570 : decode cL_law 570 = .ok (.iconst 3, 1) := by decide +kernel
theorem dL_law_571 : decode cL_law 571 = .ok (.iadd, 1) := by decide +kernel
theorem dL_law_572 : decode cL_law 572 = .ok (.iaload, 1) := by decide +kernel
theorem dL_law_573 : decode cL_law 573 = .ok (.invokevirtual 56, 3) := by decide +kernel
theorem dL_law_576 : decode cL_law 576 = .ok (.aload_n 2, 1) := by decide +kernel
theorem dL_law_577 : decode cL_law 577 = .ok (.aload_n 0, 1) := by decide +kernel
theorem dL_law_578 : decode cL_law 578 = .ok (.iload_n 3, 1) := by decide +kernel
theorem dL_law_579 : decode cL_law 579 = .ok (.iconst 1, 1) := by decide +kernel
theorem dL_law_580 : decode cL_law 580 = .ok (.iadd, 1) := by decide +kernel
theorem dL_law_581 : decode cL_law 581 = .ok (.iaload, 1) := by decide +kernel
theorem dL_law_582 : decode cL_law 582 = .ok (.aload_n 0, 1) := by decide +kernel
theorem dL_law_583 : decode cL_law 583 = .ok (.iload_n 3, 1) := by decide +kernel
theorem dL_law_584 : decode cL_law 584 = .ok (.iconst 2, 1) := by decide +kernel
theorem dL_law_585 : decode cL_law 585 = .ok (.iadd, 1) := by decide +kernel
theorem dL_law_586 : decode cL_law 586 = .ok (.iaload, 1) := by decide +kernel
theorem dL_law_587 : decode cL_law 587 = .ok (.aload_n 0, 1) := by decide +kernel
theorem dL_law_588 : decode cL_law 588 = .ok (.iload_n 3, 1) := by decide +kernel
theorem dL_law_589 : decode cL_law 589 = .ok (.iconst 3, 1) := by decide +kernel
theorem dL_law_590 : decode cL_law 590 = .ok (.iadd, 1) := by decide +kernel
theorem dL_law_591 : decode cL_law 591 = .ok (.iaload, 1) := by decide +kernel
theorem dL_law_592 : decode cL_law 592 = .ok (.invokevirtual 59, 3) := by decide +kernel
theorem dL_law_595 : decode cL_law 595 = .ok (.if_icmp .eq 921, 3) := by decide +kernel
theorem dL_law_598 : decode cL_law 598 = .ok (.iconst 0, 1) := by decide +kernel
theorem dL_law_599 : decode cL_law 599 = .ok (.ireturn, 1) := by decide +kernel
theorem dL_law_600 : decode cL_law 600 = .ok (.aload_n 1, 1) := by decide +kernel
theorem dL_law_601 : decode cL_law 601 = .ok (.aload_n 0, 1) := by decide +kernel
theorem dL_law_602 : decode cL_law 602 = .ok (.iload_n 3, 1) := by decide +kernel
theorem dL_law_603 : decode cL_law 603 = .ok (.iconst 1, 1) := by decide +kernel
theorem dL_law_604 : decode cL_law 604 = .ok (.iadd, 1) := by decide +kernel
theorem dL_law_605 : decode cL_law 605 = .ok (.iaload, 1) := by decide +kernel
theorem dL_law_606 : decode cL_law 606 = .ok (.aload_n 0, 1) := by decide +kernel
theorem dL_law_607 : decode cL_law 607 = .ok (.iload_n 3, 1) := by decide +kernel
theorem dL_law_608 : decode cL_law 608 = .ok (.iconst 2, 1) := by decide +kernel
theorem dL_law_609 : decode cL_law 609 = .ok (.iadd, 1) := by decide +kernel
theorem dL_law_610 : decode cL_law 610 = .ok (.iaload, 1) := by decide +kernel
theorem dL_law_611 : decode cL_law 611 = .ok (.invokevirtual 60, 3) := by decide +kernel
theorem dL_law_614 : decode cL_law 614 = .ok (.aload_n 2, 1) := by decide +kernel
theorem dL_law_615 : decode cL_law 615 = .ok (.aload_n 0, 1) := by decide +kernel
theorem dL_law_616 : decode cL_law 616 = .ok (.iload_n 3, 1) := by decide +kernel
theorem dL_law_617 : decode cL_law 617 = .ok (.iconst 1, 1) := by decide +kernel
theorem dL_law_618 : decode cL_law 618 = .ok (.iadd, 1) := by decide +kernel
theorem dL_law_619 : decode cL_law 619 = .ok (.iaload, 1) := by decide +kernel
theorem dL_law_620 : decode cL_law 620 = .ok (.aload_n 0, 1) := by decide +kernel
theorem dL_law_621 : decode cL_law 621 = .ok (.iload_n 3, 1) := by decide +kernel
theorem dL_law_622 : decode cL_law 622 = .ok (.iconst 2, 1) := by decide +kernel
theorem dL_law_623 : decode cL_law 623 = .ok (.iadd, 1) := by decide +kernel
theorem dL_law_624 : decode cL_law 624 = .ok (.iaload, 1) := by decide +kernel
theorem dL_law_625 : decode cL_law 625 = .ok (.invokevirtual 63, 3) := by decide +kernel
theorem dL_law_628 : decode cL_law 628 = .ok (.if_icmp .eq 888, 3) := by decide +kernel
theorem dL_law_631 : decode cL_law 631 = .ok (.iconst 0, 1) := by decide +kernel
theorem dL_law_632 : decode cL_law 632 = .ok (.ireturn, 1) := by decide +kernel
theorem dL_law_633 : decode cL_law 633 = .ok (.aload_n 1, 1) := by decide +kernel
theorem dL_law_634 : decode cL_law 634 = .ok (.invokevirtual 64, 3) := by decide +kernel
theorem dL_law_637 : decode cL_law 637 = .ok (.aload_n 2, 1) := by decide +kernel
theorem dL_law_638 : decode cL_law 638 = .ok (.invokevirtual 68, 3) := by decide +kernel
theorem dL_law_641 : decode cL_law 641 = .ok (.lcmp, 1) := by decide +kernel
theorem dL_law_642 : decode cL_law 642 = .ok (.ifCond .eq 874, 3) := by decide +kernel
theorem dL_law_645 : decode cL_law 645 = .ok (.iconst 0, 1) := by decide +kernel
theorem dL_law_646 : decode cL_law 646 = .ok (.ireturn, 1) := by decide +kernel
theorem dL_law_647 : decode cL_law 647 = .ok (.aload_n 1, 1) := by decide +kernel
theorem dL_law_648 : decode cL_law 648 = .ok (.invokevirtual 69, 3) := by decide +kernel
theorem dL_law_651 : decode cL_law 651 = .ok (.aload_n 2, 1) := by decide +kernel
theorem dL_law_652 : decode cL_law 652 = .ok (.invokevirtual 73, 3) := by decide +kernel
theorem dL_law_655 : decode cL_law 655 = .ok (.if_icmp .eq 861, 3) := by decide +kernel
theorem dL_law_658 : decode cL_law 658 = .ok (.iconst 0, 1) := by decide +kernel
theorem dL_law_659 : decode cL_law 659 = .ok (.ireturn, 1) := by decide +kernel
theorem dL_law_660 : decode cL_law 660 = .ok (.aload_n 1, 1) := by decide +kernel
theorem dL_law_661 : decode cL_law 661 = .ok (.aload_n 0, 1) := by decide +kernel
theorem dL_law_662 : decode cL_law 662 = .ok (.iload_n 3, 1) := by decide +kernel
theorem dL_law_663 : decode cL_law 663 = .ok (.iconst 1, 1) := by decide +kernel
theorem dL_law_664 : decode cL_law 664 = .ok (.iadd, 1) := by decide +kernel
theorem dL_law_665 : decode cL_law 665 = .ok (.iaload, 1) := by decide +kernel
theorem dL_law_666 : decode cL_law 666 = .ok (.aload_n 0, 1) := by decide +kernel
theorem dL_law_667 : decode cL_law 667 = .ok (.iload_n 3, 1) := by decide +kernel
theorem dL_law_668 : decode cL_law 668 = .ok (.iconst 2, 1) := by decide +kernel
theorem dL_law_669 : decode cL_law 669 = .ok (.iadd, 1) := by decide +kernel
theorem dL_law_670 : decode cL_law 670 = .ok (.iaload, 1) := by decide +kernel
theorem dL_law_671 : decode cL_law 671 = .ok (.aload_n 0, 1) := by decide +kernel
theorem dL_law_672 : decode cL_law 672 = .ok (.iload_n 3, 1) := by decide +kernel
theorem dL_law_673 : decode cL_law 673 = .ok (.iconst 3, 1) := by decide +kernel
theorem dL_law_674 : decode cL_law 674 = .ok (.iadd, 1) := by decide +kernel
theorem dL_law_675 : decode cL_law 675 = .ok (.iaload, 1) := by decide +kernel
theorem dL_law_676 : decode cL_law 676 = .ok (.invokevirtual 74, 3) := by decide +kernel
theorem dL_law_679 : decode cL_law 679 = .ok (.aload_n 2, 1) := by decide +kernel
theorem dL_law_680 : decode cL_law 680 = .ok (.aload_n 0, 1) := by decide +kernel
theorem dL_law_681 : decode cL_law 681 = .ok (.iload_n 3, 1) := by decide +kernel
theorem dL_law_682 : decode cL_law 682 = .ok (.iconst 1, 1) := by decide +kernel
theorem dL_law_683 : decode cL_law 683 = .ok (.iadd, 1) := by decide +kernel
theorem dL_law_684 : decode cL_law 684 = .ok (.iaload, 1) := by decide +kernel
theorem dL_law_685 : decode cL_law 685 = .ok (.aload_n 0, 1) := by decide +kernel
theorem dL_law_686 : decode cL_law 686 = .ok (.iload_n 3, 1) := by decide +kernel
theorem dL_law_687 : decode cL_law 687 = .ok (.iconst 2, 1) := by decide +kernel
theorem dL_law_688 : decode cL_law 688 = .ok (.iadd, 1) := by decide +kernel
theorem dL_law_689 : decode cL_law 689 = .ok (.iaload, 1) := by decide +kernel
theorem dL_law_690 : decode cL_law 690 = .ok (.aload_n 0, 1) := by decide +kernel
theorem dL_law_691 : decode cL_law 691 = .ok (.iload_n 3, 1) := by decide +kernel
theorem dL_law_692 : decode cL_law 692 = .ok (.iconst 3, 1) := by decide +kernel
theorem dL_law_693 : decode cL_law 693 = .ok (.iadd, 1) := by decide +kernel
theorem dL_law_694 : decode cL_law 694 = .ok (.iaload, 1) := by decide +kernel
theorem dL_law_695 : decode cL_law 695 = .ok (.invokevirtual 77, 3) := by decide +kernel
theorem dL_law_698 : decode cL_law 698 = .ok (.if_icmp .eq 818, 3) := by decide +kernel
theorem dL_law_701 : decode cL_law 701 = .ok (.iconst 0, 1) := by decide +kernel
theorem dL_law_702 : decode cL_law 702 = .ok (.ireturn, 1) := by decide +kernel
theorem dL_law_703 : decode cL_law 703 = .ok (.aload_n 1, 1) := by decide +kernel
theorem dL_law_704 : decode cL_law 704 = .ok (.aload_n 0, 1) := by decide +kernel
theorem dL_law_705 : decode cL_law 705 = .ok (.iload_n 3, 1) := by decide +kernel
theorem dL_law_706 : decode cL_law 706 = .ok (.iconst 1, 1) := by decide +kernel
theorem dL_law_707 : decode cL_law 707 = .ok (.iadd, 1) := by decide +kernel
theorem dL_law_708 : decode cL_law 708 = .ok (.iaload, 1) := by decide +kernel
theorem dL_law_709 : decode cL_law 709 = .ok (.aload_n 0, 1) := by decide +kernel
theorem dL_law_710 : decode cL_law 710 = .ok (.iload_n 3, 1) := by decide +kernel
theorem dL_law_711 : decode cL_law 711 = .ok (.iconst 2, 1) := by decide +kernel
theorem dL_law_712 : decode cL_law 712 = .ok (.iadd, 1) := by decide +kernel
theorem dL_law_713 : decode cL_law 713 = .ok (.iaload, 1) := by decide +kernel
theorem dL_law_714 : decode cL_law 714 = .ok (.invokevirtual 78, 3) := by decide +kernel
theorem dL_law_717 : decode cL_law 717 = .ok (.aload_n 2, 1) := by decide +kernel
theorem dL_law_718 : decode cL_law 718 = .ok (.aload_n 0, 1) := by decide +kernel
theorem dL_law_719 : decode cL_law 719 = .ok (.iload_n 3, 1) := by decide +kernel
theorem dL_law_720 : decode cL_law 720 = .ok (.iconst 1, 1) := by decide +kernel
theorem dL_law_721 : decode cL_law 721 = .ok (.iadd, 1) := by decide +kernel
theorem dL_law_722 : decode cL_law 722 = .ok (.iaload, 1) := by decide +kernel
theorem dL_law_723 : decode cL_law 723 = .ok (.aload_n 0, 1) := by decide +kernel
theorem dL_law_724 : decode cL_law 724 = .ok (.iload_n 3, 1) := by decide +kernel
theorem dL_law_725 : decode cL_law 725 = .ok (.iconst 2, 1) := by decide +kernel
theorem dL_law_726 : decode cL_law 726 = .ok (.iadd, 1) := by decide +kernel
theorem dL_law_727 : decode cL_law 727 = .ok (.iaload, 1) := by decide +kernel
theorem dL_law_728 : decode cL_law 728 = .ok (.invokevirtual 81, 3) := by decide +kernel
theorem dL_law_731 : decode cL_law 731 = .ok (.if_icmp .eq 785, 3) := by decide +kernel
theorem dL_law_734 : decode cL_law 734 = .ok (.iconst 0, 1) := by decide +kernel
theorem dL_law_735 : decode cL_law 735 = .ok (.ireturn, 1) := by decide +kernel
theorem dL_law_736 : decode cL_law 736 = .ok (.aload_n 1, 1) := by decide +kernel
theorem dL_law_737 : decode cL_law 737 = .ok (.aload_n 0, 1) := by decide +kernel
theorem dL_law_738 : decode cL_law 738 = .ok (.iload_n 3, 1) := by decide +kernel
theorem dL_law_739 : decode cL_law 739 = .ok (.iconst 1, 1) := by decide +kernel
theorem dL_law_740 : decode cL_law 740 = .ok (.iadd, 1) := by decide +kernel
theorem dL_law_741 : decode cL_law 741 = .ok (.iaload, 1) := by decide +kernel
theorem dL_law_742 : decode cL_law 742 = .ok (.invokevirtual 82, 3) := by decide +kernel
theorem dL_law_745 : decode cL_law 745 = .ok (.aload_n 2, 1) := by decide +kernel
theorem dL_law_746 : decode cL_law 746 = .ok (.aload_n 0, 1) := by decide +kernel
theorem dL_law_747 : decode cL_law 747 = .ok (.iload_n 3, 1) := by decide +kernel
theorem dL_law_748 : decode cL_law 748 = .ok (.iconst 1, 1) := by decide +kernel
theorem dL_law_749 : decode cL_law 749 = .ok (.iadd, 1) := by decide +kernel
theorem dL_law_750 : decode cL_law 750 = .ok (.iaload, 1) := by decide +kernel
theorem dL_law_751 : decode cL_law 751 = .ok (.invokevirtual 85, 3) := by decide +kernel
theorem dL_law_754 : decode cL_law 754 = .ok (.if_icmp .eq 762, 3) := by decide +kernel
theorem dL_law_757 : decode cL_law 757 = .ok (.iconst 0, 1) := by decide +kernel
theorem dL_law_758 : decode cL_law 758 = .ok (.ireturn, 1) := by decide +kernel
theorem dL_law_759 : decode cL_law 759 = .ok (.aload_n 1, 1) := by decide +kernel
theorem dL_law_760 : decode cL_law 760 = .ok (.aload_n 0, 1) := by decide +kernel
theorem dL_law_761 : decode cL_law 761 = .ok (.iload_n 3, 1) := by decide +kernel
theorem dL_law_762 : decode cL_law 762 = .ok (.iconst 1, 1) := by decide +kernel
theorem dL_law_763 : decode cL_law 763 = .ok (.iadd, 1) := by decide +kernel
theorem dL_law_764 : decode cL_law 764 = .ok (.iaload, 1) := by decide +kernel
theorem dL_law_765 : decode cL_law 765 = .ok (.aload_n 0, 1) := by decide +kernel
theorem dL_law_766 : decode cL_law 766 = .ok (.iload_n 3, 1) := by decide +kernel
theorem dL_law_767 : decode cL_law 767 = .ok (.iconst 2, 1) := by decide +kernel
theorem dL_law_768 : decode cL_law 768 = .ok (.iadd, 1) := by decide +kernel
theorem dL_law_769 : decode cL_law 769 = .ok (.iaload, 1) := by decide +kernel
theorem dL_law_770 : decode cL_law 770 = .ok (.invokevirtual 86, 3) := by decide +kernel
theorem dL_law_773 : decode cL_law 773 = .ok (.aload_n 2, 1) := by decide +kernel
theorem dL_law_774 : decode cL_law 774 = .ok (.aload_n 0, 1) := by decide +kernel
theorem dL_law_775 : decode cL_law 775 = .ok (.iload_n 3, 1) := by decide +kernel
theorem dL_law_776 : decode cL_law 776 = .ok (.iconst 1, 1) := by decide +kernel
theorem dL_law_777 : decode cL_law 777 = .ok (.iadd, 1) := by decide +kernel
theorem dL_law_778 : decode cL_law 778 = .ok (.iaload, 1) := by decide +kernel
theorem dL_law_779 : decode cL_law 779 = .ok (.aload_n 0, 1) := by decide +kernel
theorem dL_law_780 : decode cL_law 780 = .ok (.iload_n 3, 1) := by decide +kernel
theorem dL_law_781 : decode cL_law 781 = .ok (.iconst 2, 1) := by decide +kernel
theorem dL_law_782 : decode cL_law 782 = .ok (.iadd, 1) := by decide +kernel
theorem dL_law_783 : decode cL_law 783 = .ok (.iaload, 1) := by decide +kernel
theorem dL_law_784 : decode cL_law 784 = .ok (.invokevirtual 89, 3) := by decide +kernel
theorem dL_law_787 : decode cL_law 787 = .ok (.if_icmp .eq 729, 3) := by decide +kernel
theorem dL_law_790 : decode cL_law 790 = .ok (.iconst 0, 1) := by decide +kernel
theorem dL_law_791 : decode cL_law 791 = .ok (.ireturn, 1) := by decide +kernel
theorem dL_law_792 : decode cL_law 792 = .ok (.aload_n 1, 1) := by decide +kernel
theorem dL_law_793 : decode cL_law 793 = .ok (.aload_n 0, 1) := by decide +kernel
theorem dL_law_794 : decode cL_law 794 = .ok (.iload_n 3, 1) := by decide +kernel
theorem dL_law_795 : decode cL_law 795 = .ok (.iconst 1, 1) := by decide +kernel
theorem dL_law_796 : decode cL_law 796 = .ok (.iadd, 1) := by decide +kernel
theorem dL_law_797 : decode cL_law 797 = .ok (.iaload, 1) := by decide +kernel
theorem dL_law_798 : decode cL_law 798 = .ok (.invokevirtual 90, 3) := by decide +kernel
theorem dL_law_801 : decode cL_law 801 = .ok (.aload_n 2, 1) := by decide +kernel
theorem dL_law_802 : decode cL_law 802 = .ok (.aload_n 0, 1) := by decide +kernel
theorem dL_law_803 : decode cL_law 803 = .ok (.iload_n 3, 1) := by decide +kernel
theorem dL_law_804 : decode cL_law 804 = .ok (.iconst 1, 1) := by decide +kernel
theorem dL_law_805 : decode cL_law 805 = .ok (.iadd, 1) := by decide +kernel
theorem dL_law_806 : decode cL_law 806 = .ok (.iaload, 1) := by decide +kernel
theorem dL_law_807 : decode cL_law 807 = .ok (.invokevirtual 93, 3) := by decide +kernel
theorem dL_law_810 : decode cL_law 810 = .ok (.if_icmp .eq 706, 3) := by decide +kernel
theorem dL_law_813 : decode cL_law 813 = .ok (.iconst 0, 1) := by decide +kernel
theorem dL_law_814 : decode cL_law 814 = .ok (.ireturn, 1) := by decide +kernel
theorem dL_law_815 : decode cL_law 815 = .ok (.aload_n 1, 1) := by decide +kernel
theorem dL_law_816 : decode cL_law 816 = .ok (.aload_n 0, 1) := by decide +kernel
theorem dL_law_817 : decode cL_law 817 = .ok (.iload_n 3, 1) := by decide +kernel
theorem dL_law_818 : decode cL_law 818 = .ok (.iconst 1, 1) := by decide +kernel
theorem dL_law_819 : decode cL_law 819 = .ok (.iadd, 1) := by decide +kernel
theorem dL_law_820 : decode cL_law 820 = .ok (.iaload, 1) := by decide +kernel
theorem dL_law_821 : decode cL_law 821 = .ok (.aload_n 0, 1) := by decide +kernel
theorem dL_law_822 : decode cL_law 822 = .ok (.iload_n 3, 1) := by decide +kernel
theorem dL_law_823 : decode cL_law 823 = .ok (.iconst 2, 1) := by decide +kernel
theorem dL_law_824 : decode cL_law 824 = .ok (.iadd, 1) := by decide +kernel
theorem dL_law_825 : decode cL_law 825 = .ok (.iaload, 1) := by decide +kernel
theorem dL_law_826 : decode cL_law 826 = .ok (.invokevirtual 94, 3) := by decide +kernel
theorem dL_law_829 : decode cL_law 829 = .ok (.aload_n 2, 1) := by decide +kernel
theorem dL_law_830 : decode cL_law 830 = .ok (.aload_n 0, 1) := by decide +kernel
theorem dL_law_831 : decode cL_law 831 = .ok (.iload_n 3, 1) := by decide +kernel
theorem dL_law_832 : decode cL_law 832 = .ok (.iconst 1, 1) := by decide +kernel
theorem dL_law_833 : decode cL_law 833 = .ok (.iadd, 1) := by decide +kernel
theorem dL_law_834 : decode cL_law 834 = .ok (.iaload, 1) := by decide +kernel
theorem dL_law_835 : decode cL_law 835 = .ok (.aload_n 0, 1) := by decide +kernel
theorem dL_law_836 : decode cL_law 836 = .ok (.iload_n 3, 1) := by decide +kernel
theorem dL_law_837 : decode cL_law 837 = .ok (.iconst 2, 1) := by decide +kernel
theorem dL_law_838 : decode cL_law 838 = .ok (.iadd, 1) := by decide +kernel
theorem dL_law_839 : decode cL_law 839 = .ok (.iaload, 1) := by decide +kernel
theorem dL_law_840 : decode cL_law 840 = .ok (.invokevirtual 97, 3) := by decide +kernel
theorem dL_law_843 : decode cL_law 843 = .ok (.if_icmp .eq 673, 3) := by decide +kernel
theorem dL_law_846 : decode cL_law 846 = .ok (.iconst 0, 1) := by decide +kernel
theorem dL_law_847 : decode cL_law 847 = .ok (.ireturn, 1) := by decide +kernel
theorem dL_law_848 : decode cL_law 848 = .ok (.aload_n 1, 1) := by decide +kernel
theorem dL_law_849 : decode cL_law 849 = .ok (.aload_n 0, 1) := by decide +kernel
theorem dL_law_850 : decode cL_law 850 = .ok (.iload_n 3, 1) := by decide +kernel
theorem dL_law_851 : decode cL_law 851 = .ok (.iconst 1, 1) := by decide +kernel
theorem dL_law_852 : decode cL_law 852 = .ok (.iadd, 1) := by decide +kernel
theorem dL_law_853 : decode cL_law 853 = .ok (.iaload, 1) := by decide +kernel
theorem dL_law_854 : decode cL_law 854 = .ok (.aload_n 0, 1) := by decide +kernel
theorem dL_law_855 : decode cL_law 855 = .ok (.iload_n 3, 1) := by decide +kernel
theorem dL_law_856 : decode cL_law 856 = .ok (.iconst 2, 1) := by decide +kernel
theorem dL_law_857 : decode cL_law 857 = .ok (.iadd, 1) := by decide +kernel
theorem dL_law_858 : decode cL_law 858 = .ok (.iaload, 1) := by decide +kernel
theorem dL_law_859 : decode cL_law 859 = .ok (.invokevirtual 98, 3) := by decide +kernel
theorem dL_law_862 : decode cL_law 862 = .ok (.aload_n 2, 1) := by decide +kernel
theorem dL_law_863 : decode cL_law 863 = .ok (.aload_n 0, 1) := by decide +kernel
theorem dL_law_864 : decode cL_law 864 = .ok (.iload_n 3, 1) := by decide +kernel
theorem dL_law_865 : decode cL_law 865 = .ok (.iconst 1, 1) := by decide +kernel
theorem dL_law_866 : decode cL_law 866 = .ok (.iadd, 1) := by decide +kernel
theorem dL_law_867 : decode cL_law 867 = .ok (.iaload, 1) := by decide +kernel
theorem dL_law_868 : decode cL_law 868 = .ok (.aload_n 0, 1) := by decide +kernel
theorem dL_law_869 : decode cL_law 869 = .ok (.iload_n 3, 1) := by decide +kernel
theorem dL_law_870 : decode cL_law 870 = .ok (.iconst 2, 1) := by decide +kernel
theorem dL_law_871 : decode cL_law 871 = .ok (.iadd, 1) := by decide +kernel
theorem dL_law_872 : decode cL_law 872 = .ok (.iaload, 1) := by decide +kernel
theorem dL_law_873 : decode cL_law 873 = .ok (.invokevirtual 101, 3) := by decide +kernel
theorem dL_law_876 : decode cL_law 876 = .ok (.if_icmp .eq 640, 3) := by decide +kernel
theorem dL_law_879 : decode cL_law 879 = .ok (.iconst 0, 1) := by decide +kernel
theorem dL_law_880 : decode cL_law 880 = .ok (.ireturn, 1) := by decide +kernel
theorem dL_law_881 : decode cL_law 881 = .ok (.aload_n 1, 1) := by decide +kernel
theorem dL_law_882 : decode cL_law 882 = .ok (.aload_n 0, 1) := by decide +kernel
theorem dL_law_883 : decode cL_law 883 = .ok (.iload_n 3, 1) := by decide +kernel
theorem dL_law_884 : decode cL_law 884 = .ok (.iconst 1, 1) := by decide +kernel
theorem dL_law_885 : decode cL_law 885 = .ok (.iadd, 1) := by decide +kernel
theorem dL_law_886 : decode cL_law 886 = .ok (.iaload, 1) := by decide +kernel
theorem dL_law_887 : decode cL_law 887 = .ok (.aload_n 0, 1) := by decide +kernel
theorem dL_law_888 : decode cL_law 888 = .ok (.iload_n 3, 1) := by decide +kernel
theorem dL_law_889 : decode cL_law 889 = .ok (.iconst 2, 1) := by decide +kernel
theorem dL_law_890 : decode cL_law 890 = .ok (.iadd, 1) := by decide +kernel
theorem dL_law_891 : decode cL_law 891 = .ok (.iaload, 1) := by decide +kernel
theorem dL_law_892 : decode cL_law 892 = .ok (.aload_n 0, 1) := by decide +kernel
theorem dL_law_893 : decode cL_law 893 = .ok (.iload_n 3, 1) := by decide +kernel
theorem dL_law_894 : decode cL_law 894 = .ok (.iconst 3, 1) := by decide +kernel
theorem dL_law_895 : decode cL_law 895 = .ok (.iadd, 1) := by decide +kernel
theorem dL_law_896 : decode cL_law 896 = .ok (.iaload, 1) := by decide +kernel
theorem dL_law_897 : decode cL_law 897 = .ok (.invokevirtual 102, 3) := by decide +kernel
theorem dL_law_900 : decode cL_law 900 = .ok (.aload_n 2, 1) := by decide +kernel
theorem dL_law_901 : decode cL_law 901 = .ok (.aload_n 0, 1) := by decide +kernel
theorem dL_law_902 : decode cL_law 902 = .ok (.iload_n 3, 1) := by decide +kernel
theorem dL_law_903 : decode cL_law 903 = .ok (.iconst 1, 1) := by decide +kernel
theorem dL_law_904 : decode cL_law 904 = .ok (.iadd, 1) := by decide +kernel
theorem dL_law_905 : decode cL_law 905 = .ok (.iaload, 1) := by decide +kernel
theorem dL_law_906 : decode cL_law 906 = .ok (.aload_n 0, 1) := by decide +kernel
theorem dL_law_907 : decode cL_law 907 = .ok (.iload_n 3, 1) := by decide +kernel
theorem dL_law_908 : decode cL_law 908 = .ok (.iconst 2, 1) := by decide +kernel
theorem dL_law_909 : decode cL_law 909 = .ok (.iadd, 1) := by decide +kernel
theorem dL_law_910 : decode cL_law 910 = .ok (.iaload, 1) := by decide +kernel
theorem dL_law_911 : decode cL_law 911 = .ok (.aload_n 0, 1) := by decide +kernel
theorem dL_law_912 : decode cL_law 912 = .ok (.iload_n 3, 1) := by decide +kernel
theorem dL_law_913 : decode cL_law 913 = .ok (.iconst 3, 1) := by decide +kernel
theorem dL_law_914 : decode cL_law 914 = .ok (.iadd, 1) := by decide +kernel
theorem dL_law_915 : decode cL_law 915 = .ok (.iaload, 1) := by decide +kernel
theorem dL_law_916 : decode cL_law 916 = .ok (.invokevirtual 105, 3) := by decide +kernel
theorem dL_law_919 : decode cL_law 919 = .ok (.if_icmp .eq 597, 3) := by decide +kernel
theorem dL_law_922 : decode cL_law 922 = .ok (.iconst 0, 1) := by decide +kernel
theorem dL_law_923 : decode cL_law 923 = .ok (.ireturn, 1) := by decide +kernel
theorem dL_law_924 : decode cL_law 924 = .ok (.aload_n 1, 1) := by decide +kernel
theorem dL_law_925 : decode cL_law 925 = .ok (.aload_n 0, 1) := by decide +kernel
theorem dL_law_926 : decode cL_law 926 = .ok (.iload_n 3, 1) := by decide +kernel
theorem dL_law_927 : decode cL_law 927 = .ok (.iconst 1, 1) := by decide +kernel
theorem dL_law_928 : decode cL_law 928 = .ok (.iadd, 1) := by decide +kernel
theorem dL_law_929 : decode cL_law 929 = .ok (.iaload, 1) := by decide +kernel
theorem dL_law_930 : decode cL_law 930 = .ok (.aload_n 0, 1) := by decide +kernel
theorem dL_law_931 : decode cL_law 931 = .ok (.iload_n 3, 1) := by decide +kernel
theorem dL_law_932 : decode cL_law 932 = .ok (.iconst 2, 1) := by decide +kernel
theorem dL_law_933 : decode cL_law 933 = .ok (.iadd, 1) := by decide +kernel
theorem dL_law_934 : decode cL_law 934 = .ok (.iaload, 1) := by decide +kernel
theorem dL_law_935 : decode cL_law 935 = .ok (.invokevirtual 106, 3) := by decide +kernel
theorem dL_law_938 : decode cL_law 938 = .ok (.aload_n 2, 1) := by decide +kernel
theorem dL_law_939 : decode cL_law 939 = .ok (.aload_n 0, 1) := by decide +kernel
theorem dL_law_940 : decode cL_law 940 = .ok (.iload_n 3, 1) := by decide +kernel
theorem dL_law_941 : decode cL_law 941 = .ok (.iconst 1, 1) := by decide +kernel
theorem dL_law_942 : decode cL_law 942 = .ok (.iadd, 1) := by decide +kernel
theorem dL_law_943 : decode cL_law 943 = .ok (.iaload, 1) := by decide +kernel
theorem dL_law_944 : decode cL_law 944 = .ok (.aload_n 0, 1) := by decide +kernel
theorem dL_law_945 : decode cL_law 945 = .ok (.iload_n 3, 1) := by decide +kernel
theorem dL_law_946 : decode cL_law 946 = .ok (.iconst 2, 1) := by decide +kernel
theorem dL_law_947 : decode cL_law 947 = .ok (.iadd, 1) := by decide +kernel
theorem dL_law_948 : decode cL_law 948 = .ok (.iaload, 1) := by decide +kernel
theorem dL_law_949 : decode cL_law 949 = .ok (.invokevirtual 109, 3) := by decide +kernel
theorem dL_law_952 : decode cL_law 952 = .ok (.if_icmp .eq 564, 3) := by decide +kernel
theorem dL_law_955 : decode cL_law 955 = .ok (.iconst 0, 1) := by decide +kernel
theorem dL_law_956 : decode cL_law 956 = .ok (.ireturn, 1) := by decide +kernel
theorem dL_law_957 : decode cL_law 957 = .ok (.aload_n 1, 1) := by decide +kernel
theorem dL_law_958 : decode cL_law 958 = .ok (.aload_n 0, 1) := by decide +kernel
theorem dL_law_959 : decode cL_law 959 = .ok (.iload_n 3, 1) := by decide +kernel
theorem dL_law_960 : decode cL_law 960 = .ok (.iconst 1, 1) := by decide +kernel
theorem dL_law_961 : decode cL_law 961 = .ok (.iadd, 1) := by decide +kernel
theorem dL_law_962 : decode cL_law 962 = .ok (.iaload, 1) := by decide +kernel
theorem dL_law_963 : decode cL_law 963 = .ok (.invokevirtual 110, 3) := by decide +kernel
theorem dL_law_966 : decode cL_law 966 = .ok (.aload_n 2, 1) := by decide +kernel
theorem dL_law_967 : decode cL_law 967 = .ok (.aload_n 0, 1) := by decide +kernel
theorem dL_law_968 : decode cL_law 968 = .ok (.iload_n 3, 1) := by decide +kernel
theorem dL_law_969 : decode cL_law 969 = .ok (.iconst 1, 1) := by decide +kernel
theorem dL_law_970 : decode cL_law 970 = .ok (.iadd, 1) := by decide +kernel
theorem dL_law_971 : decode cL_law 971 = .ok (.iaload, 1) := by decide +kernel
theorem dL_law_972 : decode cL_law 972 = .ok (.invokevirtual 113, 3) := by decide +kernel
theorem dL_law_975 : decode cL_law 975 = .ok (.if_icmp .eq 541, 3) := by decide +kernel
theorem dL_law_978 : decode cL_law 978 = .ok (.iconst 0, 1) := by decide +kernel
theorem dL_law_979 : decode cL_law 979 = .ok (.ireturn, 1) := by decide +kernel
theorem dL_law_980 : decode cL_law 980 = .ok (.aload_n 1, 1) := by decide +kernel
theorem dL_law_981 : decode cL_law 981 = .ok (.aload_n 0, 1) := by decide +kernel
theorem dL_law_982 : decode cL_law 982 = .ok (.iload_n 3, 1) := by decide +kernel
theorem dL_law_983 : decode cL_law 983 = .ok (.iconst 1, 1) := by decide +kernel
theorem dL_law_984 : decode cL_law 984 = .ok (.iadd, 1) := by decide +kernel
theorem dL_law_985 : decode cL_law 985 = .ok (.iaload, 1) := by decide +kernel
theorem dL_law_986 : decode cL_law 986 = .ok (.invokevirtual 114, 3) := by decide +kernel
theorem dL_law_989 : decode cL_law 989 = .ok (.aload_n 2, 1) := by decide +kernel
theorem dL_law_990 : decode cL_law 990 = .ok (.aload_n 0, 1) := by decide +kernel
theorem dL_law_991 : decode cL_law 991 = .ok (.iload_n 3, 1) := by decide +kernel
theorem dL_law_992 : decode cL_law 992 = .ok (.iconst 1, 1) := by decide +kernel
theorem dL_law_993 : decode cL_law 993 = .ok (.iadd, 1) := by decide +kernel
theorem dL_law_994 : decode cL_law 994 = .ok (.iaload, 1) := by decide +kernel
theorem dL_law_995 : decode cL_law 995 = .ok (.invokevirtual 117, 3) := by decide +kernel
theorem dL_law_998 : decode cL_law 998 = .ok (.if_icmp .eq 518, 3) := by decide +kernel
theorem dL_law_1001 : decode cL_law 1001 = .ok (.iconst 0, 1) := by decide +kernel
theorem dL_law_1002 : decode cL_law 1002 = .ok (.ireturn, 1) := by decide +kernel
theorem dL_law_1003 : decode cL_law 1003 = .ok (.aload_n 1, 1) := by decide +kernel
theorem dL_law_1004 : decode cL_law 1004 = .ok (.invokevirtual 118, 3) := by decide +kernel
theorem dL_law_1007 : decode cL_law 1007 = .ok (.aload_n 2, 1) := by decide +kernel
theorem dL_law_1008 : decode cL_law 1008 = .ok (.invokevirtual 121, 3) := by decide +kernel
theorem dL_law_1011 : decode cL_law 1011 = .ok (.if_icmp .eq 505, 3) := by decide +kernel
theorem dL_law_1014 : decode cL_law 1014 = .ok (.iconst 0, 1) := by decide +kernel
theorem dL_law_1015 : decode cL_law 1015 = .ok (.ireturn, 1) := by decide +kernel
theorem dL_law_1016 : decode cL_law 1016 = .ok (.aload_n 1, 1) := by decide +kernel
theorem dL_law_1017 : decode cL_law 1017 = .ok (.aload_n 0, 1) := by decide +kernel
theorem dL_law_1018 : decode cL_law 1018 = .ok (.iload_n 3, 1) := by decide +kernel
theorem dL_law_1019 : decode cL_law 1019 = .ok (.iconst 1, 1) := by decide +kernel
theorem dL_law_1020 : decode cL_law 1020 = .ok (.iadd, 1) := by decide +kernel
theorem dL_law_1021 : decode cL_law 1021 = .ok (.iaload, 1) := by decide +kernel
theorem dL_law_1022 : decode cL_law 1022 = .ok (.aload_n 0, 1) := by decide +kernel
theorem dL_law_1023 : decode cL_law 1023 = .ok (.iload_n 3, 1) := by decide +kernel
theorem dL_law_1024 : decode cL_law 1024 = .ok (.iconst 2, 1) := by decide +kernel
theorem dL_law_1025 : decode cL_law 1025 = .ok (.iadd, 1) := by decide +kernel
theorem dL_law_1026 : decode cL_law 1026 = .ok (.iaload, 1) := by decide +kernel
theorem dL_law_1027 : decode cL_law 1027 = .ok (.i2l, 1) := by decide +kernel
theorem dL_law_1028 : decode cL_law 1028 = .ok (.bipush 32, 2) := by decide +kernel
theorem dL_law_1030 : decode cL_law 1030 = .ok (.lshl, 1) := by decide +kernel
theorem dL_law_1031 : decode cL_law 1031 = .ok (.aload_n 0, 1) := by decide +kernel
theorem dL_law_1032 : decode cL_law 1032 = .ok (.iload_n 3, 1) := by decide +kernel
theorem dL_law_1033 : decode cL_law 1033 = .ok (.iconst 3, 1) := by decide +kernel
theorem dL_law_1034 : decode cL_law 1034 = .ok (.iadd, 1) := by decide +kernel
theorem dL_law_1035 : decode cL_law 1035 = .ok (.iaload, 1) := by decide +kernel
theorem dL_law_1036 : decode cL_law 1036 = .ok (.i2l, 1) := by decide +kernel
theorem dL_law_1037 : decode cL_law 1037 = .ok (.ldc2_w 31, 3) := by decide +kernel
theorem dL_law_1040 : decode cL_law 1040 = .ok (.land, 1) := by decide +kernel
theorem dL_law_1041 : decode cL_law 1041 = .ok (.lor, 1) := by decide +kernel
theorem dL_law_1042 : decode cL_law 1042 = .ok (.aload_n 0, 1) := by decide +kernel
theorem dL_law_1043 : decode cL_law 1043 = .ok (.iload_n 3, 1) := by decide +kernel
theorem dL_law_1044 : decode cL_law 1044 = .ok (.iconst 4, 1) := by decide +kernel
theorem dL_law_1045 : decode cL_law 1045 = .ok (.iadd, 1) := by decide +kernel
theorem dL_law_1046 : decode cL_law 1046 = .ok (.iaload, 1) := by decide +kernel
theorem dL_law_1047 : decode cL_law 1047 = .ok (.invokevirtual 122, 3) := by decide +kernel
theorem dL_law_1050 : decode cL_law 1050 = .ok (.aload_n 2, 1) := by decide +kernel
theorem dL_law_1051 : decode cL_law 1051 = .ok (.aload_n 0, 1) := by decide +kernel
theorem dL_law_1052 : decode cL_law 1052 = .ok (.iload_n 3, 1) := by decide +kernel
theorem dL_law_1053 : decode cL_law 1053 = .ok (.iconst 1, 1) := by decide +kernel
theorem dL_law_1054 : decode cL_law 1054 = .ok (.iadd, 1) := by decide +kernel
theorem dL_law_1055 : decode cL_law 1055 = .ok (.iaload, 1) := by decide +kernel
theorem dL_law_1056 : decode cL_law 1056 = .ok (.aload_n 0, 1) := by decide +kernel
theorem dL_law_1057 : decode cL_law 1057 = .ok (.iload_n 3, 1) := by decide +kernel
theorem dL_law_1058 : decode cL_law 1058 = .ok (.iconst 2, 1) := by decide +kernel
theorem dL_law_1059 : decode cL_law 1059 = .ok (.iadd, 1) := by decide +kernel
theorem dL_law_1060 : decode cL_law 1060 = .ok (.iaload, 1) := by decide +kernel
theorem dL_law_1061 : decode cL_law 1061 = .ok (.i2l, 1) := by decide +kernel
theorem dL_law_1062 : decode cL_law 1062 = .ok (.bipush 32, 2) := by decide +kernel
theorem dL_law_1064 : decode cL_law 1064 = .ok (.lshl, 1) := by decide +kernel
theorem dL_law_1065 : decode cL_law 1065 = .ok (.aload_n 0, 1) := by decide +kernel
theorem dL_law_1066 : decode cL_law 1066 = .ok (.iload_n 3, 1) := by decide +kernel
theorem dL_law_1067 : decode cL_law 1067 = .ok (.iconst 3, 1) := by decide +kernel
theorem dL_law_1068 : decode cL_law 1068 = .ok (.iadd, 1) := by decide +kernel
theorem dL_law_1069 : decode cL_law 1069 = .ok (.iaload, 1) := by decide +kernel
theorem dL_law_1070 : decode cL_law 1070 = .ok (.i2l, 1) := by decide +kernel
theorem dL_law_1071 : decode cL_law 1071 = .ok (.ldc2_w 31, 3) := by decide +kernel
theorem dL_law_1074 : decode cL_law 1074 = .ok (.land, 1) := by decide +kernel
theorem dL_law_1075 : decode cL_law 1075 = .ok (.lor, 1) := by decide +kernel
theorem dL_law_1076 : decode cL_law 1076 = .ok (.aload_n 0, 1) := by decide +kernel
theorem dL_law_1077 : decode cL_law 1077 = .ok (.iload_n 3, 1) := by decide +kernel
theorem dL_law_1078 : decode cL_law 1078 = .ok (.iconst 4, 1) := by decide +kernel
theorem dL_law_1079 : decode cL_law 1079 = .ok (.iadd, 1) := by decide +kernel
theorem dL_law_1080 : decode cL_law 1080 = .ok (.iaload, 1) := by decide +kernel
theorem dL_law_1081 : decode cL_law 1081 = .ok (.invokevirtual 126, 3) := by decide +kernel
theorem dL_law_1084 : decode cL_law 1084 = .ok (.if_icmp .eq 432, 3) := by decide +kernel
theorem dL_law_1087 : decode cL_law 1087 = .ok (.iconst 0, 1) := by decide +kernel
theorem dL_law_1088 : decode cL_law 1088 = .ok (.ireturn, 1) := by decide +kernel
theorem dL_law_1089 : decode cL_law 1089 = .ok (.aload_n 1, 1) := by decide +kernel
theorem dL_law_1090 : decode cL_law 1090 = .ok (.aload_n 0, 1) := by decide +kernel
theorem dL_law_1091 : decode cL_law 1091 = .ok (.iload_n 3, 1) := by decide +kernel
theorem dL_law_1092 : decode cL_law 1092 = .ok (.iconst 1, 1) := by decide +kernel
theorem dL_law_1093 : decode cL_law 1093 = .ok (.iadd, 1) := by decide +kernel
theorem dL_law_1094 : decode cL_law 1094 = .ok (.iaload, 1) := by decide +kernel
theorem dL_law_1095 : decode cL_law 1095 = .ok (.aload_n 0, 1) := by decide +kernel
theorem dL_law_1096 : decode cL_law 1096 = .ok (.iload_n 3, 1) := by decide +kernel
theorem dL_law_1097 : decode cL_law 1097 = .ok (.iconst 2, 1) := by decide +kernel
theorem dL_law_1098 : decode cL_law 1098 = .ok (.iadd, 1) := by decide +kernel
theorem dL_law_1099 : decode cL_law 1099 = .ok (.iaload, 1) := by decide +kernel
theorem dL_law_1100 : decode cL_law 1100 = .ok (.i2l, 1) := by decide +kernel
theorem dL_law_1101 : decode cL_law 1101 = .ok (.bipush 32, 2) := by decide +kernel
theorem dL_law_1103 : decode cL_law 1103 = .ok (.lshl, 1) := by decide +kernel
theorem dL_law_1104 : decode cL_law 1104 = .ok (.aload_n 0, 1) := by decide +kernel
theorem dL_law_1105 : decode cL_law 1105 = .ok (.iload_n 3, 1) := by decide +kernel
theorem dL_law_1106 : decode cL_law 1106 = .ok (.iconst 3, 1) := by decide +kernel
theorem dL_law_1107 : decode cL_law 1107 = .ok (.iadd, 1) := by decide +kernel
theorem dL_law_1108 : decode cL_law 1108 = .ok (.iaload, 1) := by decide +kernel
theorem dL_law_1109 : decode cL_law 1109 = .ok (.i2l, 1) := by decide +kernel
theorem dL_law_1110 : decode cL_law 1110 = .ok (.ldc2_w 31, 3) := by decide +kernel
theorem dL_law_1113 : decode cL_law 1113 = .ok (.land, 1) := by decide +kernel
theorem dL_law_1114 : decode cL_law 1114 = .ok (.lor, 1) := by decide +kernel
theorem dL_law_1115 : decode cL_law 1115 = .ok (.invokevirtual 127, 3) := by decide +kernel
theorem dL_law_1118 : decode cL_law 1118 = .ok (.aload_n 2, 1) := by decide +kernel
theorem dL_law_1119 : decode cL_law 1119 = .ok (.aload_n 0, 1) := by decide +kernel
theorem dL_law_1120 : decode cL_law 1120 = .ok (.iload_n 3, 1) := by decide +kernel
theorem dL_law_1121 : decode cL_law 1121 = .ok (.iconst 1, 1) := by decide +kernel
theorem dL_law_1122 : decode cL_law 1122 = .ok (.iadd, 1) := by decide +kernel
theorem dL_law_1123 : decode cL_law 1123 = .ok (.iaload, 1) := by decide +kernel
theorem dL_law_1124 : decode cL_law 1124 = .ok (.aload_n 0, 1) := by decide +kernel
theorem dL_law_1125 : decode cL_law 1125 = .ok (.iload_n 3, 1) := by decide +kernel
theorem dL_law_1126 : decode cL_law 1126 = .ok (.iconst 2, 1) := by decide +kernel
theorem dL_law_1127 : decode cL_law 1127 = .ok (.iadd, 1) := by decide +kernel
theorem dL_law_1128 : decode cL_law 1128 = .ok (.iaload, 1) := by decide +kernel
theorem dL_law_1129 : decode cL_law 1129 = .ok (.i2l, 1) := by decide +kernel
theorem dL_law_1130 : decode cL_law 1130 = .ok (.bipush 32, 2) := by decide +kernel
theorem dL_law_1132 : decode cL_law 1132 = .ok (.lshl, 1) := by decide +kernel
theorem dL_law_1133 : decode cL_law 1133 = .ok (.aload_n 0, 1) := by decide +kernel
theorem dL_law_1134 : decode cL_law 1134 = .ok (.iload_n 3, 1) := by decide +kernel
theorem dL_law_1135 : decode cL_law 1135 = .ok (.iconst 3, 1) := by decide +kernel
theorem dL_law_1136 : decode cL_law 1136 = .ok (.iadd, 1) := by decide +kernel
theorem dL_law_1137 : decode cL_law 1137 = .ok (.iaload, 1) := by decide +kernel
theorem dL_law_1138 : decode cL_law 1138 = .ok (.i2l, 1) := by decide +kernel
theorem dL_law_1139 : decode cL_law 1139 = .ok (.ldc2_w 31, 3) := by decide +kernel
theorem dL_law_1142 : decode cL_law 1142 = .ok (.land, 1) := by decide +kernel
theorem dL_law_1143 : decode cL_law 1143 = .ok (.lor, 1) := by decide +kernel
theorem dL_law_1144 : decode cL_law 1144 = .ok (.invokevirtual 131, 3) := by decide +kernel
theorem dL_law_1147 : decode cL_law 1147 = .ok (.if_icmp .eq 369, 3) := by decide +kernel
theorem dL_law_1150 : decode cL_law 1150 = .ok (.iconst 0, 1) := by decide +kernel
theorem dL_law_1151 : decode cL_law 1151 = .ok (.ireturn, 1) := by decide +kernel
theorem dL_law_1152 : decode cL_law 1152 = .ok (.aload_n 1, 1) := by decide +kernel
theorem dL_law_1153 : decode cL_law 1153 = .ok (.aload_n 0, 1) := by decide +kernel
theorem dL_law_1154 : decode cL_law 1154 = .ok (.iload_n 3, 1) := by decide +kernel
theorem dL_law_1155 : decode cL_law 1155 = .ok (.iconst 1, 1) := by decide +kernel
theorem dL_law_1156 : decode cL_law 1156 = .ok (.iadd, 1) := by decide +kernel
theorem dL_law_1157 : decode cL_law 1157 = .ok (.iaload, 1) := by decide +kernel
theorem dL_law_1158 : decode cL_law 1158 = .ok (.aload_n 0, 1) := by decide +kernel
theorem dL_law_1159 : decode cL_law 1159 = .ok (.iload_n 3, 1) := by decide +kernel
theorem dL_law_1160 : decode cL_law 1160 = .ok (.iconst 2, 1) := by decide +kernel
theorem dL_law_1161 : decode cL_law 1161 = .ok (.iadd, 1) := by decide +kernel
theorem dL_law_1162 : decode cL_law 1162 = .ok (.iaload, 1) := by decide +kernel
theorem dL_law_1163 : decode cL_law 1163 = .ok (.i2l, 1) := by decide +kernel
theorem dL_law_1164 : decode cL_law 1164 = .ok (.bipush 32, 2) := by decide +kernel
theorem dL_law_1166 : decode cL_law 1166 = .ok (.lshl, 1) := by decide +kernel
theorem dL_law_1167 : decode cL_law 1167 = .ok (.aload_n 0, 1) := by decide +kernel
theorem dL_law_1168 : decode cL_law 1168 = .ok (.iload_n 3, 1) := by decide +kernel
theorem dL_law_1169 : decode cL_law 1169 = .ok (.iconst 3, 1) := by decide +kernel
theorem dL_law_1170 : decode cL_law 1170 = .ok (.iadd, 1) := by decide +kernel
theorem dL_law_1171 : decode cL_law 1171 = .ok (.iaload, 1) := by decide +kernel
theorem dL_law_1172 : decode cL_law 1172 = .ok (.i2l, 1) := by decide +kernel
theorem dL_law_1173 : decode cL_law 1173 = .ok (.ldc2_w 31, 3) := by decide +kernel
theorem dL_law_1176 : decode cL_law 1176 = .ok (.land, 1) := by decide +kernel
theorem dL_law_1177 : decode cL_law 1177 = .ok (.lor, 1) := by decide +kernel
theorem dL_law_1178 : decode cL_law 1178 = .ok (.invokevirtual 132, 3) := by decide +kernel
theorem dL_law_1181 : decode cL_law 1181 = .ok (.aload_n 2, 1) := by decide +kernel
theorem dL_law_1182 : decode cL_law 1182 = .ok (.aload_n 0, 1) := by decide +kernel
theorem dL_law_1183 : decode cL_law 1183 = .ok (.iload_n 3, 1) := by decide +kernel
theorem dL_law_1184 : decode cL_law 1184 = .ok (.iconst 1, 1) := by decide +kernel
theorem dL_law_1185 : decode cL_law 1185 = .ok (.iadd, 1) := by decide +kernel
theorem dL_law_1186 : decode cL_law 1186 = .ok (.iaload, 1) := by decide +kernel
theorem dL_law_1187 : decode cL_law 1187 = .ok (.aload_n 0, 1) := by decide +kernel
theorem dL_law_1188 : decode cL_law 1188 = .ok (.iload_n 3, 1) := by decide +kernel
theorem dL_law_1189 : decode cL_law 1189 = .ok (.iconst 2, 1) := by decide +kernel
theorem dL_law_1190 : decode cL_law 1190 = .ok (.iadd, 1) := by decide +kernel
theorem dL_law_1191 : decode cL_law 1191 = .ok (.iaload, 1) := by decide +kernel
theorem dL_law_1192 : decode cL_law 1192 = .ok (.i2l, 1) := by decide +kernel
theorem dL_law_1193 : decode cL_law 1193 = .ok (.bipush 32, 2) := by decide +kernel
theorem dL_law_1195 : decode cL_law 1195 = .ok (.lshl, 1) := by decide +kernel
theorem dL_law_1196 : decode cL_law 1196 = .ok (.aload_n 0, 1) := by decide +kernel
theorem dL_law_1197 : decode cL_law 1197 = .ok (.iload_n 3, 1) := by decide +kernel
theorem dL_law_1198 : decode cL_law 1198 = .ok (.iconst 3, 1) := by decide +kernel
theorem dL_law_1199 : decode cL_law 1199 = .ok (.iadd, 1) := by decide +kernel
theorem dL_law_1200 : decode cL_law 1200 = .ok (.iaload, 1) := by decide +kernel
theorem dL_law_1201 : decode cL_law 1201 = .ok (.i2l, 1) := by decide +kernel
theorem dL_law_1202 : decode cL_law 1202 = .ok (.ldc2_w 31, 3) := by decide +kernel
theorem dL_law_1205 : decode cL_law 1205 = .ok (.land, 1) := by decide +kernel
theorem dL_law_1206 : decode cL_law 1206 = .ok (.lor, 1) := by decide +kernel
theorem dL_law_1207 : decode cL_law 1207 = .ok (.invokevirtual 135, 3) := by decide +kernel
theorem dL_law_1210 : decode cL_law 1210 = .ok (.if_icmp .eq 306, 3) := by decide +kernel
theorem dL_law_1213 : decode cL_law 1213 = .ok (.iconst 0, 1) := by decide +kernel
theorem dL_law_1214 : decode cL_law 1214 = .ok (.ireturn, 1) := by decide +kernel
theorem dL_law_1215 : decode cL_law 1215 = .ok (.aload_n 1, 1) := by decide +kernel
theorem dL_law_1216 : decode cL_law 1216 = .ok (.aload_n 0, 1) := by decide +kernel
theorem dL_law_1217 : decode cL_law 1217 = .ok (.iload_n 3, 1) := by decide +kernel
theorem dL_law_1218 : decode cL_law 1218 = .ok (.iconst 1, 1) := by decide +kernel
theorem dL_law_1219 : decode cL_law 1219 = .ok (.iadd, 1) := by decide +kernel
theorem dL_law_1220 : decode cL_law 1220 = .ok (.iaload, 1) := by decide +kernel
theorem dL_law_1221 : decode cL_law 1221 = .ok (.aload_n 0, 1) := by decide +kernel
theorem dL_law_1222 : decode cL_law 1222 = .ok (.iload_n 3, 1) := by decide +kernel
theorem dL_law_1223 : decode cL_law 1223 = .ok (.iconst 2, 1) := by decide +kernel
theorem dL_law_1224 : decode cL_law 1224 = .ok (.iadd, 1) := by decide +kernel
theorem dL_law_1225 : decode cL_law 1225 = .ok (.iaload, 1) := by decide +kernel
theorem dL_law_1226 : decode cL_law 1226 = .ok (.invokevirtual 136, 3) := by decide +kernel
theorem dL_law_1229 : decode cL_law 1229 = .ok (.aload_n 2, 1) := by decide +kernel
theorem dL_law_1230 : decode cL_law 1230 = .ok (.aload_n 0, 1) := by decide +kernel
theorem dL_law_1231 : decode cL_law 1231 = .ok (.iload_n 3, 1) := by decide +kernel
theorem dL_law_1232 : decode cL_law 1232 = .ok (.iconst 1, 1) := by decide +kernel
theorem dL_law_1233 : decode cL_law 1233 = .ok (.iadd, 1) := by decide +kernel
theorem dL_law_1234 : decode cL_law 1234 = .ok (.iaload, 1) := by decide +kernel
theorem dL_law_1235 : decode cL_law 1235 = .ok (.aload_n 0, 1) := by decide +kernel
theorem dL_law_1236 : decode cL_law 1236 = .ok (.iload_n 3, 1) := by decide +kernel
theorem dL_law_1237 : decode cL_law 1237 = .ok (.iconst 2, 1) := by decide +kernel
theorem dL_law_1238 : decode cL_law 1238 = .ok (.iadd, 1) := by decide +kernel
theorem dL_law_1239 : decode cL_law 1239 = .ok (.iaload, 1) := by decide +kernel
theorem dL_law_1240 : decode cL_law 1240 = .ok (.invokevirtual 139, 3) := by decide +kernel
theorem dL_law_1243 : decode cL_law 1243 = .ok (.if_icmp .eq 273, 3) := by decide +kernel
theorem dL_law_1246 : decode cL_law 1246 = .ok (.iconst 0, 1) := by decide +kernel
theorem dL_law_1247 : decode cL_law 1247 = .ok (.ireturn, 1) := by decide +kernel
theorem dL_law_1248 : decode cL_law 1248 = .ok (.aload_n 1, 1) := by decide +kernel
theorem dL_law_1249 : decode cL_law 1249 = .ok (.aload_n 0, 1) := by decide +kernel
theorem dL_law_1250 : decode cL_law 1250 = .ok (.iload_n 3, 1) := by decide +kernel
theorem dL_law_1251 : decode cL_law 1251 = .ok (.iconst 1, 1) := by decide +kernel
theorem dL_law_1252 : decode cL_law 1252 = .ok (.iadd, 1) := by decide +kernel
theorem dL_law_1253 : decode cL_law 1253 = .ok (.iaload, 1) := by decide +kernel
theorem dL_law_1254 : decode cL_law 1254 = .ok (.aload_n 0, 1) := by decide +kernel
theorem dL_law_1255 : decode cL_law 1255 = .ok (.iload_n 3, 1) := by decide +kernel
theorem dL_law_1256 : decode cL_law 1256 = .ok (.iconst 2, 1) := by decide +kernel
theorem dL_law_1257 : decode cL_law 1257 = .ok (.iadd, 1) := by decide +kernel
theorem dL_law_1258 : decode cL_law 1258 = .ok (.iaload, 1) := by decide +kernel
theorem dL_law_1259 : decode cL_law 1259 = .ok (.i2l, 1) := by decide +kernel
theorem dL_law_1260 : decode cL_law 1260 = .ok (.bipush 32, 2) := by decide +kernel
theorem dL_law_1262 : decode cL_law 1262 = .ok (.lshl, 1) := by decide +kernel
theorem dL_law_1263 : decode cL_law 1263 = .ok (.aload_n 0, 1) := by decide +kernel
theorem dL_law_1264 : decode cL_law 1264 = .ok (.iload_n 3, 1) := by decide +kernel
theorem dL_law_1265 : decode cL_law 1265 = .ok (.iconst 3, 1) := by decide +kernel
theorem dL_law_1266 : decode cL_law 1266 = .ok (.iadd, 1) := by decide +kernel
theorem dL_law_1267 : decode cL_law 1267 = .ok (.iaload, 1) := by decide +kernel
theorem dL_law_1268 : decode cL_law 1268 = .ok (.i2l, 1) := by decide +kernel
theorem dL_law_1269 : decode cL_law 1269 = .ok (.ldc2_w 31, 3) := by decide +kernel
theorem dL_law_1272 : decode cL_law 1272 = .ok (.land, 1) := by decide +kernel
theorem dL_law_1273 : decode cL_law 1273 = .ok (.lor, 1) := by decide +kernel
theorem dL_law_1274 : decode cL_law 1274 = .ok (.invokevirtual 140, 3) := by decide +kernel
theorem dL_law_1277 : decode cL_law 1277 = .ok (.aload_n 2, 1) := by decide +kernel
theorem dL_law_1278 : decode cL_law 1278 = .ok (.aload_n 0, 1) := by decide +kernel
theorem dL_law_1279 : decode cL_law 1279 = .ok (.iload_n 3, 1) := by decide +kernel
theorem dL_law_1280 : decode cL_law 1280 = .ok (.iconst 1, 1) := by decide +kernel
theorem dL_law_1281 : decode cL_law 1281 = .ok (.iadd, 1) := by decide +kernel
theorem dL_law_1282 : decode cL_law 1282 = .ok (.iaload, 1) := by decide +kernel
theorem dL_law_1283 : decode cL_law 1283 = .ok (.aload_n 0, 1) := by decide +kernel
theorem dL_law_1284 : decode cL_law 1284 = .ok (.iload_n 3, 1) := by decide +kernel
theorem dL_law_1285 : decode cL_law 1285 = .ok (.iconst 2, 1) := by decide +kernel
theorem dL_law_1286 : decode cL_law 1286 = .ok (.iadd, 1) := by decide +kernel
theorem dL_law_1287 : decode cL_law 1287 = .ok (.iaload, 1) := by decide +kernel
theorem dL_law_1288 : decode cL_law 1288 = .ok (.i2l, 1) := by decide +kernel
theorem dL_law_1289 : decode cL_law 1289 = .ok (.bipush 32, 2) := by decide +kernel
theorem dL_law_1291 : decode cL_law 1291 = .ok (.lshl, 1) := by decide +kernel
theorem dL_law_1292 : decode cL_law 1292 = .ok (.aload_n 0, 1) := by decide +kernel
theorem dL_law_1293 : decode cL_law 1293 = .ok (.iload_n 3, 1) := by decide +kernel
theorem dL_law_1294 : decode cL_law 1294 = .ok (.iconst 3, 1) := by decide +kernel
theorem dL_law_1295 : decode cL_law 1295 = .ok (.iadd, 1) := by decide +kernel
theorem dL_law_1296 : decode cL_law 1296 = .ok (.iaload, 1) := by decide +kernel
theorem dL_law_1297 : decode cL_law 1297 = .ok (.i2l, 1) := by decide +kernel
theorem dL_law_1298 : decode cL_law 1298 = .ok (.ldc2_w 31, 3) := by decide +kernel
theorem dL_law_1301 : decode cL_law 1301 = .ok (.land, 1) := by decide +kernel
theorem dL_law_1302 : decode cL_law 1302 = .ok (.lor, 1) := by decide +kernel
theorem dL_law_1303 : decode cL_law 1303 = .ok (.invokevirtual 143, 3) := by decide +kernel
theorem dL_law_1306 : decode cL_law 1306 = .ok (.if_icmp .eq 210, 3) := by decide +kernel
theorem dL_law_1309 : decode cL_law 1309 = .ok (.iconst 0, 1) := by decide +kernel
theorem dL_law_1310 : decode cL_law 1310 = .ok (.ireturn, 1) := by decide +kernel
theorem dL_law_1311 : decode cL_law 1311 = .ok (.aload_n 1, 1) := by decide +kernel
theorem dL_law_1312 : decode cL_law 1312 = .ok (.aload_n 0, 1) := by decide +kernel
theorem dL_law_1313 : decode cL_law 1313 = .ok (.iload_n 3, 1) := by decide +kernel
theorem dL_law_1314 : decode cL_law 1314 = .ok (.iconst 1, 1) := by decide +kernel
theorem dL_law_1315 : decode cL_law 1315 = .ok (.iadd, 1) := by decide +kernel
theorem dL_law_1316 : decode cL_law 1316 = .ok (.iaload, 1) := by decide +kernel
theorem dL_law_1317 : decode cL_law 1317 = .ok (.invokevirtual 144, 3) := by decide +kernel
theorem dL_law_1320 : decode cL_law 1320 = .ok (.aload_n 2, 1) := by decide +kernel
theorem dL_law_1321 : decode cL_law 1321 = .ok (.aload_n 0, 1) := by decide +kernel
theorem dL_law_1322 : decode cL_law 1322 = .ok (.iload_n 3, 1) := by decide +kernel
theorem dL_law_1323 : decode cL_law 1323 = .ok (.iconst 1, 1) := by decide +kernel
theorem dL_law_1324 : decode cL_law 1324 = .ok (.iadd, 1) := by decide +kernel
theorem dL_law_1325 : decode cL_law 1325 = .ok (.iaload, 1) := by decide +kernel
theorem dL_law_1326 : decode cL_law 1326 = .ok (.invokevirtual 147, 3) := by decide +kernel
theorem dL_law_1329 : decode cL_law 1329 = .ok (.if_icmp .eq 187, 3) := by decide +kernel
theorem dL_law_1332 : decode cL_law 1332 = .ok (.iconst 0, 1) := by decide +kernel
theorem dL_law_1333 : decode cL_law 1333 = .ok (.ireturn, 1) := by decide +kernel
theorem dL_law_1334 : decode cL_law 1334 = .ok (.aload_n 1, 1) := by decide +kernel
theorem dL_law_1335 : decode cL_law 1335 = .ok (.aload_n 0, 1) := by decide +kernel
theorem dL_law_1336 : decode cL_law 1336 = .ok (.iload_n 3, 1) := by decide +kernel
theorem dL_law_1337 : decode cL_law 1337 = .ok (.iconst 1, 1) := by decide +kernel
theorem dL_law_1338 : decode cL_law 1338 = .ok (.iadd, 1) := by decide +kernel
theorem dL_law_1339 : decode cL_law 1339 = .ok (.iaload, 1) := by decide +kernel
theorem dL_law_1340 : decode cL_law 1340 = .ok (.aload_n 0, 1) := by decide +kernel
theorem dL_law_1341 : decode cL_law 1341 = .ok (.iload_n 3, 1) := by decide +kernel
theorem dL_law_1342 : decode cL_law 1342 = .ok (.iconst 2, 1) := by decide +kernel
theorem dL_law_1343 : decode cL_law 1343 = .ok (.iadd, 1) := by decide +kernel
theorem dL_law_1344 : decode cL_law 1344 = .ok (.iaload, 1) := by decide +kernel
theorem dL_law_1345 : decode cL_law 1345 = .ok (.invokevirtual 148, 3) := by decide +kernel
theorem dL_law_1348 : decode cL_law 1348 = .ok (.aload_n 2, 1) := by decide +kernel
theorem dL_law_1349 : decode cL_law 1349 = .ok (.aload_n 0, 1) := by decide +kernel
theorem dL_law_1350 : decode cL_law 1350 = .ok (.iload_n 3, 1) := by decide +kernel
theorem dL_law_1351 : decode cL_law 1351 = .ok (.iconst 1, 1) := by decide +kernel
theorem dL_law_1352 : decode cL_law 1352 = .ok (.iadd, 1) := by decide +kernel
theorem dL_law_1353 : decode cL_law 1353 = .ok (.iaload, 1) := by decide +kernel
theorem dL_law_1354 : decode cL_law 1354 = .ok (.aload_n 0, 1) := by decide +kernel
theorem dL_law_1355 : decode cL_law 1355 = .ok (.iload_n 3, 1) := by decide +kernel
theorem dL_law_1356 : decode cL_law 1356 = .ok (.iconst 2, 1) := by decide +kernel
theorem dL_law_1357 : decode cL_law 1357 = .ok (.iadd, 1) := by decide +kernel
theorem dL_law_1358 : decode cL_law 1358 = .ok (.iaload, 1) := by decide +kernel
theorem dL_law_1359 : decode cL_law 1359 = .ok (.invokevirtual 151, 3) := by decide +kernel
theorem dL_law_1362 : decode cL_law 1362 = .ok (.if_icmp .eq 154, 3) := by decide +kernel
theorem dL_law_1365 : decode cL_law 1365 = .ok (.iconst 0, 1) := by decide +kernel
theorem dL_law_1366 : decode cL_law 1366 = .ok (.ireturn, 1) := by decide +kernel
theorem dL_law_1367 : decode cL_law 1367 = .ok (.aload_n 1, 1) := by decide +kernel
theorem dL_law_1368 : decode cL_law 1368 = .ok (.aload_n 0, 1) := by decide +kernel
theorem dL_law_1369 : decode cL_law 1369 = .ok (.iload_n 3, 1) := by decide +kernel
theorem dL_law_1370 : decode cL_law 1370 = .ok (.iconst 1, 1) := by decide +kernel
theorem dL_law_1371 : decode cL_law 1371 = .ok (.iadd, 1) := by decide +kernel
theorem dL_law_1372 : decode cL_law 1372 = .ok (.iaload, 1) := by decide +kernel
theorem dL_law_1373 : decode cL_law 1373 = .ok (.aload_n 0, 1) := by decide +kernel
theorem dL_law_1374 : decode cL_law 1374 = .ok (.iload_n 3, 1) := by decide +kernel
theorem dL_law_1375 : decode cL_law 1375 = .ok (.iconst 2, 1) := by decide +kernel
theorem dL_law_1376 : decode cL_law 1376 = .ok (.iadd, 1) := by decide +kernel
theorem dL_law_1377 : decode cL_law 1377 = .ok (.iaload, 1) := by decide +kernel
theorem dL_law_1378 : decode cL_law 1378 = .ok (.aload_n 0, 1) := by decide +kernel
theorem dL_law_1379 : decode cL_law 1379 = .ok (.iload_n 3, 1) := by decide +kernel
theorem dL_law_1380 : decode cL_law 1380 = .ok (.iconst 3, 1) := by decide +kernel
theorem dL_law_1381 : decode cL_law 1381 = .ok (.iadd, 1) := by decide +kernel
theorem dL_law_1382 : decode cL_law 1382 = .ok (.iaload, 1) := by decide +kernel
theorem dL_law_1383 : decode cL_law 1383 = .ok (.invokevirtual 152, 3) := by decide +kernel
theorem dL_law_1386 : decode cL_law 1386 = .ok (.aload_n 2, 1) := by decide +kernel
theorem dL_law_1387 : decode cL_law 1387 = .ok (.aload_n 0, 1) := by decide +kernel
theorem dL_law_1388 : decode cL_law 1388 = .ok (.iload_n 3, 1) := by decide +kernel
theorem dL_law_1389 : decode cL_law 1389 = .ok (.iconst 1, 1) := by decide +kernel
theorem dL_law_1390 : decode cL_law 1390 = .ok (.iadd, 1) := by decide +kernel
theorem dL_law_1391 : decode cL_law 1391 = .ok (.iaload, 1) := by decide +kernel
theorem dL_law_1392 : decode cL_law 1392 = .ok (.aload_n 0, 1) := by decide +kernel
theorem dL_law_1393 : decode cL_law 1393 = .ok (.iload_n 3, 1) := by decide +kernel
theorem dL_law_1394 : decode cL_law 1394 = .ok (.iconst 2, 1) := by decide +kernel
theorem dL_law_1395 : decode cL_law 1395 = .ok (.iadd, 1) := by decide +kernel
theorem dL_law_1396 : decode cL_law 1396 = .ok (.iaload, 1) := by decide +kernel
theorem dL_law_1397 : decode cL_law 1397 = .ok (.aload_n 0, 1) := by decide +kernel
theorem dL_law_1398 : decode cL_law 1398 = .ok (.iload_n 3, 1) := by decide +kernel
theorem dL_law_1399 : decode cL_law 1399 = .ok (.iconst 3, 1) := by decide +kernel
theorem dL_law_1400 : decode cL_law 1400 = .ok (.iadd, 1) := by decide +kernel
theorem dL_law_1401 : decode cL_law 1401 = .ok (.iaload, 1) := by decide +kernel
theorem dL_law_1402 : decode cL_law 1402 = .ok (.invokevirtual 155, 3) := by decide +kernel
theorem dL_law_1405 : decode cL_law 1405 = .ok (.if_icmp .eq 111, 3) := by decide +kernel
theorem dL_law_1408 : decode cL_law 1408 = .ok (.iconst 0, 1) := by decide +kernel
theorem dL_law_1409 : decode cL_law 1409 = .ok (.ireturn, 1) := by decide +kernel
theorem dL_law_1410 : decode cL_law 1410 = .ok (.aload_n 1, 1) := by decide +kernel
theorem dL_law_1411 : decode cL_law 1411 = .ok (.aload_n 0, 1) := by decide +kernel
theorem dL_law_1412 : decode cL_law 1412 = .ok (.iload_n 3, 1) := by decide +kernel
theorem dL_law_1413 : decode cL_law 1413 = .ok (.iconst 1, 1) := by decide +kernel
theorem dL_law_1414 : decode cL_law 1414 = .ok (.iadd, 1) := by decide +kernel
theorem dL_law_1415 : decode cL_law 1415 = .ok (.iaload, 1) := by decide +kernel
theorem dL_law_1416 : decode cL_law 1416 = .ok (.aload_n 0, 1) := by decide +kernel
theorem dL_law_1417 : decode cL_law 1417 = .ok (.iload_n 3, 1) := by decide +kernel
theorem dL_law_1418 : decode cL_law 1418 = .ok (.iconst 2, 1) := by decide +kernel
theorem dL_law_1419 : decode cL_law 1419 = .ok (.iadd, 1) := by decide +kernel
theorem dL_law_1420 : decode cL_law 1420 = .ok (.iaload, 1) := by decide +kernel
theorem dL_law_1421 : decode cL_law 1421 = .ok (.invokevirtual 156, 3) := by decide +kernel
theorem dL_law_1424 : decode cL_law 1424 = .ok (.aload_n 2, 1) := by decide +kernel
theorem dL_law_1425 : decode cL_law 1425 = .ok (.aload_n 0, 1) := by decide +kernel
theorem dL_law_1426 : decode cL_law 1426 = .ok (.iload_n 3, 1) := by decide +kernel
theorem dL_law_1427 : decode cL_law 1427 = .ok (.iconst 1, 1) := by decide +kernel
theorem dL_law_1428 : decode cL_law 1428 = .ok (.iadd, 1) := by decide +kernel
theorem dL_law_1429 : decode cL_law 1429 = .ok (.iaload, 1) := by decide +kernel
theorem dL_law_1430 : decode cL_law 1430 = .ok (.aload_n 0, 1) := by decide +kernel
theorem dL_law_1431 : decode cL_law 1431 = .ok (.iload_n 3, 1) := by decide +kernel
theorem dL_law_1432 : decode cL_law 1432 = .ok (.iconst 2, 1) := by decide +kernel
theorem dL_law_1433 : decode cL_law 1433 = .ok (.iadd, 1) := by decide +kernel
theorem dL_law_1434 : decode cL_law 1434 = .ok (.iaload, 1) := by decide +kernel
theorem dL_law_1435 : decode cL_law 1435 = .ok (.invokevirtual 159, 3) := by decide +kernel
theorem dL_law_1438 : decode cL_law 1438 = .ok (.if_icmp .eq 78, 3) := by decide +kernel
theorem dL_law_1441 : decode cL_law 1441 = .ok (.iconst 0, 1) := by decide +kernel
theorem dL_law_1442 : decode cL_law 1442 = .ok (.ireturn, 1) := by decide +kernel
theorem dL_law_1443 : decode cL_law 1443 = .ok (.aload_n 1, 1) := by decide +kernel
theorem dL_law_1444 : decode cL_law 1444 = .ok (.invokevirtual 160, 3) := by decide +kernel
theorem dL_law_1447 : decode cL_law 1447 = .ok (.aload_n 2, 1) := by decide +kernel
theorem dL_law_1448 : decode cL_law 1448 = .ok (.invokevirtual 163, 3) := by decide +kernel
theorem dL_law_1451 : decode cL_law 1451 = .ok (.if_icmp .eq 65, 3) := by decide +kernel
theorem dL_law_1454 : decode cL_law 1454 = .ok (.iconst 0, 1) := by decide +kernel
theorem dL_law_1455 : decode cL_law 1455 = .ok (.ireturn, 1) := by decide +kernel
theorem dL_law_1456 : decode cL_law 1456 = .ok (.aload_n 1, 1) := by decide +kernel
theorem dL_law_1457 : decode cL_law 1457 = .ok (.aload_n 0, 1) := by decide +kernel
theorem dL_law_1458 : decode cL_law 1458 = .ok (.iload_n 3, 1) := by decide +kernel
theorem dL_law_1459 : decode cL_law 1459 = .ok (.iconst 1, 1) := by decide +kernel
theorem dL_law_1460 : decode cL_law 1460 = .ok (.iadd, 1) := by decide +kernel
theorem dL_law_1461 : decode cL_law 1461 = .ok (.iaload, 1) := by decide +kernel
theorem dL_law_1462 : decode cL_law 1462 = .ok (.invokevirtual 164, 3) := by decide +kernel
theorem dL_law_1465 : decode cL_law 1465 = .ok (.aload_n 2, 1) := by decide +kernel
theorem dL_law_1466 : decode cL_law 1466 = .ok (.aload_n 0, 1) := by decide +kernel
theorem dL_law_1467 : decode cL_law 1467 = .ok (.iload_n 3, 1) := by decide +kernel
theorem dL_law_1468 : decode cL_law 1468 = .ok (.iconst 1, 1) := by decide +kernel
theorem dL_law_1469 : decode cL_law 1469 = .ok (.iadd, 1) := by decide +kernel
theorem dL_law_1470 : decode cL_law 1470 = .ok (.iaload, 1) := by decide +kernel
theorem dL_law_1471 : decode cL_law 1471 = .ok (.invokevirtual 167, 3) := by decide +kernel
theorem dL_law_1474 : decode cL_law 1474 = .ok (.if_icmp .eq 42, 3) := by decide +kernel
theorem dL_law_1477 : decode cL_law 1477 = .ok (.iconst 0, 1) := by decide +kernel
theorem dL_law_1478 : decode cL_law 1478 = .ok (.ireturn, 1) := by decide +kernel
theorem dL_law_1479 : decode cL_law 1479 = .ok (.aload_n 1, 1) := by decide +kernel
theorem dL_law_1480 : decode cL_law 1480 = .ok (.aload_n 0, 1) := by decide +kernel
theorem dL_law_1481 : decode cL_law 1481 = .ok (.iload_n 3, 1) := by decide +kernel
theorem dL_law_1482 : decode cL_law 1482 = .ok (.iconst 1, 1) := by decide +kernel
theorem dL_law_1483 : decode cL_law 1483 = .ok (.iadd, 1) := by decide +kernel
theorem dL_law_1484 : decode cL_law 1484 = .ok (.iaload, 1) := by decide +kernel
theorem dL_law_1485 : decode cL_law 1485 = .ok (.invokevirtual 168, 3) := by decide +kernel
theorem dL_law_1488 : decode cL_law 1488 = .ok (.aload_n 2, 1) := by decide +kernel
theorem dL_law_1489 : decode cL_law 1489 = .ok (.aload_n 0, 1) := by decide +kernel
theorem dL_law_1490 : decode cL_law 1490 = .ok (.iload_n 3, 1) := by decide +kernel
theorem dL_law_1491 : decode cL_law 1491 = .ok (.iconst 1, 1) := by decide +kernel
theorem dL_law_1492 : decode cL_law 1492 = .ok (.iadd, 1) := by decide +kernel
theorem dL_law_1493 : decode cL_law 1493 = .ok (.iaload, 1) := by decide +kernel
theorem dL_law_1494 : decode cL_law 1494 = .ok (.invokevirtual 171, 3) := by decide +kernel
theorem dL_law_1497 : decode cL_law 1497 = .ok (.if_icmp .eq 19, 3) := by decide +kernel
theorem dL_law_1500 : decode cL_law 1500 = .ok (.iconst 0, 1) := by decide +kernel
theorem dL_law_1501 : decode cL_law 1501 = .ok (.ireturn, 1) := by decide +kernel
theorem dL_law_1502 : decode cL_law 1502 = .ok (.aload_n 1, 1) := by decide +kernel
theorem dL_law_1503 : decode cL_law 1503 = .ok (.invokevirtual 172, 3) := by decide +kernel
theorem dL_law_1506 : decode cL_law 1506 = .ok (.aload_n 2, 1) := by decide +kernel
theorem dL_law_1507 : decode cL_law 1507 = .ok (.invokevirtual 175, 3) := by decide +kernel
theorem dL_law_1510 : decode cL_law 1510 = .ok (.lcmp, 1) := by decide +kernel
theorem dL_law_1511 : decode cL_law 1511 = .ok (.ifCond .eq 5, 3) := by decide +kernel
theorem dL_law_1514 : decode cL_law 1514 = .ok (.iconst 0, 1) := by decide +kernel
theorem dL_law_1515 : decode cL_law 1515 = .ok (.ireturn, 1) := by decide +kernel
theorem dL_law_1516 : decode cL_law 1516 = .ok (.iinc 3 6, 3) := by decide +kernel
theorem dL_law_1519 : decode cL_law 1519 = .ok (.goto (-1501), 3) := by decide +kernel
theorem dL_law_1522 : decode cL_law 1522 = .ok (.iconst 1, 1) := by decide +kernel
theorem dL_law_1523 : decode cL_law 1523 = .ok (.ireturn, 1) := by decide +kernel
