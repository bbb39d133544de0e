set_option maxRecDepth 20000 in
theorem gL_isTold_L_areValues : GoodIn wsL_isTold (va_wsS RL 144 yL_areValues wsL_areValues) := goodIn_app (goodIn_of _ (by decide +kernel)) ggL_isTold_L_areValues
set_option maxRecDepth 20000 in
theorem ggL_isTold_L_isStarred : GoodIn wsL_isTold wsL_isStarred := goodIn_ca (goodIn_r _ [299, 1, 300, 301, 5, 302, 186, 303, 304, 305, 21, 306, 23, 39, 211, 212, 213, 214, 198, 199, 215, 216, 217, 72, 218, 219, 131, 132, 133, 134, 135, 75, 76, 307, 63, 64, 65, 66, 67, 68, 308, 309, 310, 311, 220, 221, 222, 223, 38, 136, 91, 92, 224, 46, 47, 43, 48, 49, 50, 51, 52, 53, 54, 55, 56, 57, 58, 59, 60, 61, 62, 69, 70, 71, 73, 74, 77, 78, 79, 80, 81, 82, 83, 84, 85, 86, 87, 88, 89, 90, 93, 94, 95, 96, 97, 98, 99, 100, 101, 102, 103, 104, 105, 106, 107, 108, 109, 110, 111, 112, 113, 114, 115, 116, 117, 118, 123, 124, 125, 126, 127, 128, 129, 130, 40, 41, 42, 44, 45, 225, 226, 227, 228, 229, 230, 231, 232, 233, 234, 312, 313, 314, 235, 236, 237, 15, 16, 17, 3, 4, 6, 7, 8, 9, 10, 11, 12, 13, 14, 238, 239, 240, 241, 242, 243, 315, 316, 317, 318, 319, 320, 321, 322, 323, 324, 325, 326, 327, 328, 329, 330, 331, 332, 333, 334, 335, 336, 337, 338] (by decide +kernel) (by decide +kernel)) (goodIn_sub (fun _ h => List.mem_cons_of_mem _ (List.mem_append_right _ h)) (by decide +kernel))
set_option maxRecDepth 20000 in
theorem gL_isTold_L_isStarred : GoodIn wsL_isTold (va_wsS RL 148 yL_isStarred wsL_isStarred) := goodIn_app (goodIn_of _ (by decide +kernel)) ggL_isTold_L_isStarred
theorem dL_isTold_0 : decode cL_isTold 0 = .ok (.aload_n 3, 1) := by decide +kernel
theorem dL_isTold_1 : decode cL_isTold 1 = .ok (.aload 4, 2) := by decide +kernel
theorem dL_isTold_3 : decode cL_isTold 3 = .ok (.aload 5, 2) := by decide +kernel
theorem dL_isTold_5 : decode cL_isTold 5 = .ok (.aload 6, 2) := by decide +kernel
theorem dL_isTold_7 : decode cL_isTold 7 = .ok (.invokestatic 85, 3) := by decide +kernel
theorem dL_isTold_10 : decode cL_isTold 10 = .ok (.lstore 7, 2) := by decide +kernel
theorem dL_isTold_12 : decode cL_isTold 12 = .ok (.aload_n 3, 1) := by decide +kernel
theorem dL_isTold_13 : decode cL_isTold 13 = .ok (.iconst 1, 1) := by decide +kernel
theorem dL_isTold_14 : decode cL_isTold 14 = .ok (.iaload, 1) := by decide +kernel
theorem dL_isTold_15 : decode cL_isTold 15 = .ok (.ifCond .ne 7, 3) := by decide +kernel
theorem dL_isTold_18 : decode cL_isTold 18 = .ok (.lconst 0, 1) := by decide +kernel
theorem dL_isTold_19 : decode cL_isTold 19 = .ok (.goto 24, 3) := by decide +kernel
theorem dL_isTold_22 : decode cL_isTold 22 = .ok (.aload_n 3, 1) := by decide +kernel
theorem dL_isTold_23 : decode cL_isTold 23 = .ok (.iconst 1, 1) := by decide +kernel
theorem dL_isTold_24 : decode cL_isTold 24 = .ok (.iaload, 1) := by decide +kernel
theorem dL_isTold_25 : decode cL_isTold 25 = .ok (.aload_n 3, 1) := by decide +kernel
theorem dL_isTold_26 : decode cL_isTold 26 = .ok (.iconst 1, 1) := by decide +kernel
theorem dL_isTold_27 : decode cL_isTold 27 = .ok (.iaload, 1) := by decide +kernel
theorem dL_isTold_28 : decode cL_isTold 28 = .ok (.iconst 1, 1) := by decide +kernel
theorem dL_isTold_29 : decode cL_isTold 29 = .ok (.isub, 1) := by decide +kernel
theorem dL_isTold_30 : decode cL_isTold 30 = .ok (.iand, 1) := by decide +kernel
theorem dL_isTold_31 : decode cL_isTold 31 = .ok (.iconst (-1), 1) := by decide +kernel
theorem dL_isTold_32 : decode cL_isTold 32 = .ok (.iconst (-1), 1) := by decide +kernel
theorem dL_isTold_33 : decode cL_isTold 33 = .ok (.aload_n 3, 1) := by decide +kernel
theorem dL_isTold_34 : decode cL_isTold 34 = .ok (.aload 4, 2) := by decide +kernel
theorem dL_isTold_36 : decode cL_isTold 36 = .ok (.aload 5, 2) := by decide +kernel
theorem dL_isTold_38 : decode cL_isTold 38 = .ok (.aload 6, 2) := by decide +kernel
theorem dL_isTold_40 : decode cL_isTold 40 = .ok (.invokestatic 81, 3) := by decide +kernel
theorem dL_isTold_43 : decode cL_isTold 43 = .ok (.lstore 9, 2) := by decide +kernel
theorem dL_isTold_45 : decode cL_isTold 45 = .ok (.aload_n 0, 1) := by decide +kernel
theorem dL_isTold_46 : decode cL_isTold 46 = .ok (.invokevirtual 108, 3) := by decide +kernel
theorem dL_isTold_49 : decode cL_isTold 49 = .ok (.aload_n 3, 1) := by decide +kernel
theorem dL_isTold_50 : decode cL_isTold 50 = .ok (.iconst 1, 1) := by decide +kernel
theorem dL_isTold_51 : decode cL_isTold 51 = .ok (.iaload, 1) := by decide +kernel
theorem dL_isTold_52 : decode cL_isTold 52 = .ok (.if_icmp .ne 43, 3) := by decide +kernel
theorem dL_isTold_55 : decode cL_isTold 55 = .ok (.aload_n 0, 1) := by decide +kernel
theorem dL_isTold_56 : decode cL_isTold 56 = .ok (.invokevirtual 111, 3) := by decide +kernel
theorem dL_isTold_59 : decode cL_isTold 59 = .ok (.aload_n 3, 1) := by decide +kernel
theorem dL_isTold_60 : decode cL_isTold 60 = .ok (.iconst 4, 1) := by decide +kernel
theorem dL_isTold_61 : decode cL_isTold 61 = .ok (.iaload, 1) := by decide +kernel
theorem dL_isTold_62 : decode cL_isTold 62 = .ok (.if_icmp .ne 33, 3) := by decide +kernel
theorem dL_isTold_65 : decode cL_isTold 65 = .ok (.aload_n 0, 1) := by decide +kernel
theorem dL_isTold_66 : decode cL_isTold 66 = .ok (.invokevirtual 114, 3) := by decide +kernel
theorem dL_isTold_69 : decode cL_isTold 69 = .ok (.lload 7, 2) := by decide +kernel
theorem dL_isTold_71 : decode cL_isTold 71 = .ok (.lcmp, 1) := by decide +kernel
theorem dL_isTold_72 : decode cL_isTold 72 = .ok (.ifCond .ne 23, 3) := by decide +kernel
theorem dL_isTold_75 : decode cL_isTold 75 = .ok (.aload_n 0, 1) := by decide +kernel
theorem dL_isTold_76 : decode cL_isTold 76 = .ok (.invokevirtual 117, 3) := by decide +kernel
theorem dL_isTold_79 : decode cL_isTold 79 = .ok (.lload 9, 2) := by decide +kernel
theorem dL_isTold_81 : decode cL_isTold 81 = .ok (.lcmp, 1) := by decide +kernel
theorem dL_isTold_82 : decode cL_isTold 82 = .ok (.ifCond .ne 13, 3) := by decide +kernel
theorem dL_isTold_85 : decode cL_isTold 85 = .ok (.aload_n 0, 1) := by decide +kernel
theorem dL_isTold_86 : decode cL_isTold 86 = .ok (.invokevirtual 120, 3) := by decide +kernel
theorem dL_isTold_89 : decode cL_isTold 89 = .ok (.lload 9, 2) := by decide +kernel
theorem dL_isTold_91 : decode cL_isTold 91 = .ok (.lcmp, 1) := by decide +kernel
theorem dL_isTold_92 : decode cL_isTold 92 = .ok (.ifCond .eq 5, 3) := by decide +kernel
theorem dL_isTold_95 : decode cL_isTold 95 = .ok (.iconst 0, 1) := by decide +kernel
theorem dL_isTold_96 : decode cL_isTold 96 = .ok (.ireturn, 1) := by decide +kernel
theorem dL_isTold_97 : decode cL_isTold 97 = .ok (.iload_n 1, 1) := by decide +kernel
theorem dL_isTold_98 : decode cL_isTold 98 = .ok (.bipush 20, 2) := by decide +kernel
theorem dL_isTold_100 : decode cL_isTold 100 = .ok (.invokestatic 123, 3) := by decide +kernel
theorem dL_isTold_103 : decode cL_isTold 103 = .ok (.istore 11, 2) := by decide +kernel
theorem dL_isTold_105 : decode cL_isTold 105 = .ok (.aload_n 3, 1) := by decide +kernel
theorem dL_isTold_106 : decode cL_isTold 106 = .ok (.iconst 4, 1) := by decide +kernel
theorem dL_isTold_107 : decode cL_isTold 107 = .ok (.iaload, 1) := by decide +kernel
theorem dL_isTold_108 : decode cL_isTold 108 = .ok (.iload 11, 2) := by decide +kernel
theorem dL_isTold_110 : decode cL_isTold 110 = .ok (.ishr, 1) := by decide +kernel
theorem dL_isTold_111 : decode cL_isTold 111 = .ok (.iconst 1, 1) := by decide +kernel
theorem dL_isTold_112 : decode cL_isTold 112 = .ok (.iand, 1) := by decide +kernel
theorem dL_isTold_113 : decode cL_isTold 113 = .ok (.iconst 1, 1) := by decide +kernel
theorem dL_isTold_114 : decode cL_isTold 114 = .ok (.if_icmp .ne 7, 3) := by decide +kernel
theorem dL_isTold_117 : decode cL_isTold 117 = .ok (.iconst 1, 1) := by decide +kernel
theorem dL_isTold_118 : decode cL_isTold 118 = .ok (.goto 4, 3) := by decide +kernel
theorem dL_isTold_121 : decode cL_isTold 121 = .ok (.iconst 0, 1) := by decide +kernel
theorem dL_isTold_122 : decode cL_isTold 122 = .ok (.istore 12, 2) := by decide +kernel
theorem dL_isTold_124 : decode cL_isTold 124 = .ok (.aload_n 0, 1) := by decide +kernel
theorem dL_isTold_125 : decode cL_isTold 125 = .ok (.iload 11, 2) := by decide +kernel
theorem dL_isTold_127 : decode cL_isTold 127 = .ok (.iconst 0, 1) := by decide +kernel
theorem dL_isTold_128 : decode cL_isTold 128 = .ok (.invokestatic 126, 3) := by decide +kernel
theorem dL_isTold_131 : decode cL_isTold 131 = .ok (.iload 12, 2) := by decide +kernel
theorem dL_isTold_133 : decode cL_isTold 133 = .ok (.ifCond .eq 11, 3) := by decide +kernel
theorem dL_isTold_136 : decode cL_isTold 136 = .ok (.aload 4, 2) := by decide +kernel
theorem dL_isTold_138 : decode cL_isTold 138 = .ok (.iload 11, 2) := by decide +kernel
theorem dL_isTold_140 : decode cL_isTold 140 = .ok (.iaload, 1) := by decide +kernel
theorem dL_isTold_141 : decode cL_isTold 141 = .ok (.goto 6, 3) := by decide +kernel
theorem dL_isTold_144 : decode cL_isTold 144 = .ok (.sipush (-7100), 3) := by decide +kernel
theorem dL_isTold_147 : decode cL_isTold 147 = .ok (.if_icmp .ne 55, 3) := by decide +kernel
theorem dL_isTold_150 : decode cL_isTold 150 = .ok (.aload_n 0, 1) := by decide +kernel
theorem dL_isTold_151 : decode cL_isTold 151 = .ok (.iload 11, 2) := by decide +kernel
theorem dL_isTold_153 : decode cL_isTold 153 = .ok (.iconst 1, 1) := by decide +kernel
theorem dL_isTold_154 : decode cL_isTold 154 = .ok (.invokestatic 126, 3) := by decide +kernel
theorem dL_isTold_157 : decode cL_isTold 157 = .ok (.iload 12, 2) := by decide +kernel
theorem dL_isTold_159 : decode cL_isTold 159 = .ok (.ifCond .eq 11, 3) := by decide +kernel
theorem dL_isTold_162 : decode cL_isTold 162 = .ok (.aload 5, 2) := by decide +kernel
theorem dL_isTold_164 : decode cL_isTold 164 = .ok (.iload 11, 2) := by decide +kernel
theorem dL_isTold_166 : decode cL_isTold 166 = .ok (.iaload, 1) := by decide +kernel
theorem dL_isTold_167 : decode cL_isTold 167 = .ok (.goto 6, 3) := by decide +kernel
theorem dL_isTold_170 : decode cL_isTold 170 = .ok (.sipush (-7100), 3) := by decide +kernel
theorem dL_isTold_173 : decode cL_isTold 173 = .ok (.if_icmp .ne 29, 3) := by decide +kernel
theorem dL_isTold_176 : decode cL_isTold 176 = .ok (.aload_n 0, 1) := by decide +kernel
theorem dL_isTold_177 : decode cL_isTold 177 = .ok (.iload 11, 2) := by decide +kernel
theorem dL_isTold_179 : decode cL_isTold 179 = .ok (.iconst 2, 1) := by decide +kernel
theorem dL_isTold_180 : decode cL_isTold 180 = .ok (.invokestatic 126, 3) := by decide +kernel
theorem dL_isTold_183 : decode cL_isTold 183 = .ok (.iload 12, 2) := by decide +kernel
theorem dL_isTold_185 : decode cL_isTold 185 = .ok (.ifCond .eq 11, 3) := by decide +kernel
theorem dL_isTold_188 : decode cL_isTold 188 = .ok (.aload 6, 2) := by decide +kernel
theorem dL_isTold_190 : decode cL_isTold 190 = .ok (.iload 11, 2) := by decide +kernel
theorem dL_isTold_192 : decode cL_isTold 192 = .ok (.iaload, 1) := by decide +kernel
theorem dL_isTold_193 : decode cL_isTold 193 = .ok (.goto 6, 3) := by decide +kernel
theorem dL_isTold_196 : decode cL_isTold 196 = .ok (.sipush (-7100), 3) := by decide +kernel
theorem dL_isTold_199 : decode cL_isTold 199 = .ok (.if_icmp .eq 5, 3) := by decide +kernel
theorem dL_isTold_202 : decode cL_isTold 202 = .ok (.iconst 0, 1) := by decide +kernel
theorem dL_isTold_203 : decode cL_isTold 203 = .ok (.ireturn, 1) := by decide +kernel
theorem dL_isTold_204 : decode cL_isTold 204 = .ok (.iload_n 1, 1) := by decide +kernel
theorem dL_isTold_205 : decode cL_isTold 205 = .ok (.iconst 2, 1) := by decide +kernel
theorem dL_isTold_206 : decode cL_isTold 206 = .ok (.ishr, 1) := by decide +kernel
theorem dL_isTold_207 : decode cL_isTold 207 = .ok (.bipush 7, 2) := by decide +kernel
theorem dL_isTold_209 : decode cL_isTold 209 = .ok (.invokestatic 123, 3) := by decide +kernel
theorem dL_isTold_212 : decode cL_isTold 212 = .ok (.istore 13, 2) := by decide +kernel
theorem dL_isTold_214 : decode cL_isTold 214 = .ok (.iload_n 1, 1) := by decide +kernel
theorem dL_isTold_215 : decode cL_isTold 215 = .ok (.bipush 6, 2) := by decide +kernel
theorem dL_isTold_217 : decode cL_isTold 217 = .ok (.ishr, 1) := by decide +kernel
theorem dL_isTold_218 : decode cL_isTold 218 = .ok (.bipush 7, 2) := by decide +kernel
theorem dL_isTold_220 : decode cL_isTold 220 = .ok (.invokestatic 123, 3) := by decide +kernel
theorem dL_isTold_223 : decode cL_isTold 223 = .ok (.istore 14, 2) := by decide +kernel
theorem dL_isTold_225 : decode cL_isTold 225 = .ok (.iload_n 1, 1) := by decide +kernel
theorem dL_isTold_226 : decode cL_isTold 226 = .ok (.bipush 10, 2) := by decide +kernel
theorem dL_isTold_228 : decode cL_isTold 228 = .ok (.ishr, 1) := by decide +kernel
theorem dL_isTold_229 : decode cL_isTold 229 = .ok (.bipush 7, 2) := by decide +kernel
theorem dL_isTold_231 : decode cL_isTold 231 = .ok (.invokestatic 123, 3) := by decide +kernel
theorem dL_isTold_234 : decode cL_isTold 234 = .ok (.istore 15, 2) := by decide +kernel
theorem dL_isTold_236 : decode cL_isTold 236 = .ok (.aload_n 3, 1) := by decide +kernel
theorem dL_isTold_237 : decode cL_isTold 237 = .ok (.iconst 1, 1) := by decide +kernel
theorem dL_isTold_238 : decode cL_isTold 238 = .ok (.iaload, 1) := by decide +kernel
theorem dL_isTold_239 : decode cL_isTold 239 = .ok (.aload_n 3, 1) := by decide +kernel
theorem dL_isTold_240 : decode cL_isTold 240 = .ok (.iconst 2, 1) := by decide +kernel
theorem dL_isTold_241 : decode cL_isTold 241 = .ok (.iaload, 1) := by decide +kernel
theorem dL_isTold_242 : decode cL_isTold 242 = .ok (.iand, 1) := by decide +kernel
theorem dL_isTold_243 : decode cL_isTold 243 = .ok (.iconst 1, 1) := by decide +kernel
theorem dL_isTold_244 : decode cL_isTold 244 = .ok (.iload 13, 2) := by decide +kernel
theorem dL_isTold_246 : decode cL_isTold 246 = .ok (.ishl, 1) := by decide +kernel
theorem dL_isTold_247 : decode cL_isTold 247 = .ok (.iand, 1) := by decide +kernel
theorem dL_isTold_248 : decode cL_isTold 248 = .ok (.ifCond .le 22, 3) := by decide +kernel
theorem dL_isTold_251 : decode cL_isTold 251 = .ok (.aload_n 3, 1) := by decide +kernel
theorem dL_isTold_252 : decode cL_isTold 252 = .ok (.iconst 1, 1) := by decide +kernel
theorem dL_isTold_253 : decode cL_isTold 253 = .ok (.iaload, 1) := by decide +kernel
theorem dL_isTold_254 : decode cL_isTold 254 = .ok (.aload_n 3, 1) := by decide +kernel
theorem dL_isTold_255 : decode cL_isTold 255 = .ok (.iconst 2, 1) := by decide +kernel
theorem dL_isTold_256 : decode cL_isTold 256 = .ok (.iaload, 1) := by decide +kernel
theorem dL_isTold_257 : decode cL_isTold 257 = .ok (.iand, 1) := by decide +kernel
theorem dL_isTold_258 : decode cL_isTold 258 = .ok (.iconst 1, 1) := by decide +kernel
theorem dL_isTold_259 : decode cL_isTold 259 = .ok (.iload 14, 2) := by decide +kernel
theorem dL_isTold_261 : decode cL_isTold 261 = .ok (.ishl, 1) := by decide +kernel
theorem dL_isTold_262 : decode cL_isTold 262 = .ok (.iand, 1) := by decide +kernel
theorem dL_isTold_263 : decode cL_isTold 263 = .ok (.ifCond .le 7, 3) := by decide +kernel
theorem dL_isTold_266 : decode cL_isTold 266 = .ok (.iconst 1, 1) := by decide +kernel
theorem dL_isTold_267 : decode cL_isTold 267 = .ok (.goto 4, 3) := by decide +kernel
theorem dL_isTold_270 : decode cL_isTold 270 = .ok (.iconst 0, 1) := by decide +kernel
theorem dL_isTold_271 : decode cL_isTold 271 = .ok (.istore 16, 2) := by decide +kernel
theorem dL_isTold_273 : decode cL_isTold 273 = .ok (.iload 16, 2) := by decide +kernel
theorem dL_isTold_275 : decode cL_isTold 275 = .ok (.ifCond .ne 22, 3) := by decide +kernel
theorem dL_isTold_278 : decode cL_isTold 278 = .ok (.aload_n 0, 1) := by decide +kernel
theorem dL_isTold_279 : decode cL_isTold 279 = .ok (.iload 13, 2) := by decide +kernel
theorem dL_isTold_281 : decode cL_isTold 281 = .ok (.iload 14, 2) := by decide +kernel
theorem dL_isTold_283 : decode cL_isTold 283 = .ok (.iconst 1, 1) := by decide +kernel
theorem dL_isTold_284 : decode cL_isTold 284 = .ok (.invokestatic 129, 3) := by decide +kernel
theorem dL_isTold_287 : decode cL_isTold 287 = .ok (.ldc2_w 36, 3) := by decide +kernel
theorem dL_isTold_290 : decode cL_isTold 290 = .ok (.lcmp, 1) := by decide +kernel
theorem dL_isTold_291 : decode cL_isTold 291 = .ok (.ifCond .eq 74, 3) := by decide +kernel
theorem dL_isTold_294 : decode cL_isTold 294 = .ok (.goto 69, 3) := by decide +kernel
theorem dL_isTold_297 : decode cL_isTold 297 = .ok (.iload 13, 2) := by decide +kernel
theorem dL_isTold_299 : decode cL_isTold 299 = .ok (.iload 14, 2) := by decide +kernel
theorem dL_isTold_301 : decode cL_isTold 301 = .ok (.if_icmp .ne 22, 3) := by decide +kernel
theorem dL_isTold_304 : decode cL_isTold 304 = .ok (.aload_n 0, 1) := by decide +kernel
theorem dL_isTold_305 : decode cL_isTold 305 = .ok (.iload 13, 2) := by decide +kernel
theorem dL_isTold_307 : decode cL_isTold 307 = .ok (.iload 14, 2) := by decide +kernel
theorem dL_isTold_309 : decode cL_isTold 309 = .ok (.iconst 1, 1) := by decide +kernel
theorem dL_isTold_310 : decode cL_isTold 310 = .ok (.invokestatic 129, 3) := by decide +kernel
theorem dL_isTold_313 : decode cL_isTold 313 = .ok (.ldc2_w 38, 3) := by decide +kernel
theorem dL_isTold_316 : decode cL_isTold 316 = .ok (.lcmp, 1) := by decide +kernel
theorem dL_isTold_317 : decode cL_isTold 317 = .ok (.ifCond .eq 48, 3) := by decide +kernel
theorem dL_isTold_320 : decode cL_isTold 320 = .ok (.goto 43, 3) := by decide +kernel
theorem dL_isTold_323 : decode cL_isTold 323 = .ok (.aload_n 0, 1) := by decide +kernel
theorem dL_isTold_324 : decode cL_isTold 324 = .ok (.iload 13, 2) := by decide +kernel
theorem dL_isTold_326 : decode cL_isTold 326 = .ok (.iload 14, 2) := by decide +kernel
theorem dL_isTold_328 : decode cL_isTold 328 = .ok (.iconst 0, 1) := by decide +kernel
theorem dL_isTold_329 : decode cL_isTold 329 = .ok (.invokestatic 129, 3) := by decide +kernel
theorem dL_isTold_332 : decode cL_isTold 332 = .ok (.aload_n 0, 1) := by decide +kernel
theorem dL_isTold_333 : decode cL_isTold 333 = .ok (.iload 13, 2) := by decide +kernel
theorem dL_isTold_335 : decode cL_isTold 335 = .ok (.iload 14, 2) := by decide +kernel
theorem dL_isTold_337 : decode cL_isTold 337 = .ok (.iconst 1, 1) := by decide +kernel
theorem dL_isTold_338 : decode cL_isTold 338 = .ok (.invokestatic 129, 3) := by decide +kernel
theorem dL_isTold_341 : decode cL_isTold 341 = .ok (.iload 13, 2) := by decide +kernel
theorem dL_isTold_343 : decode cL_isTold 343 = .ok (.iload 14, 2) := by decide +kernel
theorem dL_isTold_345 : decode cL_isTold 345 = .ok (.aload_n 3, 1) := by decide +kernel
theorem dL_isTold_346 : decode cL_isTold 346 = .ok (.aload 4, 2) := by decide +kernel
theorem dL_isTold_348 : decode cL_isTold 348 = .ok (.aload 5, 2) := by decide +kernel
theorem dL_isTold_350 : decode cL_isTold 350 = .ok (.aload 6, 2) := by decide +kernel
theorem dL_isTold_352 : decode cL_isTold 352 = .ok (.invokestatic 132, 3) := by decide +kernel
theorem dL_isTold_355 : decode cL_isTold 355 = .ok (.lload 7, 2) := by decide +kernel
theorem dL_isTold_357 : decode cL_isTold 357 = .ok (.invokestatic 135, 3) := by decide +kernel
theorem dL_isTold_360 : decode cL_isTold 360 = .ok (.ifCond .ne 5, 3) := by decide +kernel
theorem dL_isTold_363 : decode cL_isTold 363 = .ok (.iconst 0, 1) := by decide +kernel
theorem dL_isTold_364 : decode cL_isTold 364 = .ok (.ireturn, 1) := by decide +kernel
theorem dL_isTold_365 : decode cL_isTold 365 = .ok (.aload_n 3, 1) := by decide +kernel
theorem dL_isTold_366 : decode cL_isTold 366 = .ok (.iconst 1, 1) := by decide +kernel
theorem dL_isTold_367 : decode cL_isTold 367 = .ok (.iaload, 1) := by decide +kernel
theorem dL_isTold_368 : decode cL_isTold 368 = .ok (.iload 13, 2) := by decide +kernel
theorem dL_isTold_370 : decode cL_isTold 370 = .ok (.ishr, 1) := by decide +kernel
theorem dL_isTold_371 : decode cL_isTold 371 = .ok (.iconst 1, 1) := by decide +kernel
theorem dL_isTold_372 : decode cL_isTold 372 = .ok (.iand, 1) := by decide +kernel
theorem dL_isTold_373 : decode cL_isTold 373 = .ok (.iconst 1, 1) := by decide +kernel
theorem dL_isTold_374 : decode cL_isTold 374 = .ok (.if_icmp .ne 19, 3) := by decide +kernel
theorem dL_isTold_377 : decode cL_isTold 377 = .ok (.aload_n 3, 1) := by decide +kernel
theorem dL_isTold_378 : decode cL_isTold 378 = .ok (.iconst 1, 1) := by decide +kernel
theorem dL_isTold_379 : decode cL_isTold 379 = .ok (.iaload, 1) := by decide +kernel
theorem dL_isTold_380 : decode cL_isTold 380 = .ok (.iload 14, 2) := by decide +kernel
theorem dL_isTold_382 : decode cL_isTold 382 = .ok (.ishr, 1) := by decide +kernel
theorem dL_isTold_383 : decode cL_isTold 383 = .ok (.iconst 1, 1) := by decide +kernel
theorem dL_isTold_384 : decode cL_isTold 384 = .ok (.iand, 1) := by decide +kernel
theorem dL_isTold_385 : decode cL_isTold 385 = .ok (.iconst 1, 1) := by decide +kernel
theorem dL_isTold_386 : decode cL_isTold 386 = .ok (.if_icmp .ne 7, 3) := by decide +kernel
theorem dL_isTold_389 : decode cL_isTold 389 = .ok (.iconst 1, 1) := by decide +kernel
theorem dL_isTold_390 : decode cL_isTold 390 = .ok (.goto 4, 3) := by decide +kernel
theorem dL_isTold_393 : decode cL_isTold 393 = .ok (.iconst 0, 1) := by decide +kernel
theorem dL_isTold_394 : decode cL_isTold 394 = .ok (.istore 17, 2) := by decide +kernel
theorem dL_isTold_396 : decode cL_isTold 396 = .ok (.iload 17, 2) := by decide +kernel
theorem dL_isTold_398 : decode cL_isTold 398 = .ok (.ifCond .eq 194, 3) := by decide +kernel
theorem dL_isTold_401 : decode cL_isTold 401 = .ok (.aload_n 3, 1) := by decide +kernel
theorem dL_isTold_402 : decode cL_isTold 402 = .ok (.iconst 1, 1) := by decide +kernel
theorem dL_isTold_403 : decode cL_isTold 403 = .ok (.iaload, 1) := by decide +kernel
theorem dL_isTold_404 : decode cL_isTold 404 = .ok (.iconst 1, 1) := by decide +kernel
theorem dL_isTold_405 : decode cL_isTold 405 = .ok (.iload 13, 2) := by decide +kernel
theorem dL_isTold_407 : decode cL_isTold 407 = .ok (.ishl, 1) := by decide +kernel
theorem dL_isTold_408 : decode cL_isTold 408 = .ok (.iconst 1, 1) := by decide +kernel
theorem dL_isTold_409 : decode cL_isTold 409 = .ok (.iload 14, 2) := by decide +kernel
theorem dL_isTold_411 : decode cL_isTold 411 = .ok (.ishl, 1) := by decide +kernel
theorem dL_isTold_412 : decode cL_isTold 412 = .ok (.ior, 1) := by decide +kernel
theorem dL_isTold_413 : decode cL_isTold 413 = .ok (.iconst (-1), 1) := by decide +kernel
theorem dL_isTold_414 : decode cL_isTold 414 = .ok (.ixor, 1) := by decide +kernel
theorem dL_isTold_415 : decode cL_isTold 415 = .ok (.iand, 1) := by decide +kernel
theorem dL_isTold_416 : decode cL_isTold 416 = .ok (.iconst (-1), 1) := by decide +kernel
theorem dL_isTold_417 : decode cL_isTold 417 = .ok (.iconst (-1), 1) := by decide +kernel
theorem dL_isTold_418 : decode cL_isTold 418 = .ok (.aload_n 3, 1) := by decide +kernel
theorem dL_isTold_419 : decode cL_isTold 419 = .ok (.aload 4, 2) := by decide +kernel
theorem dL_isTold_421 : decode cL_isTold 421 = .ok (.aload 5, 2) := by decide +kernel
theorem dL_isTold_423 : decode cL_isTold 423 = .ok (.aload 6, 2) := by decide +kernel
theorem dL_isTold_425 : decode cL_isTold 425 = .ok (.invokestatic 81, 3) := by decide +kernel
theorem dL_isTold_428 : decode cL_isTold 428 = .ok (.lstore 18, 2) := by decide +kernel
theorem dL_isTold_430 : decode cL_isTold 430 = .ok (.aload_n 0, 1) := by decide +kernel
theorem dL_isTold_431 : decode cL_isTold 431 = .ok (.iload 13, 2) := by decide +kernel
theorem dL_isTold_433 : decode cL_isTold 433 = .ok (.iload 14, 2) := by decide +kernel
theorem dL_isTold_435 : decode cL_isTold 435 = .ok (.iconst 0, 1) := by decide +kernel
theorem dL_isTold_436 : decode cL_isTold 436 = .ok (.invokestatic 139, 3) := by decide +kernel
theorem dL_isTold_439 : decode cL_isTold 439 = .ok (.aload_n 0, 1) := by decide +kernel
theorem dL_isTold_440 : decode cL_isTold 440 = .ok (.iload 13, 2) := by decide +kernel
theorem dL_isTold_442 : decode cL_isTold 442 = .ok (.iload 14, 2) := by decide +kernel
theorem dL_isTold_444 : decode cL_isTold 444 = .ok (.iconst 1, 1) := by decide +kernel
theorem dL_isTold_445 : decode cL_isTold 445 = .ok (.invokestatic 139, 3) := by decide +kernel
theorem dL_isTold_448 : decode cL_isTold 448 = .ok (.iload 13, 2) := by decide +kernel
theorem dL_isTold_450 : decode cL_isTold 450 = .ok (.iload 14, 2) := by decide +kernel
theorem dL_isTold_452 : decode cL_isTold 452 = .ok (.if_icmp .ne 7, 3) := by decide +kernel
theorem dL_isTold_455 : decode cL_isTold 455 = .ok (.lconst 0, 1) := by decide +kernel
theorem dL_isTold_456 : decode cL_isTold 456 = .ok (.goto 5, 3) := by decide +kernel
theorem dL_isTold_459 : decode cL_isTold 459 = .ok (.lload 18, 2) := by decide +kernel
theorem dL_isTold_461 : decode cL_isTold 461 = .ok (.iload 13, 2) := by decide +kernel
theorem dL_isTold_463 : decode cL_isTold 463 = .ok (.iload 14, 2) := by decide +kernel
theorem dL_isTold_465 : decode cL_isTold 465 = .ok (.if_icmp .ne 7, 3) := by decide +kernel
theorem dL_isTold_468 : decode cL_isTold 468 = .ok (.lconst 1, 1) := by decide +kernel
theorem dL_isTold_469 : decode cL_isTold 469 = .ok (.goto 5, 3) := by decide +kernel
theorem dL_isTold_472 : decode cL_isTold 472 = .ok (.lload 9, 2) := by decide +kernel
theorem dL_isTold_474 : decode cL_isTold 474 = .ok (.invokestatic 135, 3) := by decide +kernel
theorem dL_isTold_477 : decode cL_isTold 477 = .ok (.ifCond .ne 5, 3) := by decide +kernel
theorem dL_isTold_480 : decode cL_isTold 480 = .ok (.iconst 0, 1) := by decide +kernel
theorem dL_isTold_481 : decode cL_isTold 481 = .ok (.ireturn, 1) := by decide +kernel
theorem dL_isTold_482 : decode cL_isTold 482 = .ok (.iload 13, 2) := by decide +kernel
theorem dL_isTold_484 : decode cL_isTold 484 = .ok (.iload 14, 2) := by decide +kernel
theorem dL_isTold_486 : decode cL_isTold 486 = .ok (.if_icmp .eq 103, 3) := by decide +kernel
theorem dL_isTold_489 : decode cL_isTold 489 = .ok (.aload_n 3, 1) := by decide +kernel
theorem dL_isTold_490 : decode cL_isTold 490 = .ok (.iconst 1, 1) := by decide +kernel
theorem dL_isTold_491 : decode cL_isTold 491 = .ok (.iaload, 1) := by decide +kernel
theorem dL_isTold_492 : decode cL_isTold 492 = .ok (.iload 15, 2) := by decide +kernel
theorem dL_isTold_494 : decode cL_isTold 494 = .ok (.ishr, 1) := by decide +kernel
theorem dL_isTold_495 : decode cL_isTold 495 = .ok (.iconst 1, 1) := by decide +kernel
theorem dL_isTold_496 : decode cL_isTold 496 = .ok (.iand, 1) := by decide +kernel
theorem dL_isTold_497 : decode cL_isTold 497 = .ok (.iconst 1, 1) := by decide +kernel
theorem dL_isTold_498 : decode cL_isTold 498 = .ok (.if_icmp .ne 91, 3) := by decide +kernel
theorem dL_isTold_501 : decode cL_isTold 501 = .ok (.iload 15, 2) := by decide +kernel
theorem dL_isTold_503 : decode cL_isTold 503 = .ok (.iload 13, 2) := by decide +kernel
theorem dL_isTold_505 : decode cL_isTold 505 = .ok (.if_icmp .ne 8, 3) := by decide +kernel
theorem dL_isTold_508 : decode cL_isTold 508 = .ok (.lload 18, 2) := by decide +kernel
theorem dL_isTold_510 : decode cL_isTold 510 = .ok (.goto 43, 3) := by decide +kernel
theorem dL_isTold_513 : decode cL_isTold 513 = .ok (.iload 15, 2) := by decide +kernel
theorem dL_isTold_515 : decode cL_isTold 515 = .ok (.iload 14, 2) := by decide +kernel
theorem dL_isTold_517 : decode cL_isTold 517 = .ok (.if_icmp .ne 7, 3) := by decide +kernel
theorem dL_isTold_520 : decode cL_isTold 520 = .ok (.lconst 0, 1) := by decide +kernel
theorem dL_isTold_521 : decode cL_isTold 521 = .ok (.goto 32, 3) := by decide +kernel
theorem dL_isTold_524 : decode cL_isTold 524 = .ok (.aload_n 3, 1) := by decide +kernel
theorem dL_isTold_525 : decode cL_isTold 525 = .ok (.iconst 1, 1) := by decide +kernel
theorem dL_isTold_526 : decode cL_isTold 526 = .ok (.iaload, 1) := by decide +kernel
theorem dL_isTold_527 : decode cL_isTold 527 = .ok (.iconst 1, 1) := by decide +kernel
theorem dL_isTold_528 : decode cL_isTold 528 = .ok (.iload 13, 2) := by decide +kernel
theorem dL_isTold_530 : decode cL_isTold 530 = .ok (.ishl, 1) := by decide +kernel
theorem dL_isTold_531 : decode cL_isTold 531 = .ok (.iconst 1, 1) := by decide +kernel
theorem dL_isTold_532 : decode cL_isTold 532 = .ok (.iload 14, 2) := by decide +kernel
theorem dL_isTold_534 : decode cL_isTold 534 = .ok (.ishl, 1) := by decide +kernel
theorem dL_isTold_535 : decode cL_isTold 535 = .ok (.ior, 1) := by decide +kernel
theorem dL_isTold_536 : decode cL_isTold 536 = .ok (.iconst (-1), 1) := by decide +kernel
theorem dL_isTold_537 : decode cL_isTold 537 = .ok (.ixor, 1) := by decide +kernel
theorem dL_isTold_538 : decode cL_isTold 538 = .ok (.iand, 1) := by decide +kernel
theorem dL_isTold_539 : decode cL_isTold 539 = .ok (.iload 15, 2) := by decide +kernel
theorem dL_isTold_541 : decode cL_isTold 541 = .ok (.iload 13, 2) := by decide +kernel
theorem dL_isTold_543 : decode cL_isTold 543 = .ok (.aload_n 3, 1) := by decide +kernel
theorem dL_isTold_544 : decode cL_isTold 544 = .ok (.aload 4, 2) := by decide +kernel
theorem dL_isTold_546 : decode cL_isTold 546 = .ok (.aload 5, 2) := by decide +kernel
theorem dL_isTold_548 : decode cL_isTold 548 = .ok (.aload 6, 2) := by decide +kernel
theorem dL_isTold_550 : decode cL_isTold 550 = .ok (.invokestatic 81, 3) := by decide +kernel
theorem dL_isTold_553 : decode cL_isTold 553 = .ok (.lstore 20, 2) := by decide +kernel
theorem dL_isTold_555 : decode cL_isTold 555 = .ok (.aload_n 0, 1) := by decide +kernel
theorem dL_isTold_556 : decode cL_isTold 556 = .ok (.iload 15, 2) := by decide +kernel
theorem dL_isTold_558 : decode cL_isTold 558 = .ok (.iload 13, 2) := by decide +kernel
theorem dL_isTold_560 : decode cL_isTold 560 = .ok (.iload 14, 2) := by decide +kernel
theorem dL_isTold_562 : decode cL_isTold 562 = .ok (.iconst 0, 1) := by decide +kernel
theorem dL_isTold_563 : decode cL_isTold 563 = .ok (.invokestatic 141, 3) := by decide +kernel
theorem dL_isTold_566 : decode cL_isTold 566 = .ok (.aload_n 0, 1) := by decide +kernel
theorem dL_isTold_567 : decode cL_isTold 567 = .ok (.iload 15, 2) := by decide +kernel
theorem dL_isTold_569 : decode cL_isTold 569 = .ok (.iload 13, 2) := by decide +kernel
theorem dL_isTold_571 : decode cL_isTold 571 = .ok (.iload 14, 2) := by decide +kernel
theorem dL_isTold_573 : decode cL_isTold 573 = .ok (.iconst 1, 1) := by decide +kernel
theorem dL_isTold_574 : decode cL_isTold 574 = .ok (.invokestatic 141, 3) := by decide +kernel
theorem dL_isTold_577 : decode cL_isTold 577 = .ok (.lload 20, 2) := by decide +kernel
theorem dL_isTold_579 : decode cL_isTold 579 = .ok (.lload 18, 2) := by decide +kernel
theorem dL_isTold_581 : decode cL_isTold 581 = .ok (.invokestatic 135, 3) := by decide +kernel
theorem dL_isTold_584 : decode cL_isTold 584 = .ok (.ifCond .ne 5, 3) := by decide +kernel
theorem dL_isTold_587 : decode cL_isTold 587 = .ok (.iconst 0, 1) := by decide +kernel
theorem dL_isTold_588 : decode cL_isTold 588 = .ok (.ireturn, 1) := by decide +kernel
theorem dL_isTold_589 : decode cL_isTold 589 = .ok (.goto 39, 3) := by decide +kernel
theorem dL_isTold_592 : decode cL_isTold 592 = .ok (.aload_n 0, 1) := by decide +kernel
theorem dL_isTold_593 : decode cL_isTold 593 = .ok (.iload 13, 2) := by decide +kernel
theorem dL_isTold_595 : decode cL_isTold 595 = .ok (.iload 14, 2) := by decide +kernel
theorem dL_isTold_597 : decode cL_isTold 597 = .ok (.iconst 1, 1) := by decide +kernel
theorem dL_isTold_598 : decode cL_isTold 598 = .ok (.invokestatic 139, 3) := by decide +kernel
theorem dL_isTold_601 : decode cL_isTold 601 = .ok (.ldc2_w 36, 3) := by decide +kernel
theorem dL_isTold_604 : decode cL_isTold 604 = .ok (.lcmp, 1) := by decide +kernel
theorem dL_isTold_605 : decode cL_isTold 605 = .ok (.ifCond .ne 21, 3) := by decide +kernel
theorem dL_isTold_608 : decode cL_isTold 608 = .ok (.aload_n 0, 1) := by decide +kernel
theorem dL_isTold_609 : decode cL_isTold 609 = .ok (.iload 13, 2) := by decide +kernel
theorem dL_isTold_611 : decode cL_isTold 611 = .ok (.iload 14, 2) := by decide +kernel
theorem dL_isTold_613 : decode cL_isTold 613 = .ok (.iload 14, 2) := by decide +kernel
theorem dL_isTold_615 : decode cL_isTold 615 = .ok (.iconst 1, 1) := by decide +kernel
theorem dL_isTold_616 : decode cL_isTold 616 = .ok (.invokestatic 141, 3) := by decide +kernel
theorem dL_isTold_619 : decode cL_isTold 619 = .ok (.ldc2_w 36, 3) := by decide +kernel
theorem dL_isTold_622 : decode cL_isTold 622 = .ok (.lcmp, 1) := by decide +kernel
theorem dL_isTold_623 : decode cL_isTold 623 = .ok (.ifCond .eq 5, 3) := by decide +kernel
theorem dL_isTold_626 : decode cL_isTold 626 = .ok (.iconst 0, 1) := by decide +kernel
theorem dL_isTold_627 : decode cL_isTold 627 = .ok (.ireturn, 1) := by decide +kernel
theorem dL_isTold_628 : decode cL_isTold 628 = .ok (.aload_n 0, 1) := by decide +kernel
theorem dL_isTold_629 : decode cL_isTold 629 = .ok (.iload 13, 2) := by decide +kernel
theorem dL_isTold_631 : decode cL_isTold 631 = .ok (.lload 7, 2) := by decide +kernel
theorem dL_isTold_633 : decode cL_isTold 633 = .ok (.aload_n 2, 1) := by decide +kernel
theorem dL_isTold_634 : decode cL_isTold 634 = .ok (.aload_n 3, 1) := by decide +kernel
theorem dL_isTold_635 : decode cL_isTold 635 = .ok (.aload 4, 2) := by decide +kernel
theorem dL_isTold_637 : decode cL_isTold 637 = .ok (.aload 5, 2) := by decide +kernel
theorem dL_isTold_639 : decode cL_isTold 639 = .ok (.aload 6, 2) := by decide +kernel
theorem dL_isTold_641 : decode cL_isTold 641 = .ok (.invokestatic 144, 3) := by decide +kernel
theorem dL_isTold_644 : decode cL_isTold 644 = .ok (.ifCond .eq 27, 3) := by decide +kernel
theorem dL_isTold_647 : decode cL_isTold 647 = .ok (.aload_n 0, 1) := by decide +kernel
theorem dL_isTold_648 : decode cL_isTold 648 = .ok (.iload 14, 2) := by decide +kernel
theorem dL_isTold_650 : decode cL_isTold 650 = .ok (.lload 9, 2) := by decide +kernel
theorem dL_isTold_652 : decode cL_isTold 652 = .ok (.lload 7, 2) := by decide +kernel
theorem dL_isTold_654 : decode cL_isTold 654 = .ok (.aload_n 3, 1) := by decide +kernel
theorem dL_isTold_655 : decode cL_isTold 655 = .ok (.aload 4, 2) := by decide +kernel
theorem dL_isTold_657 : decode cL_isTold 657 = .ok (.aload 5, 2) := by decide +kernel
theorem dL_isTold_659 : decode cL_isTold 659 = .ok (.aload 6, 2) := by decide +kernel
theorem dL_isTold_661 : decode cL_isTold 661 = .ok (.invokestatic 148, 3) := by decide +kernel
theorem dL_isTold_664 : decode cL_isTold 664 = .ok (.ifCond .eq 7, 3) := by decide +kernel
theorem dL_isTold_667 : decode cL_isTold 667 = .ok (.iconst 1, 1) := by decide +kernel
theorem dL_isTold_668 : decode cL_isTold 668 = .ok (.goto 4, 3) := by decide +kernel
theorem dL_isTold_671 : decode cL_isTold 671 = .ok (.iconst 0, 1) := by decide +kernel
theorem dL_isTold_672 : decode cL_isTold 672 = .ok (.ireturn, 1) := by decide +kernel
set_option maxRecDepth 20000 in
theorem ggL_areValues_L_pair : GoodIn wsL_areValues wsL_pair := goodIn_r _ [5, 6, 7, 4, 8, 9, 10, 11, 12, 13, 14, 15, 16, 17, 18, 19] (by decide +kernel) (by decide +kernel)
set_option maxRecDepth 20000 in
theorem gL_areValues_L_pair : GoodIn wsL_areValues (va_wsS RL 132 yL_pair wsL_pair) := goodIn_app (goodIn_of _ (by decide +kernel)) ggL_areValues_L_pair
set_option maxRecDepth 20000 in
theorem ggL_areValues_X7_power : GoodIn wsL_areValues wsX7_power := goodIn_r _ [24, 25, 26, 27, 28, 29, 30, 31, 32, 33, 34, 35, 36, 37, 23, 38, 39, 40, 41, 42, 43, 44, 45, 46, 47, 48, 49, 50, 51, 52, 53, 54, 55, 56, 57, 58, 59, 60, 61, 62, 63, 64, 65, 66, 67, 68, 69, 70, 71, 72, 73, 74, 75, 76, 77, 78, 79, 80, 81, 82, 83, 84, 85, 86, 87, 88, 89, 90, 91, 92, 93, 94, 95, 96, 97, 98, 99, 100, 101, 102, 103, 104, 105, 106, 107, 108, 109, 110, 111, 112, 113, 114, 115, 116, 117, 118, 119, 120, 121, 122, 123, 124, 125, 126, 127, 128, 129, 130, 131, 132, 133, 134, 135, 136, 137, 138, 139, 140, 141, 142, 143, 144, 145, 182, 183, 184, 185, 186, 187, 188, 189, 190, 191, 192, 193, 194, 195, 196, 197, 198, 199, 200, 201, 202, 203, 204, 205] (by decide +kernel) (by decide +kernel)
set_option maxRecDepth 20000 in
theorem gL_areValues_X7_power : GoodIn wsL_areValues (wsV RL 152 RX7 yX7_power wsX7_power) := goodIn_app (goodIn_of _ (by decide +kernel)) ggL_areValues_X7_power
set_option maxRecDepth 20000 in
theorem ggL_areValues_L_is : GoodIn wsL_areValues wsL_is := goodIn_r _ [148, 149, 150, 4, 151] (by decide +kernel) (by decide +kernel)
set_option maxRecDepth 20000 in
theorem gL_areValues_L_is : GoodIn wsL_areValues (va_wsS RL 135 yL_is wsL_is) := goodIn_app (goodIn_of _ (by decide +kernel)) ggL_areValues_L_is
set_option maxRecDepth 20000 in
theorem ggL_areValues_L_potential : GoodIn wsL_areValues wsL_potential := goodIn_ca (goodIn_r _ [154, 155, 1, 156, 157, 158, 23, 159, 25, 160, 161, 162, 163, 164, 165, 166, 33, 34, 29, 35, 36, 37, 38, 26, 27, 28, 30, 31, 32, 39, 40, 41, 42, 43, 136, 137, 138, 139, 140, 141, 142, 143, 144, 145, 167, 168, 169, 170, 52, 53, 57, 58, 59, 60, 61, 62, 63, 64, 65, 66, 67, 68, 69, 70, 71, 72, 73, 74, 75, 76, 77, 78, 79, 80, 81, 82, 83, 84, 85, 86, 87, 88, 89, 90, 91, 92, 93, 94, 95, 96, 97, 98, 99, 100, 55, 56, 101, 102, 103, 104, 105, 106, 107, 108, 109, 110, 111, 112, 113, 114, 115, 116, 117, 118, 119, 120, 121, 122, 123, 124, 125, 126, 127, 128, 129, 130, 131, 132, 133, 134, 135, 182, 183, 184, 185, 186, 187, 188, 189, 190, 191, 192, 193, 194, 195, 196, 197, 198, 199, 200, 201, 202, 203, 204, 205] (by decide +kernel) (by decide +kernel)) (goodIn_sub (fun _ h => List.mem_cons_of_mem _ (List.mem_append_right _ h)) (by decide +kernel))
set_option maxRecDepth 20000 in
theorem gL_areValues_L_potential : GoodIn wsL_areValues (va_wsS RL 156 yL_potential wsL_potential) := goodIn_app (goodIn_of _ (by decide +kernel)) ggL_areValues_L_potential
set_option maxRecDepth 20000 in
theorem ggL_areValues_L_current : GoodIn wsL_areValues wsL_current := goodIn_ca (goodIn_r _ [173, 155, 1, 174, 175, 176, 23, 177, 178, 179, 180, 181, 164, 165, 25, 26, 27, 28, 29, 30, 31, 32, 33, 34, 35, 36, 37, 38, 44, 45, 46, 47, 39, 40, 41, 42, 43, 48, 49, 50, 51, 52, 53, 54, 55, 56, 57, 58, 59, 60, 61, 62, 63, 64, 65, 66, 67, 68, 69, 70, 71, 72, 73, 74, 75, 76, 77, 78, 79, 80, 81, 82, 83, 84, 85, 86, 87, 88, 89, 90, 91, 92, 93, 94, 95, 96, 97, 98, 99, 100, 101, 102, 103, 104, 105, 106, 107, 108, 109, 110, 111, 112, 113, 114, 115, 116, 117, 118, 119, 120, 121, 122, 123, 124, 125, 126, 127, 128, 129, 130, 131, 132, 133, 134, 135, 136, 137, 138, 139, 140, 141, 142, 143, 144, 145, 182, 183, 184, 185, 186, 187, 188, 189, 190, 191, 192, 193, 194, 195, 196, 197, 198, 199, 200, 201, 202, 203, 204, 205] (by decide +kernel) (by decide +kernel)) (goodIn_sub (fun _ h => List.mem_cons_of_mem _ (List.mem_append_right _ h)) (by decide +kernel))
set_option maxRecDepth 20000 in
theorem gL_areValues_L_current : GoodIn wsL_areValues (va_wsS RL 159 yL_current wsL_current) := goodIn_app (goodIn_of _ (by decide +kernel)) ggL_areValues_L_current
set_option maxRecDepth 20000 in
theorem ggL_areValues_L_inner : GoodIn wsL_areValues wsL_inner := goodIn_r _ [14] (by decide +kernel) (by decide +kernel)
set_option maxRecDepth 20000 in
theorem gL_areValues_L_inner : GoodIn wsL_areValues (va_wsS RL 77 yL_inner wsL_inner) := goodIn_app (goodIn_of _ (by decide +kernel)) ggL_areValues_L_inner
set_option maxRecDepth 20000 in
theorem ggL_areValues_L_minor : GoodIn wsL_areValues wsL_minor := goodIn_r _ [17, 18, 19, 6, 7, 4, 8] (by decide +kernel) (by decide +kernel)
set_option maxRecDepth 20000 in
theorem gL_areValues_L_minor : GoodIn wsL_areValues (va_wsS RL 81 yL_minor wsL_minor) := goodIn_app (goodIn_of _ (by decide +kernel)) ggL_areValues_L_minor
theorem dL_areValues_0 : decode cL_areValues 0 = .ok (.lconst 0, 1) := by decide +kernel
theorem dL_areValues_1 : decode cL_areValues 1 = .ok (.lstore 9, 2) := by decide +kernel
theorem dL_areValues_3 : decode cL_areValues 3 = .ok (.iconst 0, 1) := by decide +kernel
theorem dL_areValues_4 : decode cL_areValues 4 = .ok (.istore 11, 2) := by decide +kernel
theorem dL_areValues_6 : decode cL_areValues 6 = .ok (.iconst 0, 1) := by decide +kernel
theorem dL_areValues_7 : decode cL_areValues 7 = .ok (.istore 12, 2) := by decide +kernel
theorem dL_areValues_9 : decode cL_areValues 9 = .ok (.iload 12, 2) := by decide +kernel
theorem dL_areValues_11 : decode cL_areValues 11 = .ok (.bipush 7, 2) := by decide +kernel
theorem dL_areValues_13 : decode cL_areValues 13 = .ok (.if_icmp .ge 111, 3) := by decide +kernel
theorem dL_areValues_16 : decode cL_areValues 16 = .ok (.aload 5, 2) := by decide +kernel
theorem dL_areValues_18 : decode cL_areValues 18 = .ok (.iconst 1, 1) := by decide +kernel
theorem dL_areValues_19 : decode cL_areValues 19 = .ok (.iaload, 1) := by decide +kernel
theorem dL_areValues_20 : decode cL_areValues 20 = .ok (.aload 5, 2) := by decide +kernel
theorem dL_areValues_22 : decode cL_areValues 22 = .ok (.iconst 2, 1) := by decide +kernel
theorem dL_areValues_23 : decode cL_areValues 23 = .ok (.iaload, 1) := by decide +kernel
theorem dL_areValues_24 : decode cL_areValues 24 = .ok (.iand, 1) := by decide +kernel
theorem dL_areValues_25 : decode cL_areValues 25 = .ok (.iconst 1, 1) := by decide +kernel
theorem dL_areValues_26 : decode cL_areValues 26 = .ok (.iload 12, 2) := by decide +kernel
theorem dL_areValues_28 : decode cL_areValues 28 = .ok (.ishl, 1) := by decide +kernel
theorem dL_areValues_29 : decode cL_areValues 29 = .ok (.iand, 1) := by decide +kernel
theorem dL_areValues_30 : decode cL_areValues 30 = .ok (.ifCond .ne 6, 3) := by decide +kernel
theorem dL_areValues_33 : decode cL_areValues 33 = .ok (.goto 85, 3) := by decide +kernel
theorem dL_areValues_36 : decode cL_areValues 36 = .ok (.iinc 11 1, 3) := by decide +kernel
theorem dL_areValues_39 : decode cL_areValues 39 = .ok (.iconst 0, 1) := by decide +kernel
theorem dL_areValues_40 : decode cL_areValues 40 = .ok (.istore 13, 2) := by decide +kernel
theorem dL_areValues_42 : decode cL_areValues 42 = .ok (.iload 13, 2) := by decide +kernel
theorem dL_areValues_44 : decode cL_areValues 44 = .ok (.iload 12, 2) := by decide +kernel
theorem dL_areValues_46 : decode cL_areValues 46 = .ok (.if_icmp .ge 72, 3) := by decide +kernel
theorem dL_areValues_49 : decode cL_areValues 49 = .ok (.aload 5, 2) := by decide +kernel
theorem dL_areValues_51 : decode cL_areValues 51 = .ok (.iconst 1, 1) := by decide +kernel
theorem dL_areValues_52 : decode cL_areValues 52 = .ok (.iaload, 1) := by decide +kernel
theorem dL_areValues_53 : decode cL_areValues 53 = .ok (.aload 5, 2) := by decide +kernel
theorem dL_areValues_55 : decode cL_areValues 55 = .ok (.iconst 2, 1) := by decide +kernel
theorem dL_areValues_56 : decode cL_areValues 56 = .ok (.iaload, 1) := by decide +kernel
theorem dL_areValues_57 : decode cL_areValues 57 = .ok (.iand, 1) := by decide +kernel
theorem dL_areValues_58 : decode cL_areValues 58 = .ok (.iconst 1, 1) := by decide +kernel
theorem dL_areValues_59 : decode cL_areValues 59 = .ok (.iload 13, 2) := by decide +kernel
theorem dL_areValues_61 : decode cL_areValues 61 = .ok (.ishl, 1) := by decide +kernel
theorem dL_areValues_62 : decode cL_areValues 62 = .ok (.iand, 1) := by decide +kernel
theorem dL_areValues_63 : decode cL_areValues 63 = .ok (.ifCond .le 49, 3) := by decide +kernel
theorem dL_areValues_66 : decode cL_areValues 66 = .ok (.lload 9, 2) := by decide +kernel
theorem dL_areValues_68 : decode cL_areValues 68 = .ok (.iload 12, 2) := by decide +kernel
theorem dL_areValues_70 : decode cL_areValues 70 = .ok (.iload 13, 2) := by decide +kernel
theorem dL_areValues_72 : decode cL_areValues 72 = .ok (.aload 5, 2) := by decide +kernel
theorem dL_areValues_74 : decode cL_areValues 74 = .ok (.aload 6, 2) := by decide +kernel
theorem dL_areValues_76 : decode cL_areValues 76 = .ok (.aload 7, 2) := by decide +kernel
theorem dL_areValues_78 : decode cL_areValues 78 = .ok (.aload 8, 2) := by decide +kernel
theorem dL_areValues_80 : decode cL_areValues 80 = .ok (.invokestatic 132, 3) := by decide +kernel
theorem dL_areValues_83 : decode cL_areValues 83 = .ok (.aload 4, 2) := by decide +kernel
theorem dL_areValues_85 : decode cL_areValues 85 = .ok (.iload 12, 2) := by decide +kernel
theorem dL_areValues_87 : decode cL_areValues 87 = .ok (.iaload, 1) := by decide +kernel
theorem dL_areValues_88 : decode cL_areValues 88 = .ok (.aload 4, 2) := by decide +kernel
theorem dL_areValues_90 : decode cL_areValues 90 = .ok (.iload 13, 2) := by decide +kernel
theorem dL_areValues_92 : decode cL_areValues 92 = .ok (.iaload, 1) := by decide +kernel
theorem dL_areValues_93 : decode cL_areValues 93 = .ok (.isub, 1) := by decide +kernel
theorem dL_areValues_94 : decode cL_areValues 94 = .ok (.i2l, 1) := by decide +kernel
theorem dL_areValues_95 : decode cL_areValues 95 = .ok (.lmul, 1) := by decide +kernel
theorem dL_areValues_96 : decode cL_areValues 96 = .ok (.aload 4, 2) := by decide +kernel
theorem dL_areValues_98 : decode cL_areValues 98 = .ok (.iload 12, 2) := by decide +kernel
theorem dL_areValues_100 : decode cL_areValues 100 = .ok (.iaload, 1) := by decide +kernel
theorem dL_areValues_101 : decode cL_areValues 101 = .ok (.aload 4, 2) := by decide +kernel
theorem dL_areValues_103 : decode cL_areValues 103 = .ok (.iload 13, 2) := by decide +kernel
theorem dL_areValues_105 : decode cL_areValues 105 = .ok (.iaload, 1) := by decide +kernel
theorem dL_areValues_106 : decode cL_areValues 106 = .ok (.isub, 1) := by decide +kernel
theorem dL_areValues_107 : decode cL_areValues 107 = .ok (.i2l, 1) := by decide +kernel
theorem dL_areValues_108 : decode cL_areValues 108 = .ok (.lmul, 1) := by decide +kernel
theorem dL_areValues_109 : decode cL_areValues 109 = .ok (.ladd, 1) := by decide +kernel
theorem dL_areValues_110 : decode cL_areValues 110 = .ok (.lstore 9, 2) := by decide +kernel
theorem dL_areValues_112 : decode cL_areValues 112 = .ok (.iinc 13 1, 3) := by decide +kernel
theorem dL_areValues_115 : decode cL_areValues 115 = .ok (.goto (-73), 3) := by decide +kernel
theorem dL_areValues_118 : decode cL_areValues 118 = .ok (.iinc 12 1, 3) := by decide +kernel
theorem dL_areValues_121 : decode cL_areValues 121 = .ok (.goto (-112), 3) := by decide +kernel
theorem dL_areValues_124 : decode cL_areValues 124 = .ok (.aload_n 0, 1) := by decide +kernel
theorem dL_areValues_125 : decode cL_areValues 125 = .ok (.iconst 0, 1) := by decide +kernel
theorem dL_areValues_126 : decode cL_areValues 126 = .ok (.invokevirtual 152, 3) := by decide +kernel
theorem dL_areValues_129 : decode cL_areValues 129 = .ok (.aload_n 0, 1) := by decide +kernel
theorem dL_areValues_130 : decode cL_areValues 130 = .ok (.iconst 1, 1) := by decide +kernel
theorem dL_areValues_131 : decode cL_areValues 131 = .ok (.invokevirtual 152, 3) := by decide +kernel
theorem dL_areValues_134 : decode cL_areValues 134 = .ok (.lload 9, 2) := by decide +kernel
theorem dL_areValues_136 : decode cL_areValues 136 = .ok (.lload_n 2, 1) := by decide +kernel
theorem dL_areValues_137 : decode cL_areValues 137 = .ok (.invokestatic 135, 3) := by decide +kernel
theorem dL_areValues_140 : decode cL_areValues 140 = .ok (.ifCond .ne 5, 3) := by decide +kernel
theorem dL_areValues_143 : decode cL_areValues 143 = .ok (.iconst 0, 1) := by decide +kernel
theorem dL_areValues_144 : decode cL_areValues 144 = .ok (.ireturn, 1) := by decide +kernel
theorem dL_areValues_145 : decode cL_areValues 145 = .ok (.aload 5, 2) := by decide +kernel
theorem dL_areValues_147 : decode cL_areValues 147 = .ok (.iconst 1, 1) := by decide +kernel
theorem dL_areValues_148 : decode cL_areValues 148 = .ok (.iaload, 1) := by decide +kernel
theorem dL_areValues_149 : decode cL_areValues 149 = .ok (.iload_n 1, 1) := by decide +kernel
theorem dL_areValues_150 : decode cL_areValues 150 = .ok (.ishr, 1) := by decide +kernel
theorem dL_areValues_151 : decode cL_areValues 151 = .ok (.iconst 1, 1) := by decide +kernel
theorem dL_areValues_152 : decode cL_areValues 152 = .ok (.iand, 1) := by decide +kernel
theorem dL_areValues_153 : decode cL_areValues 153 = .ok (.ifCond .ne 35, 3) := by decide +kernel
theorem dL_areValues_156 : decode cL_areValues 156 = .ok (.aload_n 0, 1) := by decide +kernel
theorem dL_areValues_157 : decode cL_areValues 157 = .ok (.iload_n 1, 1) := by decide +kernel
theorem dL_areValues_158 : decode cL_areValues 158 = .ok (.iconst 0, 1) := by decide +kernel
theorem dL_areValues_159 : decode cL_areValues 159 = .ok (.invokestatic 156, 3) := by decide +kernel
theorem dL_areValues_162 : decode cL_areValues 162 = .ok (.ldc2_w 36, 3) := by decide +kernel
theorem dL_areValues_165 : decode cL_areValues 165 = .ok (.lcmp, 1) := by decide +kernel
theorem dL_areValues_166 : decode cL_areValues 166 = .ok (.ifCond .ne 20, 3) := by decide +kernel
theorem dL_areValues_169 : decode cL_areValues 169 = .ok (.aload_n 0, 1) := by decide +kernel
theorem dL_areValues_170 : decode cL_areValues 170 = .ok (.iload_n 1, 1) := by decide +kernel
theorem dL_areValues_171 : decode cL_areValues 171 = .ok (.iconst 1, 1) := by decide +kernel
theorem dL_areValues_172 : decode cL_areValues 172 = .ok (.invokestatic 159, 3) := by decide +kernel
theorem dL_areValues_175 : decode cL_areValues 175 = .ok (.ldc2_w 36, 3) := by decide +kernel
theorem dL_areValues_178 : decode cL_areValues 178 = .ok (.lcmp, 1) := by decide +kernel
theorem dL_areValues_179 : decode cL_areValues 179 = .ok (.ifCond .ne 7, 3) := by decide +kernel
theorem dL_areValues_182 : decode cL_areValues 182 = .ok (.iconst 1, 1) := by decide +kernel
theorem dL_areValues_183 : decode cL_areValues 183 = .ok (.goto 4, 3) := by decide +kernel
theorem dL_areValues_186 : decode cL_areValues 186 = .ok (.iconst 0, 1) := by decide +kernel
theorem dL_areValues_187 : decode cL_areValues 187 = .ok (.ireturn, 1) := by decide +kernel
theorem dL_areValues_188 : decode cL_areValues 188 = .ok (.aload 5, 2) := by decide +kernel
theorem dL_areValues_190 : decode cL_areValues 190 = .ok (.iconst 2, 1) := by decide +kernel
theorem dL_areValues_191 : decode cL_areValues 191 = .ok (.iaload, 1) := by decide +kernel
theorem dL_areValues_192 : decode cL_areValues 192 = .ok (.iload_n 1, 1) := by decide +kernel
theorem dL_areValues_193 : decode cL_areValues 193 = .ok (.ishr, 1) := by decide +kernel
theorem dL_areValues_194 : decode cL_areValues 194 = .ok (.iconst 1, 1) := by decide +kernel
theorem dL_areValues_195 : decode cL_areValues 195 = .ok (.iand, 1) := by decide +kernel
theorem dL_areValues_196 : decode cL_areValues 196 = .ok (.iconst 1, 1) := by decide +kernel
theorem dL_areValues_197 : decode cL_areValues 197 = .ok (.if_icmp .ne 127, 3) := by decide +kernel
theorem dL_areValues_200 : decode cL_areValues 200 = .ok (.lconst 0, 1) := by decide +kernel
theorem dL_areValues_201 : decode cL_areValues 201 = .ok (.lstore 12, 2) := by decide +kernel
theorem dL_areValues_203 : decode cL_areValues 203 = .ok (.iconst 0, 1) := by decide +kernel
theorem dL_areValues_204 : decode cL_areValues 204 = .ok (.istore 14, 2) := by decide +kernel
theorem dL_areValues_206 : decode cL_areValues 206 = .ok (.iload 14, 2) := by decide +kernel
theorem dL_areValues_208 : decode cL_areValues 208 = .ok (.bipush 7, 2) := by decide +kernel
theorem dL_areValues_210 : decode cL_areValues 210 = .ok (.if_icmp .ge 63, 3) := by decide +kernel
theorem dL_areValues_213 : decode cL_areValues 213 = .ok (.iload 14, 2) := by decide +kernel
theorem dL_areValues_215 : decode cL_areValues 215 = .ok (.iload_n 1, 1) := by decide +kernel
theorem dL_areValues_216 : decode cL_areValues 216 = .ok (.if_icmp .eq 51, 3) := by decide +kernel
theorem dL_areValues_219 : decode cL_areValues 219 = .ok (.aload 5, 2) := by decide +kernel
theorem dL_areValues_221 : decode cL_areValues 221 = .ok (.iconst 1, 1) := by decide +kernel
theorem dL_areValues_222 : decode cL_areValues 222 = .ok (.iaload, 1) := by decide +kernel
theorem dL_areValues_223 : decode cL_areValues 223 = .ok (.aload 5, 2) := by decide +kernel
theorem dL_areValues_225 : decode cL_areValues 225 = .ok (.iconst 2, 1) := by decide +kernel
theorem dL_areValues_226 : decode cL_areValues 226 = .ok (.iaload, 1) := by decide +kernel
theorem dL_areValues_227 : decode cL_areValues 227 = .ok (.iand, 1) := by decide +kernel
theorem dL_areValues_228 : decode cL_areValues 228 = .ok (.iconst 1, 1) := by decide +kernel
theorem dL_areValues_229 : decode cL_areValues 229 = .ok (.iload 14, 2) := by decide +kernel
theorem dL_areValues_231 : decode cL_areValues 231 = .ok (.ishl, 1) := by decide +kernel
theorem dL_areValues_232 : decode cL_areValues 232 = .ok (.iand, 1) := by decide +kernel
theorem dL_areValues_233 : decode cL_areValues 233 = .ok (.ifCond .le 34, 3) := by decide +kernel
theorem dL_areValues_236 : decode cL_areValues 236 = .ok (.lload 12, 2) := by decide +kernel
theorem dL_areValues_238 : decode cL_areValues 238 = .ok (.iload_n 1, 1) := by decide +kernel
theorem dL_areValues_239 : decode cL_areValues 239 = .ok (.iload 14, 2) := by decide +kernel
theorem dL_areValues_241 : decode cL_areValues 241 = .ok (.aload 5, 2) := by decide +kernel
theorem dL_areValues_243 : decode cL_areValues 243 = .ok (.aload 6, 2) := by decide +kernel
theorem dL_areValues_245 : decode cL_areValues 245 = .ok (.aload 7, 2) := by decide +kernel
theorem dL_areValues_247 : decode cL_areValues 247 = .ok (.aload 8, 2) := by decide +kernel
theorem dL_areValues_249 : decode cL_areValues 249 = .ok (.invokestatic 132, 3) := by decide +kernel
theorem dL_areValues_252 : decode cL_areValues 252 = .ok (.aload 4, 2) := by decide +kernel
theorem dL_areValues_254 : decode cL_areValues 254 = .ok (.iload_n 1, 1) := by decide +kernel
theorem dL_areValues_255 : decode cL_areValues 255 = .ok (.iaload, 1) := by decide +kernel
theorem dL_areValues_256 : decode cL_areValues 256 = .ok (.aload 4, 2) := by decide +kernel
theorem dL_areValues_258 : decode cL_areValues 258 = .ok (.iload 14, 2) := by decide +kernel
theorem dL_areValues_260 : decode cL_areValues 260 = .ok (.iaload, 1) := by decide +kernel
theorem dL_areValues_261 : decode cL_areValues 261 = .ok (.isub, 1) := by decide +kernel
theorem dL_areValues_262 : decode cL_areValues 262 = .ok (.i2l, 1) := by decide +kernel
theorem dL_areValues_263 : decode cL_areValues 263 = .ok (.lmul, 1) := by decide +kernel
theorem dL_areValues_264 : decode cL_areValues 264 = .ok (.ladd, 1) := by decide +kernel
theorem dL_areValues_265 : decode cL_areValues 265 = .ok (.lstore 12, 2) := by decide +kernel
theorem dL_areValues_267 : decode cL_areValues 267 = .ok (.iinc 14 1, 3) := by decide +kernel
theorem dL_areValues_270 : decode cL_areValues 270 = .ok (.goto (-64), 3) := by decide +kernel
theorem dL_areValues_273 : decode cL_areValues 273 = .ok (.aload_n 0, 1) := by decide +kernel
theorem dL_areValues_274 : decode cL_areValues 274 = .ok (.iload_n 1, 1) := by decide +kernel
theorem dL_areValues_275 : decode cL_areValues 275 = .ok (.iconst 0, 1) := by decide +kernel
theorem dL_areValues_276 : decode cL_areValues 276 = .ok (.invokestatic 159, 3) := by decide +kernel
theorem dL_areValues_279 : decode cL_areValues 279 = .ok (.aload_n 0, 1) := by decide +kernel
theorem dL_areValues_280 : decode cL_areValues 280 = .ok (.iload_n 1, 1) := by decide +kernel
theorem dL_areValues_281 : decode cL_areValues 281 = .ok (.iconst 1, 1) := by decide +kernel
theorem dL_areValues_282 : decode cL_areValues 282 = .ok (.invokestatic 159, 3) := by decide +kernel
theorem dL_areValues_285 : decode cL_areValues 285 = .ok (.lload 12, 2) := by decide +kernel
theorem dL_areValues_287 : decode cL_areValues 287 = .ok (.lload_n 2, 1) := by decide +kernel
theorem dL_areValues_288 : decode cL_areValues 288 = .ok (.invokestatic 135, 3) := by decide +kernel
theorem dL_areValues_291 : decode cL_areValues 291 = .ok (.ifCond .eq 31, 3) := by decide +kernel
theorem dL_areValues_294 : decode cL_areValues 294 = .ok (.aload_n 0, 1) := by decide +kernel
theorem dL_areValues_295 : decode cL_areValues 295 = .ok (.iload_n 1, 1) := by decide +kernel
theorem dL_areValues_296 : decode cL_areValues 296 = .ok (.iconst 0, 1) := by decide +kernel
theorem dL_areValues_297 : decode cL_areValues 297 = .ok (.invokestatic 156, 3) := by decide +kernel
theorem dL_areValues_300 : decode cL_areValues 300 = .ok (.aload_n 0, 1) := by decide +kernel
theorem dL_areValues_301 : decode cL_areValues 301 = .ok (.iload_n 1, 1) := by decide +kernel
theorem dL_areValues_302 : decode cL_areValues 302 = .ok (.iconst 1, 1) := by decide +kernel
theorem dL_areValues_303 : decode cL_areValues 303 = .ok (.invokestatic 156, 3) := by decide +kernel
theorem dL_areValues_306 : decode cL_areValues 306 = .ok (.aload 4, 2) := by decide +kernel
theorem dL_areValues_308 : decode cL_areValues 308 = .ok (.iload_n 1, 1) := by decide +kernel
theorem dL_areValues_309 : decode cL_areValues 309 = .ok (.iaload, 1) := by decide +kernel
theorem dL_areValues_310 : decode cL_areValues 310 = .ok (.i2l, 1) := by decide +kernel
theorem dL_areValues_311 : decode cL_areValues 311 = .ok (.lconst 1, 1) := by decide +kernel
theorem dL_areValues_312 : decode cL_areValues 312 = .ok (.invokestatic 135, 3) := by decide +kernel
theorem dL_areValues_315 : decode cL_areValues 315 = .ok (.ifCond .eq 7, 3) := by decide +kernel
theorem dL_areValues_318 : decode cL_areValues 318 = .ok (.iconst 1, 1) := by decide +kernel
theorem dL_areValues_319 : decode cL_areValues 319 = .ok (.goto 4, 3) := by decide +kernel
theorem dL_areValues_322 : decode cL_areValues 322 = .ok (.iconst 0, 1) := by decide +kernel
theorem dL_areValues_323 : decode cL_areValues 323 = .ok (.ireturn, 1) := by decide +kernel
theorem dL_areValues_324 : decode cL_areValues 324 = .ok (.lconst 0, 1) := by decide +kernel
theorem dL_areValues_325 : decode cL_areValues 325 = .ok (.lstore 12, 2) := by decide +kernel
theorem dL_areValues_327 : decode cL_areValues 327 = .ok (.iconst 0, 1) := by decide +kernel
theorem dL_areValues_328 : decode cL_areValues 328 = .ok (.istore 14, 2) := by decide +kernel
theorem dL_areValues_330 : decode cL_areValues 330 = .ok (.iload 14, 2) := by decide +kernel
theorem dL_areValues_332 : decode cL_areValues 332 = .ok (.bipush 7, 2) := by decide +kernel
theorem dL_areValues_334 : decode cL_areValues 334 = .ok (.if_icmp .ge 57, 3) := by decide +kernel
theorem dL_areValues_337 : decode cL_areValues 337 = .ok (.aload 5, 2) := by decide +kernel
theorem dL_areValues_339 : decode cL_areValues 339 = .ok (.iconst 1, 1) := by decide +kernel
theorem dL_areValues_340 : decode cL_areValues 340 = .ok (.iaload, 1) := by decide +kernel
theorem dL_areValues_341 : decode cL_areValues 341 = .ok (.aload 5, 2) := by decide +kernel
theorem dL_areValues_343 : decode cL_areValues 343 = .ok (.iconst 2, 1) := by decide +kernel
theorem dL_areValues_344 : decode cL_areValues 344 = .ok (.iaload, 1) := by decide +kernel
theorem dL_areValues_345 : decode cL_areValues 345 = .ok (.iand, 1) := by decide +kernel
theorem dL_areValues_346 : decode cL_areValues 346 = .ok (.iconst 1, 1) := by decide +kernel
theorem dL_areValues_347 : decode cL_areValues 347 = .ok (.iload 14, 2) := by decide +kernel
theorem dL_areValues_349 : decode cL_areValues 349 = .ok (.ishl, 1) := by decide +kernel
theorem dL_areValues_350 : decode cL_areValues 350 = .ok (.iand, 1) := by decide +kernel
theorem dL_areValues_351 : decode cL_areValues 351 = .ok (.ifCond .le 34, 3) := by decide +kernel
theorem dL_areValues_354 : decode cL_areValues 354 = .ok (.lload 12, 2) := by decide +kernel
theorem dL_areValues_356 : decode cL_areValues 356 = .ok (.aload 4, 2) := by decide +kernel
theorem dL_areValues_358 : decode cL_areValues 358 = .ok (.iload 14, 2) := by decide +kernel
theorem dL_areValues_360 : decode cL_areValues 360 = .ok (.iaload, 1) := by decide +kernel
theorem dL_areValues_361 : decode cL_areValues 361 = .ok (.i2l, 1) := by decide +kernel
theorem dL_areValues_362 : decode cL_areValues 362 = .ok (.aload 5, 2) := by decide +kernel
theorem dL_areValues_364 : decode cL_areValues 364 = .ok (.invokestatic 77, 3) := by decide +kernel
theorem dL_areValues_367 : decode cL_areValues 367 = .ok (.iload_n 1, 1) := by decide +kernel
theorem dL_areValues_368 : decode cL_areValues 368 = .ok (.iload 14, 2) := by decide +kernel
theorem dL_areValues_370 : decode cL_areValues 370 = .ok (.aload 5, 2) := by decide +kernel
theorem dL_areValues_372 : decode cL_areValues 372 = .ok (.aload 6, 2) := by decide +kernel
theorem dL_areValues_374 : decode cL_areValues 374 = .ok (.aload 7, 2) := by decide +kernel
theorem dL_areValues_376 : decode cL_areValues 376 = .ok (.aload 8, 2) := by decide +kernel
theorem dL_areValues_378 : decode cL_areValues 378 = .ok (.invokestatic 81, 3) := by decide +kernel
theorem dL_areValues_381 : decode cL_areValues 381 = .ok (.lmul, 1) := by decide +kernel
theorem dL_areValues_382 : decode cL_areValues 382 = .ok (.ladd, 1) := by decide +kernel
theorem dL_areValues_383 : decode cL_areValues 383 = .ok (.lstore 12, 2) := by decide +kernel
theorem dL_areValues_385 : decode cL_areValues 385 = .ok (.iinc 14 1, 3) := by decide +kernel
theorem dL_areValues_388 : decode cL_areValues 388 = .ok (.goto (-58), 3) := by decide +kernel
theorem dL_areValues_391 : decode cL_areValues 391 = .ok (.aload_n 0, 1) := by decide +kernel
theorem dL_areValues_392 : decode cL_areValues 392 = .ok (.iload_n 1, 1) := by decide +kernel
theorem dL_areValues_393 : decode cL_areValues 393 = .ok (.iconst 0, 1) := by decide +kernel
theorem dL_areValues_394 : decode cL_areValues 394 = .ok (.invokestatic 156, 3) := by decide +kernel
theorem dL_areValues_397 : decode cL_areValues 397 = .ok (.aload_n 0, 1) := by decide +kernel
theorem dL_areValues_398 : decode cL_areValues 398 = .ok (.iload_n 1, 1) := by decide +kernel
theorem dL_areValues_399 : decode cL_areValues 399 = .ok (.iconst 1, 1) := by decide +kernel
theorem dL_areValues_400 : decode cL_areValues 400 = .ok (.invokestatic 156, 3) := by decide +kernel
theorem dL_areValues_403 : decode cL_areValues 403 = .ok (.lload 12, 2) := by decide +kernel
theorem dL_areValues_405 : decode cL_areValues 405 = .ok (.lload_n 2, 1) := by decide +kernel
theorem dL_areValues_406 : decode cL_areValues 406 = .ok (.invokestatic 135, 3) := by decide +kernel
theorem dL_areValues_409 : decode cL_areValues 409 = .ok (.ifCond .eq 20, 3) := by decide +kernel
theorem dL_areValues_412 : decode cL_areValues 412 = .ok (.aload_n 0, 1) := by decide +kernel
theorem dL_areValues_413 : decode cL_areValues 413 = .ok (.iload_n 1, 1) := by decide +kernel
theorem dL_areValues_414 : decode cL_areValues 414 = .ok (.iconst 1, 1) := by decide +kernel
theorem dL_areValues_415 : decode cL_areValues 415 = .ok (.invokestatic 159, 3) := by decide +kernel
theorem dL_areValues_418 : decode cL_areValues 418 = .ok (.ldc2_w 36, 3) := by decide +kernel
theorem dL_areValues_421 : decode cL_areValues 421 = .ok (.lcmp, 1) := by decide +kernel
theorem dL_areValues_422 : decode cL_areValues 422 = .ok (.ifCond .ne 7, 3) := by decide +kernel
theorem dL_areValues_425 : decode cL_areValues 425 = .ok (.iconst 1, 1) := by decide +kernel
theorem dL_areValues_426 : decode cL_areValues 426 = .ok (.goto 4, 3) := by decide +kernel
theorem dL_areValues_429 : decode cL_areValues 429 = .ok (.iconst 0, 1) := by decide +kernel
theorem dL_areValues_430 : decode cL_areValues 430 = .ok (.ireturn, 1) := by decide +kernel
set_option maxRecDepth 20000 in
theorem ggL_isStarred_L_starred : GoodIn wsL_isStarred wsL_starred := goodIn_ca (goodIn_r _ [5, 6, 1, 7, 8, 9, 10, 11, 12, 13, 14, 15, 16, 17, 18, 19, 20, 21, 22, 23, 24, 25, 26, 27, 28, 29, 30, 31, 32, 33, 34, 35, 36, 37, 38, 39, 40, 41, 42, 43, 44, 45, 46, 47, 48, 49, 50, 51, 52, 53, 54, 55, 56, 57, 58, 59, 60, 61, 62, 63, 64, 65, 66, 67, 68, 69, 70, 71, 72, 73, 74, 75, 76, 77, 78, 79, 80, 81, 82, 83, 84, 85, 86, 87, 88, 89, 90, 91, 92, 93, 94, 95, 96, 97, 98, 99, 100, 101, 102, 103, 104, 105, 106, 107, 108, 109, 110, 111, 112, 113, 114, 115, 116, 117, 118, 119, 120, 121, 122, 123, 124, 125, 126, 127, 128, 129, 130, 131, 132, 133, 134, 135, 136, 137, 138, 165, 166, 167, 168, 169, 170, 171, 172, 173, 174, 175, 176, 177, 178, 179, 180, 181, 182, 183, 184, 185, 186, 187, 188] (by decide +kernel) (by decide +kernel)) (goodIn_sub (fun _ h => List.mem_cons_of_mem _ (List.mem_append_right _ h)) (by decide +kernel))
set_option maxRecDepth 20000 in
theorem gL_isStarred_L_starred : GoodIn wsL_isStarred (va_wsS RL 161 yL_starred wsL_starred) := goodIn_app (goodIn_of _ (by decide +kernel)) ggL_isStarred_L_starred
set_option maxRecDepth 20000 in
theorem ggL_isStarred_L_lowest : GoodIn wsL_isStarred wsL_lowest := goodIn_r _ [141] (by decide +kernel) (by decide +kernel)
set_option maxRecDepth 20000 in
theorem gL_isStarred_L_lowest : GoodIn wsL_isStarred (va_wsS RL 97 yL_lowest wsL_lowest) := goodIn_app (goodIn_of _ (by decide +kernel)) ggL_isStarred_L_lowest
set_option maxRecDepth 20000 in
theorem ggL_isStarred_L_pair : GoodIn wsL_isStarred wsL_pair := goodIn_r _ [144, 145, 146, 4, 147, 148, 149, 150, 151, 152, 153, 154, 155, 156, 157, 158] (by decide +kernel) (by decide +kernel)
set_option maxRecDepth 20000 in
theorem gL_isStarred_L_pair : GoodIn wsL_isStarred (va_wsS RL 132 yL_pair wsL_pair) := goodIn_app (goodIn_of _ (by decide +kernel)) ggL_isStarred_L_pair
set_option maxRecDepth 20000 in
theorem ggL_isStarred_L_is : GoodIn wsL_isStarred wsL_is := goodIn_r _ [161, 162, 163, 4, 164] (by decide +kernel) (by decide +kernel)
set_option maxRecDepth 20000 in
theorem gL_isStarred_L_is : GoodIn wsL_isStarred (va_wsS RL 135 yL_is wsL_is) := goodIn_app (goodIn_of _ (by decide +kernel)) ggL_isStarred_L_is
theorem dL_isStarred_0 : decode cL_isStarred 0 = .ok (.aload 6, 2) := by decide +kernel
theorem dL_isStarred_2 : decode cL_isStarred 2 = .ok (.iconst 1, 1) := by decide +kernel
theorem dL_isStarred_3 : decode cL_isStarred 3 = .ok (.iaload, 1) := by decide +kernel
theorem dL_isStarred_4 : decode cL_isStarred 4 = .ok (.aload 6, 2) := by decide +kernel
theorem dL_isStarred_6 : decode cL_isStarred 6 = .ok (.iconst 2, 1) := by decide +kernel
theorem dL_isStarred_7 : decode cL_isStarred 7 = .ok (.iaload, 1) := by decide +kernel
theorem dL_isStarred_8 : decode cL_isStarred 8 = .ok (.iand, 1) := by decide +kernel
theorem dL_isStarred_9 : decode cL_isStarred 9 = .ok (.istore 10, 2) := by decide +kernel
theorem dL_isStarred_11 : decode cL_isStarred 11 = .ok (.iload 10, 2) := by decide +kernel
theorem dL_isStarred_13 : decode cL_isStarred 13 = .ok (.iload_n 1, 1) := by decide +kernel
theorem dL_isStarred_14 : decode cL_isStarred 14 = .ok (.ishr, 1) := by decide +kernel
theorem dL_isStarred_15 : decode cL_isStarred 15 = .ok (.iconst 1, 1) := by decide +kernel
theorem dL_isStarred_16 : decode cL_isStarred 16 = .ok (.iand, 1) := by decide +kernel
theorem dL_isStarred_17 : decode cL_isStarred 17 = .ok (.ifCond .ne 22, 3) := by decide +kernel
theorem dL_isStarred_20 : decode cL_isStarred 20 = .ok (.aload_n 0, 1) := by decide +kernel
theorem dL_isStarred_21 : decode cL_isStarred 21 = .ok (.iload_n 1, 1) := by decide +kernel
theorem dL_isStarred_22 : decode cL_isStarred 22 = .ok (.iconst 1, 1) := by decide +kernel
theorem dL_isStarred_23 : decode cL_isStarred 23 = .ok (.invokestatic 161, 3) := by decide +kernel
theorem dL_isStarred_26 : decode cL_isStarred 26 = .ok (.ldc2_w 36, 3) := by decide +kernel
theorem dL_isStarred_29 : decode cL_isStarred 29 = .ok (.lcmp, 1) := by decide +kernel
theorem dL_isStarred_30 : decode cL_isStarred 30 = .ok (.ifCond .ne 7, 3) := by decide +kernel
theorem dL_isStarred_33 : decode cL_isStarred 33 = .ok (.iconst 1, 1) := by decide +kernel
theorem dL_isStarred_34 : decode cL_isStarred 34 = .ok (.goto 4, 3) := by decide +kernel
theorem dL_isStarred_37 : decode cL_isStarred 37 = .ok (.iconst 0, 1) := by decide +kernel
theorem dL_isStarred_38 : decode cL_isStarred 38 = .ok (.ireturn, 1) := by decide +kernel
theorem dL_isStarred_39 : decode cL_isStarred 39 = .ok (.iload 10, 2) := by decide +kernel
theorem dL_isStarred_41 : decode cL_isStarred 41 = .ok (.iconst 1, 1) := by decide +kernel
theorem dL_isStarred_42 : decode cL_isStarred 42 = .ok (.iload_n 1, 1) := by decide +kernel
theorem dL_isStarred_43 : decode cL_isStarred 43 = .ok (.ishl, 1) := by decide +kernel
theorem dL_isStarred_44 : decode cL_isStarred 44 = .ok (.iconst (-1), 1) := by decide +kernel
theorem dL_isStarred_45 : decode cL_isStarred 45 = .ok (.ixor, 1) := by decide +kernel
theorem dL_isStarred_46 : decode cL_isStarred 46 = .ok (.iand, 1) := by decide +kernel
theorem dL_isStarred_47 : decode cL_isStarred 47 = .ok (.istore 11, 2) := by decide +kernel
theorem dL_isStarred_49 : decode cL_isStarred 49 = .ok (.iload 11, 2) := by decide +kernel
theorem dL_isStarred_51 : decode cL_isStarred 51 = .ok (.ifCond .ne 7, 3) := by decide +kernel
theorem dL_isStarred_54 : decode cL_isStarred 54 = .ok (.iconst (-1), 1) := by decide +kernel
theorem dL_isStarred_55 : decode cL_isStarred 55 = .ok (.goto 8, 3) := by decide +kernel
theorem dL_isStarred_58 : decode cL_isStarred 58 = .ok (.iload 11, 2) := by decide +kernel
theorem dL_isStarred_60 : decode cL_isStarred 60 = .ok (.invokestatic 97, 3) := by decide +kernel
theorem dL_isStarred_63 : decode cL_isStarred 63 = .ok (.istore 12, 2) := by decide +kernel
theorem dL_isStarred_65 : decode cL_isStarred 65 = .ok (.iload 11, 2) := by decide +kernel
theorem dL_isStarred_67 : decode cL_isStarred 67 = .ok (.iload 11, 2) := by decide +kernel
theorem dL_isStarred_69 : decode cL_isStarred 69 = .ok (.iconst 1, 1) := by decide +kernel
theorem dL_isStarred_70 : decode cL_isStarred 70 = .ok (.isub, 1) := by decide +kernel
theorem dL_isStarred_71 : decode cL_isStarred 71 = .ok (.iand, 1) := by decide +kernel
theorem dL_isStarred_72 : decode cL_isStarred 72 = .ok (.istore 13, 2) := by decide +kernel
theorem dL_isStarred_74 : decode cL_isStarred 74 = .ok (.iload 13, 2) := by decide +kernel
theorem dL_isStarred_76 : decode cL_isStarred 76 = .ok (.ifCond .eq 13, 3) := by decide +kernel
theorem dL_isStarred_79 : decode cL_isStarred 79 = .ok (.iload 13, 2) := by decide +kernel
theorem dL_isStarred_81 : decode cL_isStarred 81 = .ok (.iload 13, 2) := by decide +kernel
theorem dL_isStarred_83 : decode cL_isStarred 83 = .ok (.iconst 1, 1) := by decide +kernel
theorem dL_isStarred_84 : decode cL_isStarred 84 = .ok (.isub, 1) := by decide +kernel
theorem dL_isStarred_85 : decode cL_isStarred 85 = .ok (.iand, 1) := by decide +kernel
theorem dL_isStarred_86 : decode cL_isStarred 86 = .ok (.ifCond .eq 31, 3) := by decide +kernel
theorem dL_isStarred_89 : decode cL_isStarred 89 = .ok (.aload_n 0, 1) := by decide +kernel
theorem dL_isStarred_90 : decode cL_isStarred 90 = .ok (.iload_n 1, 1) := by decide +kernel
theorem dL_isStarred_91 : decode cL_isStarred 91 = .ok (.iconst 1, 1) := by decide +kernel
theorem dL_isStarred_92 : decode cL_isStarred 92 = .ok (.invokestatic 161, 3) := by decide +kernel
theorem dL_isStarred_95 : decode cL_isStarred 95 = .ok (.lconst 0, 1) := by decide +kernel
theorem dL_isStarred_96 : decode cL_isStarred 96 = .ok (.lcmp, 1) := by decide +kernel
theorem dL_isStarred_97 : decode cL_isStarred 97 = .ok (.ifCond .ne 18, 3) := by decide +kernel
theorem dL_isStarred_100 : decode cL_isStarred 100 = .ok (.aload_n 0, 1) := by decide +kernel
theorem dL_isStarred_101 : decode cL_isStarred 101 = .ok (.iload_n 1, 1) := by decide +kernel
theorem dL_isStarred_102 : decode cL_isStarred 102 = .ok (.iconst 0, 1) := by decide +kernel
theorem dL_isStarred_103 : decode cL_isStarred 103 = .ok (.invokestatic 161, 3) := by decide +kernel
theorem dL_isStarred_106 : decode cL_isStarred 106 = .ok (.lconst 0, 1) := by decide +kernel
theorem dL_isStarred_107 : decode cL_isStarred 107 = .ok (.lcmp, 1) := by decide +kernel
theorem dL_isStarred_108 : decode cL_isStarred 108 = .ok (.ifCond .ne 7, 3) := by decide +kernel
theorem dL_isStarred_111 : decode cL_isStarred 111 = .ok (.iconst 1, 1) := by decide +kernel
theorem dL_isStarred_112 : decode cL_isStarred 112 = .ok (.goto 4, 3) := by decide +kernel
theorem dL_isStarred_115 : decode cL_isStarred 115 = .ok (.iconst 0, 1) := by decide +kernel
theorem dL_isStarred_116 : decode cL_isStarred 116 = .ok (.ireturn, 1) := by decide +kernel
theorem dL_isStarred_117 : decode cL_isStarred 117 = .ok (.iload 13, 2) := by decide +kernel
theorem dL_isStarred_119 : decode cL_isStarred 119 = .ok (.invokestatic 97, 3) := by decide +kernel
theorem dL_isStarred_122 : decode cL_isStarred 122 = .ok (.istore 14, 2) := by decide +kernel
theorem dL_isStarred_124 : decode cL_isStarred 124 = .ok (.iload 12, 2) := by decide +kernel
theorem dL_isStarred_126 : decode cL_isStarred 126 = .ok (.iload 14, 2) := by decide +kernel
theorem dL_isStarred_128 : decode cL_isStarred 128 = .ok (.aload 6, 2) := by decide +kernel
theorem dL_isStarred_130 : decode cL_isStarred 130 = .ok (.aload 7, 2) := by decide +kernel
theorem dL_isStarred_132 : decode cL_isStarred 132 = .ok (.aload 8, 2) := by decide +kernel
theorem dL_isStarred_134 : decode cL_isStarred 134 = .ok (.aload 9, 2) := by decide +kernel
theorem dL_isStarred_136 : decode cL_isStarred 136 = .ok (.invokestatic 132, 3) := by decide +kernel
theorem dL_isStarred_139 : decode cL_isStarred 139 = .ok (.lstore 15, 2) := by decide +kernel
theorem dL_isStarred_141 : decode cL_isStarred 141 = .ok (.lload 4, 2) := by decide +kernel
theorem dL_isStarred_143 : decode cL_isStarred 143 = .ok (.lconst 0, 1) := by decide +kernel
theorem dL_isStarred_144 : decode cL_isStarred 144 = .ok (.lcmp, 1) := by decide +kernel
theorem dL_isStarred_145 : decode cL_isStarred 145 = .ok (.ifCond .le 52, 3) := by decide +kernel
theorem dL_isStarred_148 : decode cL_isStarred 148 = .ok (.lload 15, 2) := by decide +kernel
theorem dL_isStarred_150 : decode cL_isStarred 150 = .ok (.lconst 0, 1) := by decide +kernel
theorem dL_isStarred_151 : decode cL_isStarred 151 = .ok (.lcmp, 1) := by decide +kernel
theorem dL_isStarred_152 : decode cL_isStarred 152 = .ok (.ifCond .le 45, 3) := by decide +kernel
theorem dL_isStarred_155 : decode cL_isStarred 155 = .ok (.iload_n 1, 1) := by decide +kernel
theorem dL_isStarred_156 : decode cL_isStarred 156 = .ok (.iload 12, 2) := by decide +kernel
theorem dL_isStarred_158 : decode cL_isStarred 158 = .ok (.aload 6, 2) := by decide +kernel
theorem dL_isStarred_160 : decode cL_isStarred 160 = .ok (.aload 7, 2) := by decide +kernel
theorem dL_isStarred_162 : decode cL_isStarred 162 = .ok (.aload 8, 2) := by decide +kernel
theorem dL_isStarred_164 : decode cL_isStarred 164 = .ok (.aload 9, 2) := by decide +kernel
theorem dL_isStarred_166 : decode cL_isStarred 166 = .ok (.invokestatic 132, 3) := by decide +kernel
theorem dL_isStarred_169 : decode cL_isStarred 169 = .ok (.lconst 0, 1) := by decide +kernel
theorem dL_isStarred_170 : decode cL_isStarred 170 = .ok (.lcmp, 1) := by decide +kernel
theorem dL_isStarred_171 : decode cL_isStarred 171 = .ok (.ifCond .le 26, 3) := by decide +kernel
theorem dL_isStarred_174 : decode cL_isStarred 174 = .ok (.iload_n 1, 1) := by decide +kernel
theorem dL_isStarred_175 : decode cL_isStarred 175 = .ok (.iload 14, 2) := by decide +kernel
theorem dL_isStarred_177 : decode cL_isStarred 177 = .ok (.aload 6, 2) := by decide +kernel
theorem dL_isStarred_179 : decode cL_isStarred 179 = .ok (.aload 7, 2) := by decide +kernel
theorem dL_isStarred_181 : decode cL_isStarred 181 = .ok (.aload 8, 2) := by decide +kernel
theorem dL_isStarred_183 : decode cL_isStarred 183 = .ok (.aload 9, 2) := by decide +kernel
theorem dL_isStarred_185 : decode cL_isStarred 185 = .ok (.invokestatic 132, 3) := by decide +kernel
theorem dL_isStarred_188 : decode cL_isStarred 188 = .ok (.lconst 0, 1) := by decide +kernel
theorem dL_isStarred_189 : decode cL_isStarred 189 = .ok (.lcmp, 1) := by decide +kernel
theorem dL_isStarred_190 : decode cL_isStarred 190 = .ok (.ifCond .le 7, 3) := by decide +kernel
theorem dL_isStarred_193 : decode cL_isStarred 193 = .ok (.iconst 1, 1) := by decide +kernel
theorem dL_isStarred_194 : decode cL_isStarred 194 = .ok (.goto 4, 3) := by decide +kernel
theorem dL_isStarred_197 : decode cL_isStarred 197 = .ok (.iconst 0, 1) := by decide +kernel
theorem dL_isStarred_198 : decode cL_isStarred 198 = .ok (.istore 17, 2) := by decide +kernel
theorem dL_isStarred_200 : decode cL_isStarred 200 = .ok (.aload_n 0, 1) := by decide +kernel
theorem dL_isStarred_201 : decode cL_isStarred 201 = .ok (.iload_n 1, 1) := by decide +kernel
theorem dL_isStarred_202 : decode cL_isStarred 202 = .ok (.iconst 0, 1) := by decide +kernel
theorem dL_isStarred_203 : decode cL_isStarred 203 = .ok (.invokestatic 161, 3) := by decide +kernel
theorem dL_isStarred_206 : decode cL_isStarred 206 = .ok (.aload_n 0, 1) := by decide +kernel
theorem dL_isStarred_207 : decode cL_isStarred 207 = .ok (.iload_n 1, 1) := by decide +kernel
theorem dL_isStarred_208 : decode cL_isStarred 208 = .ok (.iconst 1, 1) := by decide +kernel
theorem dL_isStarred_209 : decode cL_isStarred 209 = .ok (.invokestatic 161, 3) := by decide +kernel
theorem dL_isStarred_212 : decode cL_isStarred 212 = .ok (.iload 17, 2) := by decide +kernel
theorem dL_isStarred_214 : decode cL_isStarred 214 = .ok (.ifCond .eq 7, 3) := by decide +kernel
theorem dL_isStarred_217 : decode cL_isStarred 217 = .ok (.lload_n 2, 1) := by decide +kernel
theorem dL_isStarred_218 : decode cL_isStarred 218 = .ok (.goto 4, 3) := by decide +kernel
theorem dL_isStarred_221 : decode cL_isStarred 221 = .ok (.lconst 0, 1) := by decide +kernel
theorem dL_isStarred_222 : decode cL_isStarred 222 = .ok (.iload 17, 2) := by decide +kernel
theorem dL_isStarred_224 : decode cL_isStarred 224 = .ok (.ifCond .eq 8, 3) := by decide +kernel
theorem dL_isStarred_227 : decode cL_isStarred 227 = .ok (.lload 15, 2) := by decide +kernel
theorem dL_isStarred_229 : decode cL_isStarred 229 = .ok (.goto 4, 3) := by decide +kernel
theorem dL_isStarred_232 : decode cL_isStarred 232 = .ok (.lconst 0, 1) := by decide +kernel
theorem dL_isStarred_233 : decode cL_isStarred 233 = .ok (.invokestatic 135, 3) := by decide +kernel
theorem dL_isStarred_236 : decode cL_isStarred 236 = .ok (.ireturn, 1) := by decide +kernel
theorem dL_law_0 : decode cL_law 0 = .ok (.new 9, 3) := by decide +kernel
theorem dL_law_3 : decode cL_law 3 = .ok (.dup, 1) := by decide +kernel
theorem dL_law_4 : decode cL_law 4 = .ok (.invokespecial 163, 3) := by decide +kernel
theorem dL_law_7 : decode cL_law 7 = .ok (.astore_n 1, 1) := by decide +kernel
theorem dL_law_8 : decode cL_law 8 = .ok (.bipush 6, 2) := by decide +kernel
theorem dL_law_10 : decode cL_law 10 = .ok (.newarray .int, 2) := by decide +kernel
theorem dL_law_12 : decode cL_law 12 = .ok (.astore_n 2, 1) := by decide +kernel
theorem dL_law_13 : decode cL_law 13 = .ok (.bipush 20, 2) := by decide +kernel
theorem dL_law_15 : decode cL_law 15 = .ok (.newarray .int, 2) := by decide +kernel
theorem dL_law_17 : decode cL_law 17 = .ok (.astore_n 3, 1) := by decide +kernel
theorem dL_law_18 : decode cL_law 18 = .ok (.bipush 20, 2) := by decide +kernel
theorem dL_law_20 : decode cL_law 20 = .ok (.newarray .int, 2) := by decide +kernel
theorem dL_law_22 : decode cL_law 22 = .ok (.astore 4, 2) := by decide +kernel
theorem dL_law_24 : decode cL_law 24 = .ok (.bipush 20, 2) := by decide +kernel
theorem dL_law_26 : decode cL_law 26 = .ok (.newarray .int, 2) := by decide +kernel
theorem dL_law_28 : decode cL_law 28 = .ok (.astore 5, 2) := by decide +kernel
theorem dL_law_30 : decode cL_law 30 = .ok (.bipush 6, 2) := by decide +kernel
theorem dL_law_32 : decode cL_law 32 = .ok (.newarray .int, 2) := by decide +kernel
theorem dL_law_34 : decode cL_law 34 = .ok (.astore 6, 2) := by decide +kernel
theorem dL_law_36 : decode cL_law 36 = .ok (.bipush 20, 2) := by decide +kernel
theorem dL_law_38 : decode cL_law 38 = .ok (.newarray .int, 2) := by decide +kernel
theorem dL_law_40 : decode cL_law 40 = .ok (.astore 7, 2) := by decide +kernel
theorem dL_law_42 : decode cL_law 42 = .ok (.bipush 20, 2) := by decide +kernel
theorem dL_law_44 : decode cL_law 44 = .ok (.newarray .int, 2) := by decide +kernel
theorem dL_law_46 : decode cL_law 46 = .ok (.astore 8, 2) := by decide +kernel
theorem dL_law_48 : decode cL_law 48 = .ok (.bipush 20, 2) := by decide +kernel
theorem dL_law_50 : decode cL_law 50 = .ok (.newarray .int, 2) := by decide +kernel
theorem dL_law_52 : decode cL_law 52 = .ok (.astore 9, 2) := by decide +kernel
theorem dL_law_54 : decode cL_law 54 = .ok (.bipush 40, 2) := by decide +kernel
theorem dL_law_56 : decode cL_law 56 = .ok (.newarray .int, 2) := by decide +kernel
theorem dL_law_58 : decode cL_law 58 = .ok (.astore 10, 2) := by decide +kernel
theorem dL_law_60 : decode cL_law 60 = .ok (.bipush 7, 2) := by decide +kernel
theorem dL_law_62 : decode cL_law 62 = .ok (.newarray .int, 2) := by decide +kernel
theorem dL_law_64 : decode cL_law 64 = .ok (.astore 11, 2) := by decide +kernel
theorem dL_law_66 : decode cL_law 66 = .ok (.bipush 49, 2) := by decide +kernel
theorem dL_law_68 : decode cL_law 68 = .ok (.newarray .long, 2) := by decide +kernel
theorem dL_law_70 : decode cL_law 70 = .ok (.astore 12, 2) := by decide +kernel
theorem dL_law_72 : decode cL_law 72 = .ok (.bipush 49, 2) := by decide +kernel
theorem dL_law_74 : decode cL_law 74 = .ok (.newarray .long, 2) := by decide +kernel
theorem dL_law_76 : decode cL_law 76 = .ok (.astore 13, 2) := by decide +kernel
theorem dL_law_78 : decode cL_law 78 = .ok (.iconst 0, 1) := by decide +kernel
theorem dL_law_79 : decode cL_law 79 = .ok (.istore 14, 2) := by decide +kernel
theorem dL_law_81 : decode cL_law 81 = .ok (.iconst 0, 1) := by decide +kernel
theorem dL_law_82 : decode cL_law 82 = .ok (.istore 15, 2) := by decide +kernel
theorem dL_law_84 : decode cL_law 84 = .ok (.iload 15, 2) := by decide +kernel
theorem dL_law_86 : decode cL_law 86 = .ok (.bipush 60, 2) := by decide +kernel
theorem dL_law_88 : decode cL_law 88 = .ok (.if_icmp .ge 1388, 3) := by decide +kernel
theorem dL_law_91 : decode cL_law 91 = .ok (.aload_n 0, 1) := by decide +kernel
theorem dL_law_92 : decode cL_law 92 = .ok (.iconst 2, 1) := by decide +kernel
theorem dL_law_93 : decode cL_law 93 = .ok (.iload 15, 2) := by decide +kernel
theorem dL_law_95 : decode cL_law 95 = .ok (.imul, 1) := by decide +kernel
theorem dL_law_96 : decode cL_law 96 = .ok (.invokestatic 164, 3) := by decide +kernel
theorem dL_law_99 : decode cL_law 99 = .ok (.istore 16, 2) := by decide +kernel
theorem dL_law_101 : decode cL_law 101 = .ok (.aload_n 0, 1) := by decide +kernel
theorem dL_law_102 : decode cL_law 102 = .ok (.iconst 2, 1) := by decide +kernel
theorem dL_law_103 : decode cL_law 103 = .ok (.iload 15, 2) := by decide +kernel
theorem dL_law_105 : decode cL_law 105 = .ok (.imul, 1) := by decide +kernel
theorem dL_law_106 : decode cL_law 106 = .ok (.iconst 1, 1) := by decide +kernel
theorem dL_law_107 : decode cL_law 107 = .ok (.iadd, 1) := by decide +kernel
theorem dL_law_108 : decode cL_law 108 = .ok (.invokestatic 164, 3) := by decide +kernel
theorem dL_law_111 : decode cL_law 111 = .ok (.istore 17, 2) := by decide +kernel
theorem dL_law_113 : decode cL_law 113 = .ok (.iconst 0, 1) := by decide +kernel
theorem dL_law_114 : decode cL_law 114 = .ok (.istore 18, 2) := by decide +kernel
theorem dL_law_116 : decode cL_law 116 = .ok (.iconst 1, 1) := by decide +kernel
theorem dL_law_117 : decode cL_law 117 = .ok (.istore 19, 2) := by decide +kernel
theorem dL_law_119 : decode cL_law 119 = .ok (.iload 15, 2) := by decide +kernel
theorem dL_law_121 : decode cL_law 121 = .ok (.iconst 4, 1) := by decide +kernel
theorem dL_law_122 : decode cL_law 122 = .ok (.if_icmp .ge 7, 3) := by decide +kernel
theorem dL_law_125 : decode cL_law 125 = .ok (.iconst 0, 1) := by decide +kernel
theorem dL_law_126 : decode cL_law 126 = .ok (.goto 21, 3) := by decide +kernel
theorem dL_law_129 : decode cL_law 129 = .ok (.iload 15, 2) := by decide +kernel
theorem dL_law_131 : decode cL_law 131 = .ok (.bipush 9, 2) := by decide +kernel
theorem dL_law_133 : decode cL_law 133 = .ok (.if_icmp .ge 7, 3) := by decide +kernel
theorem dL_law_136 : decode cL_law 136 = .ok (.iconst 2, 1) := by decide +kernel
theorem dL_law_137 : decode cL_law 137 = .ok (.goto 10, 3) := by decide +kernel
theorem dL_law_140 : decode cL_law 140 = .ok (.iload 16, 2) := by decide +kernel
theorem dL_law_142 : decode cL_law 142 = .ok (.bipush 16, 2) := by decide +kernel
theorem dL_law_144 : decode cL_law 144 = .ok (.invokestatic 123, 3) := by decide +kernel
theorem dL_law_147 : decode cL_law 147 = .ok (.tableswitch 957 0 8 #[49, 189, 189, 189, 189, 414, 520, 666, 793], 49) := by decide +kernel
theorem dL_law_196 : decode cL_law 196 = .ok (.aload_n 2, 1) := by decide +kernel
theorem dL_law_197 : decode cL_law 197 = .ok (.iconst 0, 1) := by decide +kernel
theorem dL_law_198 : decode cL_law 198 = .ok (.iaload, 1) := by decide +kernel
theorem dL_law_199 : decode cL_law 199 = .ok (.bipush 7, 2) := by decide +kernel
theorem dL_law_201 : decode cL_law 201 = .ok (.if_icmp .eq 1086, 3) := by decide +kernel
theorem dL_law_204 : decode cL_law 204 = .ok (.aload_n 2, 1) := by decide +kernel
theorem dL_law_205 : decode cL_law 205 = .ok (.iconst 0, 1) := by decide +kernel
theorem dL_law_206 : decode cL_law 206 = .ok (.iaload, 1) := by decide +kernel
theorem dL_law_207 : decode cL_law 207 = .ok (.bipush 6, 2) := by decide +kernel
theorem dL_law_209 : decode cL_law 209 = .ok (.if_icmp .ne 13, 3) := by decide +kernel
theorem dL_law_212 : decode cL_law 212 = .ok (.iload 15, 2) := by decide +kernel
theorem dL_law_214 : decode cL_law 214 = .ok (.bipush 40, 2) := by decide +kernel
theorem dL_law_216 : decode cL_law 216 = .ok (.if_icmp .ge 6, 3) := by decide +kernel
theorem dL_law_219 : decode cL_law 219 = .ok (.goto 1068, 3) := by decide +kernel
theorem dL_law_222 : decode cL_law 222 = .ok (.iload 15, 2) := by decide +kernel
theorem dL_law_224 : decode cL_law 224 = .ok (.ifCond .eq 23, 3) := by decide +kernel
theorem dL_law_227 : decode cL_law 227 = .ok (.iload 15, 2) := by decide +kernel
theorem dL_law_229 : decode cL_law 229 = .ok (.iconst 3, 1) := by decide +kernel
theorem dL_law_230 : decode cL_law 230 = .ok (.if_icmp .eq 17, 3) := by decide +kernel
theorem dL_law_233 : decode cL_law 233 = .ok (.iload 15, 2) := by decide +kernel
theorem dL_law_235 : decode cL_law 235 = .ok (.iconst 3, 1) := by decide +kernel
theorem dL_law_236 : decode cL_law 236 = .ok (.if_icmp .le 15, 3) := by decide +kernel
theorem dL_law_239 : decode cL_law 239 = .ok (.iload 17, 2) := by decide +kernel
theorem dL_law_241 : decode cL_law 241 = .ok (.iconst 2, 1) := by decide +kernel
theorem dL_law_242 : decode cL_law 242 = .ok (.iand, 1) := by decide +kernel
theorem dL_law_243 : decode cL_law 243 = .ok (.iconst 2, 1) := by decide +kernel
theorem dL_law_244 : decode cL_law 244 = .ok (.if_icmp .ne 7, 3) := by decide +kernel
theorem dL_law_247 : decode cL_law 247 = .ok (.iconst 1, 1) := by decide +kernel
theorem dL_law_248 : decode cL_law 248 = .ok (.goto 4, 3) := by decide +kernel
theorem dL_law_251 : decode cL_law 251 = .ok (.iconst 0, 1) := by decide +kernel
theorem dL_law_252 : decode cL_law 252 = .ok (.istore 20, 2) := by decide +kernel
theorem dL_law_254 : decode cL_law 254 = .ok (.aload_n 1, 1) := by decide +kernel
theorem dL_law_255 : decode cL_law 255 = .ok (.iload 20, 2) := by decide +kernel
theorem dL_law_257 : decode cL_law 257 = .ok (.invokestatic 168, 3) := by decide +kernel
theorem dL_law_260 : decode cL_law 260 = .ok (.aload_n 2, 1) := by decide +kernel
theorem dL_law_261 : decode cL_law 261 = .ok (.iconst 0, 1) := by decide +kernel
theorem dL_law_262 : decode cL_law 262 = .ok (.iaload, 1) := by decide +kernel
theorem dL_law_263 : decode cL_law 263 = .ok (.if_icmp .ne 7, 3) := by decide +kernel
theorem dL_law_266 : decode cL_law 266 = .ok (.iconst 1, 1) := by decide +kernel
theorem dL_law_267 : decode cL_law 267 = .ok (.goto 4, 3) := by decide +kernel
theorem dL_law_270 : decode cL_law 270 = .ok (.iconst 0, 1) := by decide +kernel
theorem dL_law_271 : decode cL_law 271 = .ok (.istore 19, 2) := by decide +kernel
theorem dL_law_273 : decode cL_law 273 = .ok (.aload_n 2, 1) := by decide +kernel
theorem dL_law_274 : decode cL_law 274 = .ok (.iconst 1, 1) := by decide +kernel
theorem dL_law_275 : decode cL_law 275 = .ok (.dup2, 1) := by decide +kernel
theorem dL_law_276 : decode cL_law 276 = .ok (.iaload, 1) := by decide +kernel
theorem dL_law_277 : decode cL_law 277 = .ok (.iconst 1, 1) := by decide +kernel
theorem dL_law_278 : decode cL_law 278 = .ok (.aload_n 2, 1) := by decide +kernel
theorem dL_law_279 : decode cL_law 279 = .ok (.iconst 0, 1) := by decide +kernel
theorem dL_law_280 : decode cL_law 280 = .ok (.iaload, 1) := by decide +kernel
theorem dL_law_281 : decode cL_law 281 = .ok (.ishl, 1) := by decide +kernel
theorem dL_law_282 : decode cL_law 282 = .ok (.ior, 1) := by decide +kernel
theorem dL_law_283 : decode cL_law 283 = .ok (.iastore, 1) := by decide +kernel
theorem dL_law_284 : decode cL_law 284 = .ok (.aload_n 2, 1) := by decide +kernel
theorem dL_law_285 : decode cL_law 285 = .ok (.iconst 2, 1) := by decide +kernel
theorem dL_law_286 : decode cL_law 286 = .ok (.iload 20, 2) := by decide +kernel
theorem dL_law_288 : decode cL_law 288 = .ok (.ifCond .eq 15, 3) := by decide +kernel
theorem dL_law_291 : decode cL_law 291 = .ok (.aload_n 2, 1) := by decide +kernel
theorem dL_law_292 : decode cL_law 292 = .ok (.iconst 2, 1) := by decide +kernel
theorem dL_law_293 : decode cL_law 293 = .ok (.iaload, 1) := by decide +kernel
theorem dL_law_294 : decode cL_law 294 = .ok (.iconst 1, 1) := by decide +kernel
theorem dL_law_295 : decode cL_law 295 = .ok (.aload_n 2, 1) := by decide +kernel
theorem dL_law_296 : decode cL_law 296 = .ok (.iconst 0, 1) := by decide +kernel
theorem dL_law_297 : decode cL_law 297 = .ok (.iaload, 1) := by decide +kernel
theorem dL_law_298 : decode cL_law 298 = .ok (.ishl, 1) := by decide +kernel
theorem dL_law_299 : decode cL_law 299 = .ok (.ior, 1) := by decide +kernel
theorem dL_law_300 : decode cL_law 300 = .ok (.goto 14, 3) := by decide +kernel
theorem dL_law_303 : decode cL_law 303 = .ok (.aload_n 2, 1) := by decide +kernel
theorem dL_law_304 : decode cL_law 304 = .ok (.iconst 2, 1) := by decide +kernel
theorem dL_law_305 : decode cL_law 305 = .ok (.iaload, 1) := by decide +kernel
theorem dL_law_306 : decode cL_law 306 = .ok (.iconst 1, 1) := by decide +kernel
theorem dL_law_307 : decode cL_law 307 = .ok (.aload_n 2, 1) := by decide +kernel
theorem dL_law_308 : decode cL_law 308 = .ok (.iconst 0, 1) := by decide +kernel
theorem dL_law_309 : decode cL_law 309 = .ok (.iaload, 1) := by decide +kernel
theorem dL_law_310 : decode cL_law 310 = .ok (.ishl, 1) := by decide +kernel
theorem dL_law_311 : decode cL_law 311 = .ok (.iconst (-1), 1) := by decide +kernel
theorem dL_law_312 : decode cL_law 312 = .ok (.ixor, 1) := by decide +kernel
theorem dL_law_313 : decode cL_law 313 = .ok (.iand, 1) := by decide +kernel
theorem dL_law_314 : decode cL_law 314 = .ok (.iastore, 1) := by decide +kernel
theorem dL_law_315 : decode cL_law 315 = .ok (.aload 11, 2) := by decide +kernel
theorem dL_law_317 : decode cL_law 317 = .ok (.aload_n 2, 1) := by decide +kernel
theorem dL_law_318 : decode cL_law 318 = .ok (.iconst 0, 1) := by decide +kernel
theorem dL_law_319 : decode cL_law 319 = .ok (.iaload, 1) := by decide +kernel
theorem dL_law_320 : decode cL_law 320 = .ok (.iconst 0, 1) := by decide +kernel
theorem dL_law_321 : decode cL_law 321 = .ok (.iastore, 1) := by decide +kernel
theorem dL_law_322 : decode cL_law 322 = .ok (.aload_n 2, 1) := by decide +kernel
theorem dL_law_323 : decode cL_law 323 = .ok (.iconst 0, 1) := by decide +kernel
theorem dL_law_324 : decode cL_law 324 = .ok (.dup2, 1) := by decide +kernel
theorem dL_law_325 : decode cL_law 325 = .ok (.iaload, 1) := by decide +kernel
theorem dL_law_326 : decode cL_law 326 = .ok (.iconst 1, 1) := by decide +kernel
theorem dL_law_327 : decode cL_law 327 = .ok (.iadd, 1) := by decide +kernel
theorem dL_law_328 : decode cL_law 328 = .ok (.iastore, 1) := by decide +kernel
theorem dL_law_329 : decode cL_law 329 = .ok (.aload_n 2, 1) := by decide +kernel
theorem dL_law_330 : decode cL_law 330 = .ok (.iconst 5, 1) := by decide +kernel
theorem dL_law_331 : decode cL_law 331 = .ok (.iconst 0, 1) := by decide +kernel
theorem dL_law_332 : decode cL_law 332 = .ok (.iastore, 1) := by decide +kernel
theorem dL_law_333 : decode cL_law 333 = .ok (.goto 954, 3) := by decide +kernel
theorem dL_law_336 : decode cL_law 336 = .ok (.iload 17, 2) := by decide +kernel
theorem dL_law_338 : decode cL_law 338 = .ok (.bipush 7, 2) := by decide +kernel
theorem dL_law_340 : decode cL_law 340 = .ok (.invokestatic 123, 3) := by decide +kernel
theorem dL_law_343 : decode cL_law 343 = .ok (.istore 21, 2) := by decide +kernel
theorem dL_law_345 : decode cL_law 345 = .ok (.iload 17, 2) := by decide +kernel
theorem dL_law_347 : decode cL_law 347 = .ok (.iconst 5, 1) := by decide +kernel
theorem dL_law_348 : decode cL_law 348 = .ok (.ishr, 1) := by decide +kernel
theorem dL_law_349 : decode cL_law 349 = .ok (.bipush 7, 2) := by decide +kernel
theorem dL_law_351 : decode cL_law 351 = .ok (.invokestatic 123, 3) := by decide +kernel
theorem dL_law_354 : decode cL_law 354 = .ok (.istore 22, 2) := by decide +kernel
theorem dL_law_356 : decode cL_law 356 = .ok (.iload 17, 2) := by decide +kernel
theorem dL_law_358 : decode cL_law 358 = .ok (.bipush 8, 2) := by decide +kernel
theorem dL_law_360 : decode cL_law 360 = .ok (.iand, 1) := by decide +kernel
theorem dL_law_361 : decode cL_law 361 = .ok (.ifCond .ne 18, 3) := by decide +kernel
theorem dL_law_364 : decode cL_law 364 = .ok (.iconst 1, 1) := by decide +kernel
theorem dL_law_365 : decode cL_law 365 = .ok (.iload 17, 2) := by decide +kernel
theorem dL_law_367 : decode cL_law 367 = .ok (.bipush 9, 2) := by decide +kernel
theorem dL_law_369 : decode cL_law 369 = .ok (.ishr, 1) := by decide +kernel
theorem dL_law_370 : decode cL_law 370 = .ok (.bipush 60, 2) := by decide +kernel
theorem dL_law_372 : decode cL_law 372 = .ok (.invokestatic 123, 3) := by decide +kernel
theorem dL_law_375 : decode cL_law 375 = .ok (.iadd, 1) := by decide +kernel
theorem dL_law_376 : decode cL_law 376 = .ok (.goto 17, 3) := by decide +kernel
theorem dL_law_379 : decode cL_law 379 = .ok (.iconst 2, 1) := by decide +kernel
theorem dL_law_380 : decode cL_law 380 = .ok (.iconst 2, 1) := by decide +kernel
theorem dL_law_381 : decode cL_law 381 = .ok (.iload 17, 2) := by decide +kernel
theorem dL_law_383 : decode cL_law 383 = .ok (.bipush 9, 2) := by decide +kernel
theorem dL_law_385 : decode cL_law 385 = .ok (.ishr, 1) := by decide +kernel
theorem dL_law_386 : decode cL_law 386 = .ok (.bipush 6, 2) := by decide +kernel
theorem dL_law_388 : decode cL_law 388 = .ok (.invokestatic 123, 3) := by decide +kernel
theorem dL_law_391 : decode cL_law 391 = .ok (.imul, 1) := by decide +kernel
theorem dL_law_392 : decode cL_law 392 = .ok (.iadd, 1) := by decide +kernel
theorem dL_law_393 : decode cL_law 393 = .ok (.istore 23, 2) := by decide +kernel
theorem dL_law_395 : decode cL_law 395 = .ok (.aload_n 2, 1) := by decide +kernel
theorem dL_law_396 : decode cL_law 396 = .ok (.iconst 1, 1) := by decide +kernel
theorem dL_law_397 : decode cL_law 397 = .ok (.iaload, 1) := by decide +kernel
theorem dL_law_398 : decode cL_law 398 = .ok (.iload 21, 2) := by decide +kernel
theorem dL_law_400 : decode cL_law 400 = .ok (.ishr, 1) := by decide +kernel
theorem dL_law_401 : decode cL_law 401 = .ok (.iconst 1, 1) := by decide +kernel
theorem dL_law_402 : decode cL_law 402 = .ok (.iand, 1) := by decide +kernel
theorem dL_law_403 : decode cL_law 403 = .ok (.iconst 1, 1) := by decide +kernel
theorem dL_law_404 : decode cL_law 404 = .ok (.if_icmp .ne 19, 3) := by decide +kernel
theorem dL_law_407 : decode cL_law 407 = .ok (.aload_n 2, 1) := by decide +kernel
theorem dL_law_408 : decode cL_law 408 = .ok (.iconst 1, 1) := by decide +kernel
theorem dL_law_409 : decode cL_law 409 = .ok (.iaload, 1) := by decide +kernel
theorem dL_law_410 : decode cL_law 410 = .ok (.iload 22, 2) := by decide +kernel
theorem dL_law_412 : decode cL_law 412 = .ok (.ishr, 1) := by decide +kernel
theorem dL_law_413 : decode cL_law 413 = .ok (.iconst 1, 1) := by decide +kernel
theorem dL_law_414 : decode cL_law 414 = .ok (.iand, 1) := by decide +kernel
theorem dL_law_415 : decode cL_law 415 = .ok (.iconst 1, 1) := by decide +kernel
theorem dL_law_416 : decode cL_law 416 = .ok (.if_icmp .ne 7, 3) := by decide +kernel
theorem dL_law_419 : decode cL_law 419 = .ok (.iconst 1, 1) := by decide +kernel
theorem dL_law_420 : decode cL_law 420 = .ok (.goto 4, 3) := by decide +kernel
theorem dL_law_423 : decode cL_law 423 = .ok (.iconst 0, 1) := by decide +kernel
theorem dL_law_424 : decode cL_law 424 = .ok (.istore 24, 2) := by decide +kernel
theorem dL_law_426 : decode cL_law 426 = .ok (.iconst 0, 1) := by decide +kernel
theorem dL_law_427 : decode cL_law 427 = .ok (.istore 25, 2) := by decide +kernel
theorem dL_law_429 : decode cL_law 429 = .ok (.iconst 0, 1) := by decide +kernel
theorem dL_law_430 : decode cL_law 430 = .ok (.istore 26, 2) := by decide +kernel
theorem dL_law_432 : decode cL_law 432 = .ok (.iload 26, 2) := by decide +kernel
theorem dL_law_434 : decode cL_law 434 = .ok (.bipush 20, 2) := by decide +kernel
theorem dL_law_436 : decode cL_law 436 = .ok (.if_icmp .ge 22, 3) := by decide +kernel
theorem dL_law_439 : decode cL_law 439 = .ok (.iload 25, 2) := by decide +kernel
theorem dL_law_441 : decode cL_law 441 = .ok (.aload_n 2, 1) := by decide +kernel
theorem dL_law_442 : decode cL_law 442 = .ok (.iconst 4, 1) := by decide +kernel
theorem dL_law_443 : decode cL_law 443 = .ok (.iaload, 1) := by decide +kernel
theorem dL_law_444 : decode cL_law 444 = .ok (.iload 26, 2) := by decide +kernel
theorem dL_law_446 : decode cL_law 446 = .ok (.ishr, 1) := by decide +kernel
theorem dL_law_447 : decode cL_law 447 = .ok (.iconst 1, 1) := by decide +kernel
theorem dL_law_448 : decode cL_law 448 = .ok (.iand, 1) := by decide +kernel
theorem dL_law_449 : decode cL_law 449 = .ok (.iadd, 1) := by decide +kernel
theorem dL_law_450 : decode cL_law 450 = .ok (.istore 25, 2) := by decide +kernel
theorem dL_law_452 : decode cL_law 452 = .ok (.iinc 26 1, 3) := by decide +kernel
theorem dL_law_455 : decode cL_law 455 = .ok (.goto (-23), 3) := by decide +kernel
theorem dL_law_458 : decode cL_law 458 = .ok (.iload 24, 2) := by decide +kernel
theorem dL_law_460 : decode cL_law 460 = .ok (.ifCond .eq 22, 3) := by decide +kernel
theorem dL_law_463 : decode cL_law 463 = .ok (.aload_n 2, 1) := by decide +kernel
theorem dL_law_464 : decode cL_law 464 = .ok (.iconst 3, 1) := by decide +kernel
theorem dL_law_465 : decode cL_law 465 = .ok (.iaload, 1) := by decide +kernel
theorem dL_law_466 : decode cL_law 466 = .ok (.bipush 20, 2) := by decide +kernel
theorem dL_law_468 : decode cL_law 468 = .ok (.if_icmp .ge 14, 3) := by decide +kernel
theorem dL_law_471 : decode cL_law 471 = .ok (.iload 25, 2) := by decide +kernel
theorem dL_law_473 : decode cL_law 473 = .ok (.bipush 12, 2) := by decide +kernel
theorem dL_law_475 : decode cL_law 475 = .ok (.if_icmp .ge 7, 3) := by decide +kernel
theorem dL_law_478 : decode cL_law 478 = .ok (.iconst 1, 1) := by decide +kernel
theorem dL_law_479 : decode cL_law 479 = .ok (.goto 4, 3) := by decide +kernel
theorem dL_law_482 : decode cL_law 482 = .ok (.iconst 0, 1) := by decide +kernel
theorem dL_law_483 : decode cL_law 483 = .ok (.istore 26, 2) := by decide +kernel
theorem dL_law_485 : decode cL_law 485 = .ok (.aload_n 1, 1) := by decide +kernel
theorem dL_law_486 : decode cL_law 486 = .ok (.iload 21, 2) := by decide +kernel
theorem dL_law_488 : decode cL_law 488 = .ok (.iload 22, 2) := by decide +kernel
theorem dL_law_490 : decode cL_law 490 = .ok (.iload 23, 2) := by decide +kernel
theorem dL_law_492 : decode cL_law 492 = .ok (.invokestatic 171, 3) := by decide +kernel
theorem dL_law_495 : decode cL_law 495 = .ok (.iload 24, 2) := by decide +kernel
theorem dL_law_497 : decode cL_law 497 = .ok (.ifCond .ne 9, 3) := by decide +kernel
theorem dL_law_500 : decode cL_law 500 = .ok (.sipush (-7100), 3) := by decide +kernel
theorem dL_law_503 : decode cL_law 503 = .ok (.goto 17, 3) := by decide +kernel
theorem dL_law_506 : decode cL_law 506 = .ok (.iload 26, 2) := by decide +kernel
theorem dL_law_508 : decode cL_law 508 = .ok (.ifCond .eq 9, 3) := by decide +kernel
theorem dL_law_511 : decode cL_law 511 = .ok (.aload_n 2, 1) := by decide +kernel
theorem dL_law_512 : decode cL_law 512 = .ok (.iconst 3, 1) := by decide +kernel
theorem dL_law_513 : decode cL_law 513 = .ok (.iaload, 1) := by decide +kernel
theorem dL_law_514 : decode cL_law 514 = .ok (.goto 6, 3) := by decide +kernel
theorem dL_law_517 : decode cL_law 517 = .ok (.sipush (-7300), 3) := by decide +kernel
theorem dL_law_520 : decode cL_law 520 = .ok (.if_icmp .ne 7, 3) := by decide +kernel
theorem dL_law_523 : decode cL_law 523 = .ok (.iconst 1, 1) := by decide +kernel
theorem dL_law_524 : decode cL_law 524 = .ok (.goto 4, 3) := by decide +kernel
theorem dL_law_527 : decode cL_law 527 = .ok (.iconst 0, 1) := by decide +kernel
theorem dL_law_528 : decode cL_law 528 = .ok (.istore 19, 2) := by decide +kernel
theorem dL_law_530 : decode cL_law 530 = .ok (.iload 26, 2) := by decide +kernel
theorem dL_law_532 : decode cL_law 532 = .ok (.ifCond .ne 6, 3) := by decide +kernel
theorem dL_law_535 : decode cL_law 535 = .ok (.goto 752, 3) := by decide +kernel
theorem dL_law_538 : decode cL_law 538 = .ok (.iload 21, 2) := by decide +kernel
theorem dL_law_540 : decode cL_law 540 = .ok (.iload 22, 2) := by decide +kernel
theorem dL_law_542 : decode cL_law 542 = .ok (.iload 23, 2) := by decide +kernel
theorem dL_law_544 : decode cL_law 544 = .ok (.aload_n 2, 1) := by decide +kernel
theorem dL_law_545 : decode cL_law 545 = .ok (.aload_n 3, 1) := by decide +kernel
theorem dL_law_546 : decode cL_law 546 = .ok (.aload 4, 2) := by decide +kernel
theorem dL_law_548 : decode cL_law 548 = .ok (.aload 5, 2) := by decide +kernel
theorem dL_law_550 : decode cL_law 550 = .ok (.invokestatic 104, 3) := by decide +kernel
theorem dL_law_553 : decode cL_law 553 = .ok (.pop, 1) := by decide +kernel
theorem dL_law_554 : decode cL_law 554 = .ok (.aload_n 2, 1) := by decide +kernel
theorem dL_law_555 : decode cL_law 555 = .ok (.iconst 5, 1) := by decide +kernel
theorem dL_law_556 : decode cL_law 556 = .ok (.iconst 0, 1) := by decide +kernel
theorem dL_law_557 : decode cL_law 557 = .ok (.iastore, 1) := by decide +kernel
theorem dL_law_558 : decode cL_law 558 = .ok (.goto 729, 3) := by decide +kernel
theorem dL_law_561 : decode cL_law 561 = .ok (.iload 17, 2) := by decide +kernel
theorem dL_law_563 : decode cL_law 563 = .ok (.bipush 7, 2) := by decide +kernel
theorem dL_law_565 : decode cL_law 565 = .ok (.invokestatic 123, 3) := by decide +kernel
theorem dL_law_568 : decode cL_law 568 = .ok (.istore 27, 2) := by decide +kernel
theorem dL_law_570 : decode cL_law 570 = .ok (.aload_n 2, 1) := by decide +kernel
theorem dL_law_571 : decode cL_law 571 = .ok (.iconst 1, 1) := by decide +kernel
theorem dL_law_572 : decode cL_law 572 = .ok (.iaload, 1) := by decide +kernel
theorem dL_law_573 : decode cL_law 573 = .ok (.aload_n 2, 1) := by decide +kernel
theorem dL_law_574 : decode cL_law 574 = .ok (.iconst 2, 1) := by decide +kernel
theorem dL_law_575 : decode cL_law 575 = .ok (.iaload, 1) := by decide +kernel
theorem dL_law_576 : decode cL_law 576 = .ok (.iand, 1) := by decide +kernel
theorem dL_law_577 : decode cL_law 577 = .ok (.iconst 1, 1) := by decide +kernel
theorem dL_law_578 : decode cL_law 578 = .ok (.iload 27, 2) := by decide +kernel
theorem dL_law_580 : decode cL_law 580 = .ok (.ishl, 1) := by decide +kernel
theorem dL_law_581 : decode cL_law 581 = .ok (.iand, 1) := by decide +kernel
theorem dL_law_582 : decode cL_law 582 = .ok (.ifCond .le 7, 3) := by decide +kernel
theorem dL_law_585 : decode cL_law 585 = .ok (.iconst 1, 1) := by decide +kernel
theorem dL_law_586 : decode cL_law 586 = .ok (.goto 4, 3) := by decide +kernel
theorem dL_law_589 : decode cL_law 589 = .ok (.iconst 0, 1) := by decide +kernel
theorem dL_law_590 : decode cL_law 590 = .ok (.istore 28, 2) := by decide +kernel
theorem dL_law_592 : decode cL_law 592 = .ok (.aload_n 1, 1) := by decide +kernel
theorem dL_law_593 : decode cL_law 593 = .ok (.iload 27, 2) := by decide +kernel
theorem dL_law_595 : decode cL_law 595 = .ok (.iload 17, 2) := by decide +kernel
theorem dL_law_597 : decode cL_law 597 = .ok (.iconst 4, 1) := by decide +kernel
theorem dL_law_598 : decode cL_law 598 = .ok (.ishr, 1) := by decide +kernel
theorem dL_law_599 : decode cL_law 599 = .ok (.sipush 199, 3) := by decide +kernel
theorem dL_law_602 : decode cL_law 602 = .ok (.invokestatic 123, 3) := by decide +kernel
theorem dL_law_605 : decode cL_law 605 = .ok (.bipush 99, 2) := by decide +kernel
theorem dL_law_607 : decode cL_law 607 = .ok (.isub, 1) := by decide +kernel
theorem dL_law_608 : decode cL_law 608 = .ok (.invokestatic 174, 3) := by decide +kernel
theorem dL_law_611 : decode cL_law 611 = .ok (.iload 28, 2) := by decide +kernel
theorem dL_law_613 : decode cL_law 613 = .ok (.ifCond .eq 7, 3) := by decide +kernel
theorem dL_law_616 : decode cL_law 616 = .ok (.iconst 0, 1) := by decide +kernel
theorem dL_law_617 : decode cL_law 617 = .ok (.goto 6, 3) := by decide +kernel
theorem dL_law_620 : decode cL_law 620 = .ok (.sipush (-7100), 3) := by decide +kernel
theorem dL_law_623 : decode cL_law 623 = .ok (.if_icmp .ne 7, 3) := by decide +kernel
theorem dL_law_626 : decode cL_law 626 = .ok (.iconst 1, 1) := by decide +kernel
theorem dL_law_627 : decode cL_law 627 = .ok (.goto 4, 3) := by decide +kernel
theorem dL_law_630 : decode cL_law 630 = .ok (.iconst 0, 1) := by decide +kernel
theorem dL_law_631 : decode cL_law 631 = .ok (.istore 19, 2) := by decide +kernel
theorem dL_law_633 : decode cL_law 633 = .ok (.aload 11, 2) := by decide +kernel
theorem dL_law_635 : decode cL_law 635 = .ok (.iload 27, 2) := by decide +kernel
theorem dL_law_637 : decode cL_law 637 = .ok (.iload 28, 2) := by decide +kernel
theorem dL_law_639 : decode cL_law 639 = .ok (.ifCond .eq 19, 3) := by decide +kernel
theorem dL_law_642 : decode cL_law 642 = .ok (.iload 17, 2) := by decide +kernel
theorem dL_law_644 : decode cL_law 644 = .ok (.iconst 4, 1) := by decide +kernel
theorem dL_law_645 : decode cL_law 645 = .ok (.ishr, 1) := by decide +kernel
theorem dL_law_646 : decode cL_law 646 = .ok (.sipush 199, 3) := by decide +kernel
theorem dL_law_649 : decode cL_law 649 = .ok (.invokestatic 123, 3) := by decide +kernel
theorem dL_law_652 : decode cL_law 652 = .ok (.bipush 99, 2) := by decide +kernel
theorem dL_law_654 : decode cL_law 654 = .ok (.isub, 1) := by decide +kernel
theorem dL_law_655 : decode cL_law 655 = .ok (.goto 8, 3) := by decide +kernel
theorem dL_law_658 : decode cL_law 658 = .ok (.aload 11, 2) := by decide +kernel
theorem dL_law_660 : decode cL_law 660 = .ok (.iload 27, 2) := by decide +kernel
theorem dL_law_662 : decode cL_law 662 = .ok (.iaload, 1) := by decide +kernel
theorem dL_law_663 : decode cL_law 663 = .ok (.iastore, 1) := by decide +kernel
theorem dL_law_664 : decode cL_law 664 = .ok (.goto 623, 3) := by decide +kernel
theorem dL_law_667 : decode cL_law 667 = .ok (.aload_n 1, 1) := by decide +kernel
theorem dL_law_668 : decode cL_law 668 = .ok (.invokevirtual 176, 3) := by decide +kernel
theorem dL_law_671 : decode cL_law 671 = .ok (.istore 29, 2) := by decide +kernel
theorem dL_law_673 : decode cL_law 673 = .ok (.iconst 0, 1) := by decide +kernel
theorem dL_law_674 : decode cL_law 674 = .ok (.istore 30, 2) := by decide +kernel
theorem dL_law_676 : decode cL_law 676 = .ok (.iconst 0, 1) := by decide +kernel
theorem dL_law_677 : decode cL_law 677 = .ok (.istore 31, 2) := by decide +kernel
theorem dL_law_679 : decode cL_law 679 = .ok (.iload 31, 2) := by decide +kernel
theorem dL_law_681 : decode cL_law 681 = .ok (.bipush 80, 2) := by decide +kernel
theorem dL_law_683 : decode cL_law 683 = .ok (.if_icmp .ge 96, 3) := by decide +kernel
theorem dL_law_686 : decode cL_law 686 = .ok (.iload 31, 2) := by decide +kernel
theorem dL_law_688 : decode cL_law 688 = .ok (.bipush 20, 2) := by decide +kernel
theorem dL_law_690 : decode cL_law 690 = .ok (.idiv, 1) := by decide +kernel
theorem dL_law_691 : decode cL_law 691 = .ok (.istore 32, 2) := by decide +kernel
theorem dL_law_693 : decode cL_law 693 = .ok (.iload 32, 2) := by decide +kernel
theorem dL_law_695 : decode cL_law 695 = .ok (.iload 31, 2) := by decide +kernel
theorem dL_law_697 : decode cL_law 697 = .ok (.bipush 20, 2) := by decide +kernel
theorem dL_law_699 : decode cL_law 699 = .ok (.irem, 1) := by decide +kernel
theorem dL_law_700 : decode cL_law 700 = .ok (.aload_n 2, 1) := by decide +kernel
theorem dL_law_701 : decode cL_law 701 = .ok (.invokestatic 179, 3) := by decide +kernel
theorem dL_law_704 : decode cL_law 704 = .ok (.ifCond .eq 69, 3) := by decide +kernel
theorem dL_law_707 : decode cL_law 707 = .ok (.iload 32, 2) := by decide +kernel
theorem dL_law_709 : decode cL_law 709 = .ok (.iconst 1, 1) := by decide +kernel
theorem dL_law_710 : decode cL_law 710 = .ok (.if_icmp .le 13, 3) := by decide +kernel
theorem dL_law_713 : decode cL_law 713 = .ok (.iload 31, 2) := by decide +kernel
theorem dL_law_715 : decode cL_law 715 = .ok (.bipush 20, 2) := by decide +kernel
theorem dL_law_717 : decode cL_law 717 = .ok (.irem, 1) := by decide +kernel
theorem dL_law_718 : decode cL_law 718 = .ok (.bipush 6, 2) := by decide +kernel
theorem dL_law_720 : decode cL_law 720 = .ok (.if_icmp .gt 53, 3) := by decide +kernel
theorem dL_law_723 : decode cL_law 723 = .ok (.iload 32, 2) := by decide +kernel
theorem dL_law_725 : decode cL_law 725 = .ok (.iload 31, 2) := by decide +kernel

