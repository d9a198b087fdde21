theorem dL_flowSo_0 : decode cL_flowSo 0 = .ok (.aload_n 0, 1) := by decide +kernel
theorem dL_flowSo_1 : decode cL_flowSo 1 = .ok (.aload_n 0, 1) := by decide +kernel
theorem dL_flowSo_2 : decode cL_flowSo 2 = .ok (.getfield 56, 3) := by decide +kernel
theorem dL_flowSo_5 : decode cL_flowSo 5 = .ok (.invokevirtual 52, 3) := by decide +kernel
theorem dL_flowSo_8 : decode cL_flowSo 8 = .ok (.istore_n 1, 1) := by decide +kernel
theorem dL_flowSo_9 : decode cL_flowSo 9 = .ok (.iload_n 1, 1) := by decide +kernel
theorem dL_flowSo_10 : decode cL_flowSo 10 = .ok (.iconst 1, 1) := by decide +kernel
theorem dL_flowSo_11 : decode cL_flowSo 11 = .ok (.iadd, 1) := by decide +kernel
theorem dL_flowSo_12 : decode cL_flowSo 12 = .ok (.aload_n 0, 1) := by decide +kernel
theorem dL_flowSo_13 : decode cL_flowSo 13 = .ok (.aload_n 0, 1) := by decide +kernel
theorem dL_flowSo_14 : decode cL_flowSo 14 = .ok (.getfield 56, 3) := by decide +kernel
theorem dL_flowSo_17 : decode cL_flowSo 17 = .ok (.iconst 1, 1) := by decide +kernel
theorem dL_flowSo_18 : decode cL_flowSo 18 = .ok (.isub, 1) := by decide +kernel
theorem dL_flowSo_19 : decode cL_flowSo 19 = .ok (.invokevirtual 52, 3) := by decide +kernel
theorem dL_flowSo_22 : decode cL_flowSo 22 = .ok (.iadd, 1) := by decide +kernel
theorem dL_flowSo_23 : decode cL_flowSo 23 = .ok (.aload_n 0, 1) := by decide +kernel
theorem dL_flowSo_24 : decode cL_flowSo 24 = .ok (.getfield 56, 3) := by decide +kernel
theorem dL_flowSo_27 : decode cL_flowSo 27 = .ok (.irem, 1) := by decide +kernel
theorem dL_flowSo_28 : decode cL_flowSo 28 = .ok (.istore_n 2, 1) := by decide +kernel
theorem dL_flowSo_29 : decode cL_flowSo 29 = .ok (.aload_n 0, 1) := by decide +kernel
theorem dL_flowSo_30 : decode cL_flowSo 30 = .ok (.getfield 10, 3) := by decide +kernel
theorem dL_flowSo_33 : decode cL_flowSo 33 = .ok (.iconst 0, 1) := by decide +kernel
theorem dL_flowSo_34 : decode cL_flowSo 34 = .ok (.iload_n 1, 1) := by decide +kernel
theorem dL_flowSo_35 : decode cL_flowSo 35 = .ok (.iload_n 2, 1) := by decide +kernel
theorem dL_flowSo_36 : decode cL_flowSo 36 = .ok (.invokevirtual 96, 3) := by decide +kernel
theorem dL_flowSo_39 : decode cL_flowSo 39 = .ok (.istore_n 3, 1) := by decide +kernel
theorem dL_flowSo_40 : decode cL_flowSo 40 = .ok (.goto 57, 3) := by decide +kernel
theorem dL_flowSo_43 : decode cL_flowSo 43 = .ok (.astore 4, 2) := by decide +kernel
theorem dL_flowSo_45 : decode cL_flowSo 45 = .ok (.aload_n 0, 1) := by decide +kernel
theorem dL_flowSo_46 : decode cL_flowSo 46 = .ok (.getfield 10, 3) := by decide +kernel
theorem dL_flowSo_49 : decode cL_flowSo 49 = .ok (.iconst 0, 1) := by decide +kernel
theorem dL_flowSo_50 : decode cL_flowSo 50 = .ok (.iload_n 1, 1) := by decide +kernel
theorem dL_flowSo_51 : decode cL_flowSo 51 = .ok (.iload_n 2, 1) := by decide +kernel
theorem dL_flowSo_52 : decode cL_flowSo 52 = .ok (.invokevirtual 102, 3) := by decide +kernel
theorem dL_flowSo_55 : decode cL_flowSo 55 = .ok (.istore 5, 2) := by decide +kernel
theorem dL_flowSo_57 : decode cL_flowSo 57 = .ok (.aload_n 0, 1) := by decide +kernel
theorem dL_flowSo_58 : decode cL_flowSo 58 = .ok (.iload 5, 2) := by decide +kernel
theorem dL_flowSo_60 : decode cL_flowSo 60 = .ok (.iload_n 1, 1) := by decide +kernel
theorem dL_flowSo_61 : decode cL_flowSo 61 = .ok (.invokevirtual 92, 3) := by decide +kernel
theorem dL_flowSo_64 : decode cL_flowSo 64 = .ok (.aload_n 0, 1) := by decide +kernel
theorem dL_flowSo_65 : decode cL_flowSo 65 = .ok (.iload 5, 2) := by decide +kernel
theorem dL_flowSo_67 : decode cL_flowSo 67 = .ok (.iload_n 2, 1) := by decide +kernel
theorem dL_flowSo_68 : decode cL_flowSo 68 = .ok (.invokevirtual 92, 3) := by decide +kernel
theorem dL_flowSo_71 : decode cL_flowSo 71 = .ok (.if_icmp .ne 24, 3) := by decide +kernel
theorem dL_flowSo_74 : decode cL_flowSo 74 = .ok (.aload_n 0, 1) := by decide +kernel
theorem dL_flowSo_75 : decode cL_flowSo 75 = .ok (.iload 5, 2) := by decide +kernel
theorem dL_flowSo_77 : decode cL_flowSo 77 = .ok (.iconst 2, 1) := by decide +kernel
theorem dL_flowSo_78 : decode cL_flowSo 78 = .ok (.invokevirtual 105, 3) := by decide +kernel
theorem dL_flowSo_81 : decode cL_flowSo 81 = .ok (.aload_n 0, 1) := by decide +kernel
theorem dL_flowSo_82 : decode cL_flowSo 82 = .ok (.iload 5, 2) := by decide +kernel
theorem dL_flowSo_84 : decode cL_flowSo 84 = .ok (.iconst 3, 1) := by decide +kernel
theorem dL_flowSo_85 : decode cL_flowSo 85 = .ok (.invokevirtual 108, 3) := by decide +kernel
theorem dL_flowSo_88 : decode cL_flowSo 88 = .ok (.if_icmp .le 7, 3) := by decide +kernel
theorem dL_flowSo_91 : decode cL_flowSo 91 = .ok (.iconst 1, 1) := by decide +kernel
theorem dL_flowSo_92 : decode cL_flowSo 92 = .ok (.goto 4, 3) := by decide +kernel
theorem dL_flowSo_95 : decode cL_flowSo 95 = .ok (.iconst 0, 1) := by decide +kernel
theorem dL_flowSo_96 : decode cL_flowSo 96 = .ok (.ireturn, 1) := by decide +kernel
theorem dL_flowSo_97 : decode cL_flowSo 97 = .ok (.aload_n 0, 1) := by decide +kernel
theorem dL_flowSo_98 : decode cL_flowSo 98 = .ok (.getfield 10, 3) := by decide +kernel
theorem dL_flowSo_101 : decode cL_flowSo 101 = .ok (.iconst 0, 1) := by decide +kernel
theorem dL_flowSo_102 : decode cL_flowSo 102 = .ok (.iload_n 1, 1) := by decide +kernel
theorem dL_flowSo_103 : decode cL_flowSo 103 = .ok (.iload_n 2, 1) := by decide +kernel
theorem dL_flowSo_104 : decode cL_flowSo 104 = .ok (.iconst 0, 1) := by decide +kernel
theorem dL_flowSo_105 : decode cL_flowSo 105 = .ok (.invokevirtual 111, 3) := by decide +kernel
theorem dL_flowSo_108 : decode cL_flowSo 108 = .ok (.istore 4, 2) := by decide +kernel
theorem dL_flowSo_110 : decode cL_flowSo 110 = .ok (.aload_n 0, 1) := by decide +kernel
theorem dL_flowSo_111 : decode cL_flowSo 111 = .ok (.getfield 10, 3) := by decide +kernel
theorem dL_flowSo_114 : decode cL_flowSo 114 = .ok (.iconst 0, 1) := by decide +kernel
theorem dL_flowSo_115 : decode cL_flowSo 115 = .ok (.iload_n 1, 1) := by decide +kernel
theorem dL_flowSo_116 : decode cL_flowSo 116 = .ok (.iload_n 2, 1) := by decide +kernel
theorem dL_flowSo_117 : decode cL_flowSo 117 = .ok (.iconst 1, 1) := by decide +kernel
theorem dL_flowSo_118 : decode cL_flowSo 118 = .ok (.invokevirtual 111, 3) := by decide +kernel
theorem dL_flowSo_121 : decode cL_flowSo 121 = .ok (.istore 5, 2) := by decide +kernel
theorem dL_flowSo_123 : decode cL_flowSo 123 = .ok (.aload_n 0, 1) := by decide +kernel
theorem dL_flowSo_124 : decode cL_flowSo 124 = .ok (.getfield 10, 3) := by decide +kernel
theorem dL_flowSo_127 : decode cL_flowSo 127 = .ok (.iconst 0, 1) := by decide +kernel
theorem dL_flowSo_128 : decode cL_flowSo 128 = .ok (.iload_n 1, 1) := by decide +kernel
theorem dL_flowSo_129 : decode cL_flowSo 129 = .ok (.iload_n 2, 1) := by decide +kernel
theorem dL_flowSo_130 : decode cL_flowSo 130 = .ok (.iload 4, 2) := by decide +kernel
theorem dL_flowSo_132 : decode cL_flowSo 132 = .ok (.invokevirtual 115, 3) := by decide +kernel
theorem dL_flowSo_135 : decode cL_flowSo 135 = .ok (.iload_n 3, 1) := by decide +kernel
theorem dL_flowSo_136 : decode cL_flowSo 136 = .ok (.if_icmp .ne 58, 3) := by decide +kernel
theorem dL_flowSo_139 : decode cL_flowSo 139 = .ok (.aload_n 0, 1) := by decide +kernel
theorem dL_flowSo_140 : decode cL_flowSo 140 = .ok (.getfield 10, 3) := by decide +kernel
theorem dL_flowSo_143 : decode cL_flowSo 143 = .ok (.iconst 0, 1) := by decide +kernel
theorem dL_flowSo_144 : decode cL_flowSo 144 = .ok (.iload_n 1, 1) := by decide +kernel
theorem dL_flowSo_145 : decode cL_flowSo 145 = .ok (.iload_n 2, 1) := by decide +kernel
theorem dL_flowSo_146 : decode cL_flowSo 146 = .ok (.iload 5, 2) := by decide +kernel
theorem dL_flowSo_148 : decode cL_flowSo 148 = .ok (.invokevirtual 115, 3) := by decide +kernel
theorem dL_flowSo_151 : decode cL_flowSo 151 = .ok (.iload_n 3, 1) := by decide +kernel
theorem dL_flowSo_152 : decode cL_flowSo 152 = .ok (.if_icmp .ne 42, 3) := by decide +kernel
theorem dL_flowSo_155 : decode cL_flowSo 155 = .ok (.iload 4, 2) := by decide +kernel
theorem dL_flowSo_157 : decode cL_flowSo 157 = .ok (.iload 5, 2) := by decide +kernel
theorem dL_flowSo_159 : decode cL_flowSo 159 = .ok (.iconst (-1), 1) := by decide +kernel
theorem dL_flowSo_160 : decode cL_flowSo 160 = .ok (.ixor, 1) := by decide +kernel
theorem dL_flowSo_161 : decode cL_flowSo 161 = .ok (.iand, 1) := by decide +kernel
theorem dL_flowSo_162 : decode cL_flowSo 162 = .ok (.ifCond .ne 32, 3) := by decide +kernel
theorem dL_flowSo_165 : decode cL_flowSo 165 = .ok (.aload_n 0, 1) := by decide +kernel
theorem dL_flowSo_166 : decode cL_flowSo 166 = .ok (.getfield 10, 3) := by decide +kernel
theorem dL_flowSo_169 : decode cL_flowSo 169 = .ok (.iconst 0, 1) := by decide +kernel
theorem dL_flowSo_170 : decode cL_flowSo 170 = .ok (.iload_n 1, 1) := by decide +kernel
theorem dL_flowSo_171 : decode cL_flowSo 171 = .ok (.iload_n 2, 1) := by decide +kernel
theorem dL_flowSo_172 : decode cL_flowSo 172 = .ok (.invokevirtual 119, 3) := by decide +kernel
theorem dL_flowSo_175 : decode cL_flowSo 175 = .ok (.iload 4, 2) := by decide +kernel
theorem dL_flowSo_177 : decode cL_flowSo 177 = .ok (.iload 5, 2) := by decide +kernel
theorem dL_flowSo_179 : decode cL_flowSo 179 = .ok (.if_icmp .ne 7, 3) := by decide +kernel
theorem dL_flowSo_182 : decode cL_flowSo 182 = .ok (.iconst 1, 1) := by decide +kernel
theorem dL_flowSo_183 : decode cL_flowSo 183 = .ok (.goto 4, 3) := by decide +kernel
theorem dL_flowSo_186 : decode cL_flowSo 186 = .ok (.iconst 2, 1) := by decide +kernel
theorem dL_flowSo_187 : decode cL_flowSo 187 = .ok (.if_icmp .lt 7, 3) := by decide +kernel
theorem dL_flowSo_190 : decode cL_flowSo 190 = .ok (.iconst 1, 1) := by decide +kernel
theorem dL_flowSo_191 : decode cL_flowSo 191 = .ok (.goto 4, 3) := by decide +kernel
theorem dL_flowSo_194 : decode cL_flowSo 194 = .ok (.iconst 0, 1) := by decide +kernel
theorem dL_flowSo_195 : decode cL_flowSo 195 = .ok (.istore 6, 2) := by decide +kernel
theorem dL_flowSo_197 : decode cL_flowSo 197 = .ok (.iconst 0, 1) := by decide +kernel
theorem dL_flowSo_198 : decode cL_flowSo 198 = .ok (.istore 7, 2) := by decide +kernel
theorem dL_flowSo_200 : decode cL_flowSo 200 = .ok (.iload 7, 2) := by decide +kernel
theorem dL_flowSo_202 : decode cL_flowSo 202 = .ok (.iconst 1, 1) := by decide +kernel
theorem dL_flowSo_203 : decode cL_flowSo 203 = .ok (.aload_n 0, 1) := by decide +kernel
theorem dL_flowSo_204 : decode cL_flowSo 204 = .ok (.getfield 56, 3) := by decide +kernel
theorem dL_flowSo_207 : decode cL_flowSo 207 = .ok (.ishl, 1) := by decide +kernel
theorem dL_flowSo_208 : decode cL_flowSo 208 = .ok (.if_icmp .ge 60, 3) := by decide +kernel
theorem dL_flowSo_211 : decode cL_flowSo 211 = .ok (.iload 6, 2) := by decide +kernel
theorem dL_flowSo_213 : decode cL_flowSo 213 = .ok (.ifCond .eq 55, 3) := by decide +kernel
theorem dL_flowSo_216 : decode cL_flowSo 216 = .ok (.aload_n 0, 1) := by decide +kernel
theorem dL_flowSo_217 : decode cL_flowSo 217 = .ok (.iload 7, 2) := by decide +kernel
theorem dL_flowSo_219 : decode cL_flowSo 219 = .ok (.iload_n 1, 1) := by decide +kernel
theorem dL_flowSo_220 : decode cL_flowSo 220 = .ok (.invokevirtual 92, 3) := by decide +kernel
theorem dL_flowSo_223 : decode cL_flowSo 223 = .ok (.ifCond .eq 32, 3) := by decide +kernel
theorem dL_flowSo_226 : decode cL_flowSo 226 = .ok (.aload_n 0, 1) := by decide +kernel
theorem dL_flowSo_227 : decode cL_flowSo 227 = .ok (.iload 7, 2) := by decide +kernel
theorem dL_flowSo_229 : decode cL_flowSo 229 = .ok (.iload_n 2, 1) := by decide +kernel
theorem dL_flowSo_230 : decode cL_flowSo 230 = .ok (.invokevirtual 92, 3) := by decide +kernel
theorem dL_flowSo_233 : decode cL_flowSo 233 = .ok (.ifCond .ne 22, 3) := by decide +kernel
theorem dL_flowSo_236 : decode cL_flowSo 236 = .ok (.aload_n 0, 1) := by decide +kernel
theorem dL_flowSo_237 : decode cL_flowSo 237 = .ok (.iload 7, 2) := by decide +kernel
theorem dL_flowSo_239 : decode cL_flowSo 239 = .ok (.iconst 3, 1) := by decide +kernel
theorem dL_flowSo_240 : decode cL_flowSo 240 = .ok (.invokevirtual 105, 3) := by decide +kernel
theorem dL_flowSo_243 : decode cL_flowSo 243 = .ok (.aload_n 0, 1) := by decide +kernel
theorem dL_flowSo_244 : decode cL_flowSo 244 = .ok (.iload 7, 2) := by decide +kernel
theorem dL_flowSo_246 : decode cL_flowSo 246 = .ok (.iconst 2, 1) := by decide +kernel
theorem dL_flowSo_247 : decode cL_flowSo 247 = .ok (.invokevirtual 108, 3) := by decide +kernel
theorem dL_flowSo_250 : decode cL_flowSo 250 = .ok (.isub, 1) := by decide +kernel
theorem dL_flowSo_251 : decode cL_flowSo 251 = .ok (.iload_n 3, 1) := by decide +kernel
theorem dL_flowSo_252 : decode cL_flowSo 252 = .ok (.if_icmp .lt 7, 3) := by decide +kernel
theorem dL_flowSo_255 : decode cL_flowSo 255 = .ok (.iconst 1, 1) := by decide +kernel
theorem dL_flowSo_256 : decode cL_flowSo 256 = .ok (.goto 4, 3) := by decide +kernel
theorem dL_flowSo_259 : decode cL_flowSo 259 = .ok (.iconst 0, 1) := by decide +kernel
theorem dL_flowSo_260 : decode cL_flowSo 260 = .ok (.istore 6, 2) := by decide +kernel
theorem dL_flowSo_262 : decode cL_flowSo 262 = .ok (.iinc 7 1, 3) := by decide +kernel
theorem dL_flowSo_265 : decode cL_flowSo 265 = .ok (.goto (-65), 3) := by decide +kernel
theorem dL_flowSo_268 : decode cL_flowSo 268 = .ok (.aload_n 0, 1) := by decide +kernel
theorem dL_flowSo_269 : decode cL_flowSo 269 = .ok (.getfield 19, 3) := by decide +kernel
theorem dL_flowSo_272 : decode cL_flowSo 272 = .ok (.invokevirtual 122, 3) := by decide +kernel
theorem dL_flowSo_275 : decode cL_flowSo 275 = .ok (.newarray .int, 2) := by decide +kernel
theorem dL_flowSo_277 : decode cL_flowSo 277 = .ok (.astore 7, 2) := by decide +kernel
theorem dL_flowSo_279 : decode cL_flowSo 279 = .ok (.aload_n 0, 1) := by decide +kernel
theorem dL_flowSo_280 : decode cL_flowSo 280 = .ok (.getfield 19, 3) := by decide +kernel
theorem dL_flowSo_283 : decode cL_flowSo 283 = .ok (.invokevirtual 122, 3) := by decide +kernel
theorem dL_flowSo_286 : decode cL_flowSo 286 = .ok (.newarray .int, 2) := by decide +kernel
theorem dL_flowSo_288 : decode cL_flowSo 288 = .ok (.astore 8, 2) := by decide +kernel
theorem dL_flowSo_290 : decode cL_flowSo 290 = .ok (.iconst 0, 1) := by decide +kernel
theorem dL_flowSo_291 : decode cL_flowSo 291 = .ok (.istore 9, 2) := by decide +kernel
theorem dL_flowSo_293 : decode cL_flowSo 293 = .ok (.iconst 0, 1) := by decide +kernel
theorem dL_flowSo_294 : decode cL_flowSo 294 = .ok (.istore 10, 2) := by decide +kernel
theorem dL_flowSo_296 : decode cL_flowSo 296 = .ok (.iconst 0, 1) := by decide +kernel
theorem dL_flowSo_297 : decode cL_flowSo 297 = .ok (.istore 11, 2) := by decide +kernel
theorem dL_flowSo_299 : decode cL_flowSo 299 = .ok (.iload 11, 2) := by decide +kernel
theorem dL_flowSo_301 : decode cL_flowSo 301 = .ok (.aload 7, 2) := by decide +kernel
theorem dL_flowSo_303 : decode cL_flowSo 303 = .ok (.arraylength, 1) := by decide +kernel
theorem dL_flowSo_304 : decode cL_flowSo 304 = .ok (.if_icmp .ge 164, 3) := by decide +kernel
theorem dL_flowSo_307 : decode cL_flowSo 307 = .ok (.aload 7, 2) := by decide +kernel
theorem dL_flowSo_309 : decode cL_flowSo 309 = .ok (.iload 11, 2) := by decide +kernel
theorem dL_flowSo_311 : decode cL_flowSo 311 = .ok (.aload_n 0, 1) := by decide +kernel
theorem dL_flowSo_312 : decode cL_flowSo 312 = .ok (.getfield 10, 3) := by decide +kernel
theorem dL_flowSo_315 : decode cL_flowSo 315 = .ok (.iconst 0, 1) := by decide +kernel
theorem dL_flowSo_316 : decode cL_flowSo 316 = .ok (.iload_n 1, 1) := by decide +kernel
theorem dL_flowSo_317 : decode cL_flowSo 317 = .ok (.iload_n 2, 1) := by decide +kernel
theorem dL_flowSo_318 : decode cL_flowSo 318 = .ok (.iload 11, 2) := by decide +kernel
theorem dL_flowSo_320 : decode cL_flowSo 320 = .ok (.invokevirtual 126, 3) := by decide +kernel
theorem dL_flowSo_323 : decode cL_flowSo 323 = .ok (.iastore, 1) := by decide +kernel
theorem dL_flowSo_324 : decode cL_flowSo 324 = .ok (.aload 8, 2) := by decide +kernel
theorem dL_flowSo_326 : decode cL_flowSo 326 = .ok (.iload 11, 2) := by decide +kernel
theorem dL_flowSo_328 : decode cL_flowSo 328 = .ok (.aload_n 0, 1) := by decide +kernel
theorem dL_flowSo_329 : decode cL_flowSo 329 = .ok (.getfield 10, 3) := by decide +kernel
theorem dL_flowSo_332 : decode cL_flowSo 332 = .ok (.iconst 0, 1) := by decide +kernel
theorem dL_flowSo_333 : decode cL_flowSo 333 = .ok (.iload_n 1, 1) := by decide +kernel
theorem dL_flowSo_334 : decode cL_flowSo 334 = .ok (.iload_n 2, 1) := by decide +kernel
theorem dL_flowSo_335 : decode cL_flowSo 335 = .ok (.iload 11, 2) := by decide +kernel
theorem dL_flowSo_337 : decode cL_flowSo 337 = .ok (.invokevirtual 129, 3) := by decide +kernel
theorem dL_flowSo_340 : decode cL_flowSo 340 = .ok (.iastore, 1) := by decide +kernel
theorem dL_flowSo_341 : decode cL_flowSo 341 = .ok (.iload 9, 2) := by decide +kernel
theorem dL_flowSo_343 : decode cL_flowSo 343 = .ok (.aload 7, 2) := by decide +kernel
theorem dL_flowSo_345 : decode cL_flowSo 345 = .ok (.iload 11, 2) := by decide +kernel
theorem dL_flowSo_347 : decode cL_flowSo 347 = .ok (.iaload, 1) := by decide +kernel
theorem dL_flowSo_348 : decode cL_flowSo 348 = .ok (.aload_n 0, 1) := by decide +kernel
theorem dL_flowSo_349 : decode cL_flowSo 349 = .ok (.getfield 19, 3) := by decide +kernel
theorem dL_flowSo_352 : decode cL_flowSo 352 = .ok (.iload 11, 2) := by decide +kernel
theorem dL_flowSo_354 : decode cL_flowSo 354 = .ok (.invokevirtual 70, 3) := by decide +kernel
theorem dL_flowSo_357 : decode cL_flowSo 357 = .ok (.checkcast 74, 3) := by decide +kernel
theorem dL_flowSo_360 : decode cL_flowSo 360 = .ok (.iconst 4, 1) := by decide +kernel
theorem dL_flowSo_361 : decode cL_flowSo 361 = .ok (.iaload, 1) := by decide +kernel
theorem dL_flowSo_362 : decode cL_flowSo 362 = .ok (.imul, 1) := by decide +kernel
theorem dL_flowSo_363 : decode cL_flowSo 363 = .ok (.iadd, 1) := by decide +kernel
theorem dL_flowSo_364 : decode cL_flowSo 364 = .ok (.istore 9, 2) := by decide +kernel
theorem dL_flowSo_366 : decode cL_flowSo 366 = .ok (.iload 10, 2) := by decide +kernel
theorem dL_flowSo_368 : decode cL_flowSo 368 = .ok (.aload 8, 2) := by decide +kernel
theorem dL_flowSo_370 : decode cL_flowSo 370 = .ok (.iload 11, 2) := by decide +kernel
theorem dL_flowSo_372 : decode cL_flowSo 372 = .ok (.iaload, 1) := by decide +kernel
theorem dL_flowSo_373 : decode cL_flowSo 373 = .ok (.aload_n 0, 1) := by decide +kernel
theorem dL_flowSo_374 : decode cL_flowSo 374 = .ok (.getfield 19, 3) := by decide +kernel
theorem dL_flowSo_377 : decode cL_flowSo 377 = .ok (.iload 11, 2) := by decide +kernel
theorem dL_flowSo_379 : decode cL_flowSo 379 = .ok (.invokevirtual 70, 3) := by decide +kernel
theorem dL_flowSo_382 : decode cL_flowSo 382 = .ok (.checkcast 74, 3) := by decide +kernel
theorem dL_flowSo_385 : decode cL_flowSo 385 = .ok (.iconst 4, 1) := by decide +kernel
theorem dL_flowSo_386 : decode cL_flowSo 386 = .ok (.iaload, 1) := by decide +kernel
theorem dL_flowSo_387 : decode cL_flowSo 387 = .ok (.imul, 1) := by decide +kernel
theorem dL_flowSo_388 : decode cL_flowSo 388 = .ok (.iadd, 1) := by decide +kernel
theorem dL_flowSo_389 : decode cL_flowSo 389 = .ok (.istore 10, 2) := by decide +kernel
theorem dL_flowSo_391 : decode cL_flowSo 391 = .ok (.iload 6, 2) := by decide +kernel
theorem dL_flowSo_393 : decode cL_flowSo 393 = .ok (.ifCond .eq 66, 3) := by decide +kernel
theorem dL_flowSo_396 : decode cL_flowSo 396 = .ok (.aload_n 0, 1) := by decide +kernel
theorem dL_flowSo_397 : decode cL_flowSo 397 = .ok (.getfield 10, 3) := by decide +kernel
theorem dL_flowSo_400 : decode cL_flowSo 400 = .ok (.iconst 0, 1) := by decide +kernel
theorem dL_flowSo_401 : decode cL_flowSo 401 = .ok (.iload_n 1, 1) := by decide +kernel
theorem dL_flowSo_402 : decode cL_flowSo 402 = .ok (.iload_n 2, 1) := by decide +kernel
theorem dL_flowSo_403 : decode cL_flowSo 403 = .ok (.iload 11, 2) := by decide +kernel
theorem dL_flowSo_405 : decode cL_flowSo 405 = .ok (.invokevirtual 132, 3) := by decide +kernel
theorem dL_flowSo_408 : decode cL_flowSo 408 = .ok (.ifCond .eq 47, 3) := by decide +kernel
theorem dL_flowSo_411 : decode cL_flowSo 411 = .ok (.aload 7, 2) := by decide +kernel
theorem dL_flowSo_413 : decode cL_flowSo 413 = .ok (.iload 11, 2) := by decide +kernel
theorem dL_flowSo_415 : decode cL_flowSo 415 = .ok (.iaload, 1) := by decide +kernel
theorem dL_flowSo_416 : decode cL_flowSo 416 = .ok (.aload_n 0, 1) := by decide +kernel
theorem dL_flowSo_417 : decode cL_flowSo 417 = .ok (.getfield 19, 3) := by decide +kernel
theorem dL_flowSo_420 : decode cL_flowSo 420 = .ok (.iload 11, 2) := by decide +kernel
theorem dL_flowSo_422 : decode cL_flowSo 422 = .ok (.invokevirtual 70, 3) := by decide +kernel
theorem dL_flowSo_425 : decode cL_flowSo 425 = .ok (.checkcast 74, 3) := by decide +kernel
theorem dL_flowSo_428 : decode cL_flowSo 428 = .ok (.iconst 3, 1) := by decide +kernel
theorem dL_flowSo_429 : decode cL_flowSo 429 = .ok (.iaload, 1) := by decide +kernel
theorem dL_flowSo_430 : decode cL_flowSo 430 = .ok (.if_icmp .ne 29, 3) := by decide +kernel
theorem dL_flowSo_433 : decode cL_flowSo 433 = .ok (.aload 8, 2) := by decide +kernel
theorem dL_flowSo_435 : decode cL_flowSo 435 = .ok (.iload 11, 2) := by decide +kernel
theorem dL_flowSo_437 : decode cL_flowSo 437 = .ok (.iaload, 1) := by decide +kernel
theorem dL_flowSo_438 : decode cL_flowSo 438 = .ok (.aload_n 0, 1) := by decide +kernel
theorem dL_flowSo_439 : decode cL_flowSo 439 = .ok (.getfield 19, 3) := by decide +kernel
theorem dL_flowSo_442 : decode cL_flowSo 442 = .ok (.iload 11, 2) := by decide +kernel
theorem dL_flowSo_444 : decode cL_flowSo 444 = .ok (.invokevirtual 70, 3) := by decide +kernel
theorem dL_flowSo_447 : decode cL_flowSo 447 = .ok (.checkcast 74, 3) := by decide +kernel
theorem dL_flowSo_450 : decode cL_flowSo 450 = .ok (.iconst 3, 1) := by decide +kernel
theorem dL_flowSo_451 : decode cL_flowSo 451 = .ok (.iaload, 1) := by decide +kernel
theorem dL_flowSo_452 : decode cL_flowSo 452 = .ok (.if_icmp .ne 7, 3) := by decide +kernel
theorem dL_flowSo_455 : decode cL_flowSo 455 = .ok (.iconst 1, 1) := by decide +kernel
theorem dL_flowSo_456 : decode cL_flowSo 456 = .ok (.goto 4, 3) := by decide +kernel
theorem dL_flowSo_459 : decode cL_flowSo 459 = .ok (.iconst 0, 1) := by decide +kernel
theorem dL_flowSo_460 : decode cL_flowSo 460 = .ok (.istore 6, 2) := by decide +kernel
theorem dL_flowSo_462 : decode cL_flowSo 462 = .ok (.iinc 11 1, 3) := by decide +kernel
theorem dL_flowSo_465 : decode cL_flowSo 465 = .ok (.goto (-166), 3) := by decide +kernel
theorem dL_flowSo_468 : decode cL_flowSo 468 = .ok (.iload 6, 2) := by decide +kernel
theorem dL_flowSo_470 : decode cL_flowSo 470 = .ok (.ifCond .eq 86, 3) := by decide +kernel
theorem dL_flowSo_473 : decode cL_flowSo 473 = .ok (.aload_n 0, 1) := by decide +kernel
theorem dL_flowSo_474 : decode cL_flowSo 474 = .ok (.aload 7, 2) := by decide +kernel
theorem dL_flowSo_476 : decode cL_flowSo 476 = .ok (.iload_n 1, 1) := by decide +kernel
theorem dL_flowSo_477 : decode cL_flowSo 477 = .ok (.iload_n 2, 1) := by decide +kernel
theorem dL_flowSo_478 : decode cL_flowSo 478 = .ok (.iload_n 3, 1) := by decide +kernel
theorem dL_flowSo_479 : decode cL_flowSo 479 = .ok (.invokevirtual 136, 3) := by decide +kernel
theorem dL_flowSo_482 : decode cL_flowSo 482 = .ok (.ifCond .eq 74, 3) := by decide +kernel
theorem dL_flowSo_485 : decode cL_flowSo 485 = .ok (.aload_n 0, 1) := by decide +kernel
theorem dL_flowSo_486 : decode cL_flowSo 486 = .ok (.aload 8, 2) := by decide +kernel
theorem dL_flowSo_488 : decode cL_flowSo 488 = .ok (.iload_n 1, 1) := by decide +kernel
theorem dL_flowSo_489 : decode cL_flowSo 489 = .ok (.iload_n 2, 1) := by decide +kernel
theorem dL_flowSo_490 : decode cL_flowSo 490 = .ok (.iload_n 3, 1) := by decide +kernel
theorem dL_flowSo_491 : decode cL_flowSo 491 = .ok (.invokevirtual 136, 3) := by decide +kernel
theorem dL_flowSo_494 : decode cL_flowSo 494 = .ok (.ifCond .eq 62, 3) := by decide +kernel
theorem dL_flowSo_497 : decode cL_flowSo 497 = .ok (.aload_n 0, 1) := by decide +kernel
theorem dL_flowSo_498 : decode cL_flowSo 498 = .ok (.aload 7, 2) := by decide +kernel
theorem dL_flowSo_500 : decode cL_flowSo 500 = .ok (.iload 4, 2) := by decide +kernel
theorem dL_flowSo_502 : decode cL_flowSo 502 = .ok (.invokevirtual 140, 3) := by decide +kernel
theorem dL_flowSo_505 : decode cL_flowSo 505 = .ok (.ifCond .eq 51, 3) := by decide +kernel
theorem dL_flowSo_508 : decode cL_flowSo 508 = .ok (.aload_n 0, 1) := by decide +kernel
theorem dL_flowSo_509 : decode cL_flowSo 509 = .ok (.aload 7, 2) := by decide +kernel
theorem dL_flowSo_511 : decode cL_flowSo 511 = .ok (.iload 5, 2) := by decide +kernel
theorem dL_flowSo_513 : decode cL_flowSo 513 = .ok (.invokevirtual 140, 3) := by decide +kernel
theorem dL_flowSo_516 : decode cL_flowSo 516 = .ok (.ifCond .eq 40, 3) := by decide +kernel
theorem dL_flowSo_519 : decode cL_flowSo 519 = .ok (.aload_n 0, 1) := by decide +kernel
theorem dL_flowSo_520 : decode cL_flowSo 520 = .ok (.aload 8, 2) := by decide +kernel
theorem dL_flowSo_522 : decode cL_flowSo 522 = .ok (.iload 4, 2) := by decide +kernel
theorem dL_flowSo_524 : decode cL_flowSo 524 = .ok (.invokevirtual 140, 3) := by decide +kernel
theorem dL_flowSo_527 : decode cL_flowSo 527 = .ok (.ifCond .eq 29, 3) := by decide +kernel
theorem dL_flowSo_530 : decode cL_flowSo 530 = .ok (.iload 10, 2) := by decide +kernel
theorem dL_flowSo_532 : decode cL_flowSo 532 = .ok (.aload_n 0, 1) := by decide +kernel
theorem dL_flowSo_533 : decode cL_flowSo 533 = .ok (.getfield 10, 3) := by decide +kernel
theorem dL_flowSo_536 : decode cL_flowSo 536 = .ok (.iconst 0, 1) := by decide +kernel
theorem dL_flowSo_537 : decode cL_flowSo 537 = .ok (.iload_n 1, 1) := by decide +kernel
theorem dL_flowSo_538 : decode cL_flowSo 538 = .ok (.iload_n 2, 1) := by decide +kernel
theorem dL_flowSo_539 : decode cL_flowSo 539 = .ok (.invokevirtual 144, 3) := by decide +kernel
theorem dL_flowSo_542 : decode cL_flowSo 542 = .ok (.if_icmp .ne 14, 3) := by decide +kernel
theorem dL_flowSo_545 : decode cL_flowSo 545 = .ok (.iload 10, 2) := by decide +kernel
theorem dL_flowSo_547 : decode cL_flowSo 547 = .ok (.iload 9, 2) := by decide +kernel
theorem dL_flowSo_549 : decode cL_flowSo 549 = .ok (.if_icmp .gt 7, 3) := by decide +kernel
theorem dL_flowSo_552 : decode cL_flowSo 552 = .ok (.iconst 1, 1) := by decide +kernel
theorem dL_flowSo_553 : decode cL_flowSo 553 = .ok (.goto 4, 3) := by decide +kernel
theorem dL_flowSo_556 : decode cL_flowSo 556 = .ok (.iconst 0, 1) := by decide +kernel
theorem dL_flowSo_557 : decode cL_flowSo 557 = .ok (.istore 6, 2) := by decide +kernel
theorem dL_flowSo_559 : decode cL_flowSo 559 = .ok (.iload 6, 2) := by decide +kernel
theorem dL_flowSo_561 : decode cL_flowSo 561 = .ok (.ifCond .eq 28, 3) := by decide +kernel
theorem dL_flowSo_564 : decode cL_flowSo 564 = .ok (.aload_n 0, 1) := by decide +kernel
theorem dL_flowSo_565 : decode cL_flowSo 565 = .ok (.aload 8, 2) := by decide +kernel
theorem dL_flowSo_567 : decode cL_flowSo 567 = .ok (.iload_n 1, 1) := by decide +kernel
theorem dL_flowSo_568 : decode cL_flowSo 568 = .ok (.iload_n 2, 1) := by decide +kernel
theorem dL_flowSo_569 : decode cL_flowSo 569 = .ok (.invokevirtual 147, 3) := by decide +kernel
theorem dL_flowSo_572 : decode cL_flowSo 572 = .ok (.ifCond .eq 17, 3) := by decide +kernel
theorem dL_flowSo_575 : decode cL_flowSo 575 = .ok (.aload_n 0, 1) := by decide +kernel
theorem dL_flowSo_576 : decode cL_flowSo 576 = .ok (.iload_n 1, 1) := by decide +kernel
theorem dL_flowSo_577 : decode cL_flowSo 577 = .ok (.iload_n 2, 1) := by decide +kernel
theorem dL_flowSo_578 : decode cL_flowSo 578 = .ok (.iload_n 3, 1) := by decide +kernel
theorem dL_flowSo_579 : decode cL_flowSo 579 = .ok (.invokevirtual 151, 3) := by decide +kernel
theorem dL_flowSo_582 : decode cL_flowSo 582 = .ok (.ifCond .eq 7, 3) := by decide +kernel
theorem dL_flowSo_585 : decode cL_flowSo 585 = .ok (.iconst 1, 1) := by decide +kernel
theorem dL_flowSo_586 : decode cL_flowSo 586 = .ok (.goto 4, 3) := by decide +kernel
theorem dL_flowSo_589 : decode cL_flowSo 589 = .ok (.iconst 0, 1) := by decide +kernel
theorem dL_flowSo_590 : decode cL_flowSo 590 = .ok (.ireturn, 1) := by decide +kernel
theorem dL_demandsSo_0 : decode cL_demandsSo 0 = .ok (.iconst 0, 1) := by decide +kernel
theorem dL_demandsSo_1 : decode cL_demandsSo 1 = .ok (.istore_n 1, 1) := by decide +kernel
theorem dL_demandsSo_2 : decode cL_demandsSo 2 = .ok (.iconst 0, 1) := by decide +kernel
theorem dL_demandsSo_3 : decode cL_demandsSo 3 = .ok (.istore_n 2, 1) := by decide +kernel
theorem dL_demandsSo_4 : decode cL_demandsSo 4 = .ok (.iload_n 2, 1) := by decide +kernel
theorem dL_demandsSo_5 : decode cL_demandsSo 5 = .ok (.aload_n 0, 1) := by decide +kernel
theorem dL_demandsSo_6 : decode cL_demandsSo 6 = .ok (.getfield 56, 3) := by decide +kernel
theorem dL_demandsSo_9 : decode cL_demandsSo 9 = .ok (.if_icmp .ge 56, 3) := by decide +kernel
theorem dL_demandsSo_12 : decode cL_demandsSo 12 = .ok (.iload_n 2, 1) := by decide +kernel
theorem dL_demandsSo_13 : decode cL_demandsSo 13 = .ok (.aload_n 0, 1) := by decide +kernel
theorem dL_demandsSo_14 : decode cL_demandsSo 14 = .ok (.getfield 56, 3) := by decide +kernel
theorem dL_demandsSo_17 : decode cL_demandsSo 17 = .ok (.iconst 1, 1) := by decide +kernel
theorem dL_demandsSo_18 : decode cL_demandsSo 18 = .ok (.isub, 1) := by decide +kernel
theorem dL_demandsSo_19 : decode cL_demandsSo 19 = .ok (.if_icmp .ne 16, 3) := by decide +kernel
theorem dL_demandsSo_22 : decode cL_demandsSo 22 = .ok (.aload_n 0, 1) := by decide +kernel
theorem dL_demandsSo_23 : decode cL_demandsSo 23 = .ok (.iconst 5, 1) := by decide +kernel
theorem dL_demandsSo_24 : decode cL_demandsSo 24 = .ok (.invokevirtual 52, 3) := by decide +kernel
theorem dL_demandsSo_27 : decode cL_demandsSo 27 = .ok (.ifCond .le 8, 3) := by decide +kernel
theorem dL_demandsSo_30 : decode cL_demandsSo 30 = .ok (.iload_n 1, 1) := by decide +kernel
theorem dL_demandsSo_31 : decode cL_demandsSo 31 = .ok (.ineg, 1) := by decide +kernel
theorem dL_demandsSo_32 : decode cL_demandsSo 32 = .ok (.goto 11, 3) := by decide +kernel
theorem dL_demandsSo_35 : decode cL_demandsSo 35 = .ok (.aload_n 0, 1) := by decide +kernel
theorem dL_demandsSo_36 : decode cL_demandsSo 36 = .ok (.bipush 7, 2) := by decide +kernel
theorem dL_demandsSo_38 : decode cL_demandsSo 38 = .ok (.invokevirtual 52, 3) := by decide +kernel
theorem dL_demandsSo_41 : decode cL_demandsSo 41 = .ok (.iconst 3, 1) := by decide +kernel
theorem dL_demandsSo_42 : decode cL_demandsSo 42 = .ok (.isub, 1) := by decide +kernel
theorem dL_demandsSo_43 : decode cL_demandsSo 43 = .ok (.istore_n 3, 1) := by decide +kernel
theorem dL_demandsSo_44 : decode cL_demandsSo 44 = .ok (.aload_n 0, 1) := by decide +kernel
theorem dL_demandsSo_45 : decode cL_demandsSo 45 = .ok (.getfield 10, 3) := by decide +kernel
theorem dL_demandsSo_48 : decode cL_demandsSo 48 = .ok (.iconst 0, 1) := by decide +kernel
theorem dL_demandsSo_49 : decode cL_demandsSo 49 = .ok (.iload_n 2, 1) := by decide +kernel
theorem dL_demandsSo_50 : decode cL_demandsSo 50 = .ok (.iload_n 3, 1) := by decide +kernel
theorem dL_demandsSo_51 : decode cL_demandsSo 51 = .ok (.invokevirtual 183, 3) := by decide +kernel
theorem dL_demandsSo_54 : decode cL_demandsSo 54 = .ok (.pop, 1) := by decide +kernel
theorem dL_demandsSo_55 : decode cL_demandsSo 55 = .ok (.iload_n 1, 1) := by decide +kernel
theorem dL_demandsSo_56 : decode cL_demandsSo 56 = .ok (.iload_n 3, 1) := by decide +kernel
theorem dL_demandsSo_57 : decode cL_demandsSo 57 = .ok (.iadd, 1) := by decide +kernel
theorem dL_demandsSo_58 : decode cL_demandsSo 58 = .ok (.istore_n 1, 1) := by decide +kernel
theorem dL_demandsSo_59 : decode cL_demandsSo 59 = .ok (.iinc 2 1, 3) := by decide +kernel
theorem dL_demandsSo_62 : decode cL_demandsSo 62 = .ok (.goto (-58), 3) := by decide +kernel
theorem dL_demandsSo_65 : decode cL_demandsSo 65 = .ok (.aload_n 0, 1) := by decide +kernel
theorem dL_demandsSo_66 : decode cL_demandsSo 66 = .ok (.getfield 56, 3) := by decide +kernel
theorem dL_demandsSo_69 : decode cL_demandsSo 69 = .ok (.newarray .int, 2) := by decide +kernel
theorem dL_demandsSo_71 : decode cL_demandsSo 71 = .ok (.astore_n 2, 1) := by decide +kernel
theorem dL_demandsSo_72 : decode cL_demandsSo 72 = .ok (.iconst 0, 1) := by decide +kernel
theorem dL_demandsSo_73 : decode cL_demandsSo 73 = .ok (.istore_n 3, 1) := by decide +kernel
theorem dL_demandsSo_74 : decode cL_demandsSo 74 = .ok (.iload_n 3, 1) := by decide +kernel
theorem dL_demandsSo_75 : decode cL_demandsSo 75 = .ok (.aload_n 0, 1) := by decide +kernel
theorem dL_demandsSo_76 : decode cL_demandsSo 76 = .ok (.getfield 56, 3) := by decide +kernel
theorem dL_demandsSo_79 : decode cL_demandsSo 79 = .ok (.if_icmp .ge 35, 3) := by decide +kernel
theorem dL_demandsSo_82 : decode cL_demandsSo 82 = .ok (.aload_n 2, 1) := by decide +kernel
theorem dL_demandsSo_83 : decode cL_demandsSo 83 = .ok (.iload_n 3, 1) := by decide +kernel
theorem dL_demandsSo_84 : decode cL_demandsSo 84 = .ok (.aload_n 0, 1) := by decide +kernel
theorem dL_demandsSo_85 : decode cL_demandsSo 85 = .ok (.getfield 10, 3) := by decide +kernel
theorem dL_demandsSo_88 : decode cL_demandsSo 88 = .ok (.iconst 0, 1) := by decide +kernel
theorem dL_demandsSo_89 : decode cL_demandsSo 89 = .ok (.iload_n 3, 1) := by decide +kernel
theorem dL_demandsSo_90 : decode cL_demandsSo 90 = .ok (.iconst 0, 1) := by decide +kernel
theorem dL_demandsSo_91 : decode cL_demandsSo 91 = .ok (.invokevirtual 183, 3) := by decide +kernel
theorem dL_demandsSo_94 : decode cL_demandsSo 94 = .ok (.iastore, 1) := by decide +kernel
theorem dL_demandsSo_95 : decode cL_demandsSo 95 = .ok (.aload_n 0, 1) := by decide +kernel
theorem dL_demandsSo_96 : decode cL_demandsSo 96 = .ok (.getfield 10, 3) := by decide +kernel
theorem dL_demandsSo_99 : decode cL_demandsSo 99 = .ok (.iconst 0, 1) := by decide +kernel
theorem dL_demandsSo_100 : decode cL_demandsSo 100 = .ok (.iload_n 3, 1) := by decide +kernel
theorem dL_demandsSo_101 : decode cL_demandsSo 101 = .ok (.aload_n 2, 1) := by decide +kernel
theorem dL_demandsSo_102 : decode cL_demandsSo 102 = .ok (.iload_n 3, 1) := by decide +kernel
theorem dL_demandsSo_103 : decode cL_demandsSo 103 = .ok (.iaload, 1) := by decide +kernel
theorem dL_demandsSo_104 : decode cL_demandsSo 104 = .ok (.invokevirtual 183, 3) := by decide +kernel
theorem dL_demandsSo_107 : decode cL_demandsSo 107 = .ok (.pop, 1) := by decide +kernel
theorem dL_demandsSo_108 : decode cL_demandsSo 108 = .ok (.iinc 3 1, 3) := by decide +kernel
theorem dL_demandsSo_111 : decode cL_demandsSo 111 = .ok (.goto (-37), 3) := by decide +kernel
theorem dL_demandsSo_114 : decode cL_demandsSo 114 = .ok (.aload_n 0, 1) := by decide +kernel
theorem dL_demandsSo_115 : decode cL_demandsSo 115 = .ok (.getfield 10, 3) := by decide +kernel
theorem dL_demandsSo_118 : decode cL_demandsSo 118 = .ok (.iconst 0, 1) := by decide +kernel
theorem dL_demandsSo_119 : decode cL_demandsSo 119 = .ok (.invokevirtual 186, 3) := by decide +kernel
theorem dL_demandsSo_122 : decode cL_demandsSo 122 = .ok (.ifCond .ne 98, 3) := by decide +kernel
theorem dL_demandsSo_125 : decode cL_demandsSo 125 = .ok (.aload_n 0, 1) := by decide +kernel
theorem dL_demandsSo_126 : decode cL_demandsSo 126 = .ok (.getfield 10, 3) := by decide +kernel
theorem dL_demandsSo_129 : decode cL_demandsSo 129 = .ok (.iconst 0, 1) := by decide +kernel
theorem dL_demandsSo_130 : decode cL_demandsSo 130 = .ok (.invokevirtual 190, 3) := by decide +kernel
theorem dL_demandsSo_133 : decode cL_demandsSo 133 = .ok (.istore_n 3, 1) := by decide +kernel
theorem dL_demandsSo_134 : decode cL_demandsSo 134 = .ok (.iconst 0, 1) := by decide +kernel
theorem dL_demandsSo_135 : decode cL_demandsSo 135 = .ok (.istore 4, 2) := by decide +kernel
theorem dL_demandsSo_137 : decode cL_demandsSo 137 = .ok (.iconst 0, 1) := by decide +kernel
theorem dL_demandsSo_138 : decode cL_demandsSo 138 = .ok (.istore 5, 2) := by decide +kernel
theorem dL_demandsSo_140 : decode cL_demandsSo 140 = .ok (.iload 5, 2) := by decide +kernel
theorem dL_demandsSo_142 : decode cL_demandsSo 142 = .ok (.aload_n 0, 1) := by decide +kernel
theorem dL_demandsSo_143 : decode cL_demandsSo 143 = .ok (.getfield 56, 3) := by decide +kernel
theorem dL_demandsSo_146 : decode cL_demandsSo 146 = .ok (.if_icmp .ge 32, 3) := by decide +kernel
theorem dL_demandsSo_149 : decode cL_demandsSo 149 = .ok (.iload 4, 2) := by decide +kernel
theorem dL_demandsSo_151 : decode cL_demandsSo 151 = .ok (.aload_n 0, 1) := by decide +kernel
theorem dL_demandsSo_152 : decode cL_demandsSo 152 = .ok (.iload_n 3, 1) := by decide +kernel
theorem dL_demandsSo_153 : decode cL_demandsSo 153 = .ok (.iload 5, 2) := by decide +kernel
theorem dL_demandsSo_155 : decode cL_demandsSo 155 = .ok (.invokevirtual 92, 3) := by decide +kernel
theorem dL_demandsSo_158 : decode cL_demandsSo 158 = .ok (.ifCond .eq 10, 3) := by decide +kernel
theorem dL_demandsSo_161 : decode cL_demandsSo 161 = .ok (.aload_n 2, 1) := by decide +kernel
theorem dL_demandsSo_162 : decode cL_demandsSo 162 = .ok (.iload 5, 2) := by decide +kernel
theorem dL_demandsSo_164 : decode cL_demandsSo 164 = .ok (.iaload, 1) := by decide +kernel
theorem dL_demandsSo_165 : decode cL_demandsSo 165 = .ok (.goto 4, 3) := by decide +kernel
theorem dL_demandsSo_168 : decode cL_demandsSo 168 = .ok (.iconst 0, 1) := by decide +kernel
theorem dL_demandsSo_169 : decode cL_demandsSo 169 = .ok (.iadd, 1) := by decide +kernel
theorem dL_demandsSo_170 : decode cL_demandsSo 170 = .ok (.istore 4, 2) := by decide +kernel
theorem dL_demandsSo_172 : decode cL_demandsSo 172 = .ok (.iinc 5 1, 3) := by decide +kernel
theorem dL_demandsSo_175 : decode cL_demandsSo 175 = .ok (.goto (-35), 3) := by decide +kernel
theorem dL_demandsSo_178 : decode cL_demandsSo 178 = .ok (.iload 4, 2) := by decide +kernel
theorem dL_demandsSo_180 : decode cL_demandsSo 180 = .ok (.aload_n 0, 1) := by decide +kernel
theorem dL_demandsSo_181 : decode cL_demandsSo 181 = .ok (.iload_n 3, 1) := by decide +kernel
theorem dL_demandsSo_182 : decode cL_demandsSo 182 = .ok (.iconst 3, 1) := by decide +kernel
theorem dL_demandsSo_183 : decode cL_demandsSo 183 = .ok (.invokevirtual 105, 3) := by decide +kernel
theorem dL_demandsSo_186 : decode cL_demandsSo 186 = .ok (.aload_n 0, 1) := by decide +kernel
theorem dL_demandsSo_187 : decode cL_demandsSo 187 = .ok (.iload_n 3, 1) := by decide +kernel
theorem dL_demandsSo_188 : decode cL_demandsSo 188 = .ok (.iconst 2, 1) := by decide +kernel
theorem dL_demandsSo_189 : decode cL_demandsSo 189 = .ok (.invokevirtual 108, 3) := by decide +kernel
theorem dL_demandsSo_192 : decode cL_demandsSo 192 = .ok (.isub, 1) := by decide +kernel
theorem dL_demandsSo_193 : decode cL_demandsSo 193 = .ok (.if_icmp .gt 21, 3) := by decide +kernel
theorem dL_demandsSo_196 : decode cL_demandsSo 196 = .ok (.iload 4, 2) := by decide +kernel
theorem dL_demandsSo_198 : decode cL_demandsSo 198 = .ok (.aload_n 0, 1) := by decide +kernel
theorem dL_demandsSo_199 : decode cL_demandsSo 199 = .ok (.iload_n 3, 1) := by decide +kernel
theorem dL_demandsSo_200 : decode cL_demandsSo 200 = .ok (.iconst 2, 1) := by decide +kernel
theorem dL_demandsSo_201 : decode cL_demandsSo 201 = .ok (.invokevirtual 105, 3) := by decide +kernel
theorem dL_demandsSo_204 : decode cL_demandsSo 204 = .ok (.aload_n 0, 1) := by decide +kernel
theorem dL_demandsSo_205 : decode cL_demandsSo 205 = .ok (.iload_n 3, 1) := by decide +kernel
theorem dL_demandsSo_206 : decode cL_demandsSo 206 = .ok (.iconst 3, 1) := by decide +kernel
theorem dL_demandsSo_207 : decode cL_demandsSo 207 = .ok (.invokevirtual 108, 3) := by decide +kernel
theorem dL_demandsSo_210 : decode cL_demandsSo 210 = .ok (.isub, 1) := by decide +kernel
theorem dL_demandsSo_211 : decode cL_demandsSo 211 = .ok (.if_icmp .ge 7, 3) := by decide +kernel
theorem dL_demandsSo_214 : decode cL_demandsSo 214 = .ok (.iconst 1, 1) := by decide +kernel
theorem dL_demandsSo_215 : decode cL_demandsSo 215 = .ok (.goto 4, 3) := by decide +kernel
theorem dL_demandsSo_218 : decode cL_demandsSo 218 = .ok (.iconst 0, 1) := by decide +kernel
theorem dL_demandsSo_219 : decode cL_demandsSo 219 = .ok (.ireturn, 1) := by decide +kernel
theorem dL_demandsSo_220 : decode cL_demandsSo 220 = .ok (.aload_n 0, 1) := by decide +kernel
theorem dL_demandsSo_221 : decode cL_demandsSo 221 = .ok (.getfield 19, 3) := by decide +kernel
theorem dL_demandsSo_224 : decode cL_demandsSo 224 = .ok (.invokevirtual 122, 3) := by decide +kernel
theorem dL_demandsSo_227 : decode cL_demandsSo 227 = .ok (.newarray .int, 2) := by decide +kernel
theorem dL_demandsSo_229 : decode cL_demandsSo 229 = .ok (.astore_n 3, 1) := by decide +kernel
theorem dL_demandsSo_230 : decode cL_demandsSo 230 = .ok (.iconst 1, 1) := by decide +kernel
theorem dL_demandsSo_231 : decode cL_demandsSo 231 = .ok (.istore 4, 2) := by decide +kernel
theorem dL_demandsSo_233 : decode cL_demandsSo 233 = .ok (.iconst 0, 1) := by decide +kernel
theorem dL_demandsSo_234 : decode cL_demandsSo 234 = .ok (.istore 5, 2) := by decide +kernel
theorem dL_demandsSo_236 : decode cL_demandsSo 236 = .ok (.iload 5, 2) := by decide +kernel
theorem dL_demandsSo_238 : decode cL_demandsSo 238 = .ok (.aload_n 3, 1) := by decide +kernel
theorem dL_demandsSo_239 : decode cL_demandsSo 239 = .ok (.arraylength, 1) := by decide +kernel
theorem dL_demandsSo_240 : decode cL_demandsSo 240 = .ok (.if_icmp .ge 77, 3) := by decide +kernel
theorem dL_demandsSo_243 : decode cL_demandsSo 243 = .ok (.aload_n 3, 1) := by decide +kernel
theorem dL_demandsSo_244 : decode cL_demandsSo 244 = .ok (.iload 5, 2) := by decide +kernel
theorem dL_demandsSo_246 : decode cL_demandsSo 246 = .ok (.aload_n 0, 1) := by decide +kernel
theorem dL_demandsSo_247 : decode cL_demandsSo 247 = .ok (.getfield 10, 3) := by decide +kernel
theorem dL_demandsSo_250 : decode cL_demandsSo 250 = .ok (.iconst 0, 1) := by decide +kernel
theorem dL_demandsSo_251 : decode cL_demandsSo 251 = .ok (.iload 5, 2) := by decide +kernel
theorem dL_demandsSo_253 : decode cL_demandsSo 253 = .ok (.invokevirtual 193, 3) := by decide +kernel
theorem dL_demandsSo_256 : decode cL_demandsSo 256 = .ok (.iastore, 1) := by decide +kernel
theorem dL_demandsSo_257 : decode cL_demandsSo 257 = .ok (.iload 4, 2) := by decide +kernel
theorem dL_demandsSo_259 : decode cL_demandsSo 259 = .ok (.ifCond .eq 49, 3) := by decide +kernel
theorem dL_demandsSo_262 : decode cL_demandsSo 262 = .ok (.aload_n 3, 1) := by decide +kernel
theorem dL_demandsSo_263 : decode cL_demandsSo 263 = .ok (.iload 5, 2) := by decide +kernel
theorem dL_demandsSo_265 : decode cL_demandsSo 265 = .ok (.iaload, 1) := by decide +kernel
theorem dL_demandsSo_266 : decode cL_demandsSo 266 = .ok (.aload_n 0, 1) := by decide +kernel
theorem dL_demandsSo_267 : decode cL_demandsSo 267 = .ok (.getfield 19, 3) := by decide +kernel
theorem dL_demandsSo_270 : decode cL_demandsSo 270 = .ok (.iload 5, 2) := by decide +kernel
theorem dL_demandsSo_272 : decode cL_demandsSo 272 = .ok (.invokevirtual 70, 3) := by decide +kernel
theorem dL_demandsSo_275 : decode cL_demandsSo 275 = .ok (.checkcast 74, 3) := by decide +kernel
theorem dL_demandsSo_278 : decode cL_demandsSo 278 = .ok (.iconst 2, 1) := by decide +kernel
theorem dL_demandsSo_279 : decode cL_demandsSo 279 = .ok (.iaload, 1) := by decide +kernel
theorem dL_demandsSo_280 : decode cL_demandsSo 280 = .ok (.if_icmp .lt 28, 3) := by decide +kernel
theorem dL_demandsSo_283 : decode cL_demandsSo 283 = .ok (.aload_n 3, 1) := by decide +kernel
theorem dL_demandsSo_284 : decode cL_demandsSo 284 = .ok (.iload 5, 2) := by decide +kernel
theorem dL_demandsSo_286 : decode cL_demandsSo 286 = .ok (.iaload, 1) := by decide +kernel
theorem dL_demandsSo_287 : decode cL_demandsSo 287 = .ok (.aload_n 0, 1) := by decide +kernel
theorem dL_demandsSo_288 : decode cL_demandsSo 288 = .ok (.getfield 19, 3) := by decide +kernel
theorem dL_demandsSo_291 : decode cL_demandsSo 291 = .ok (.iload 5, 2) := by decide +kernel
theorem dL_demandsSo_293 : decode cL_demandsSo 293 = .ok (.invokevirtual 70, 3) := by decide +kernel
theorem dL_demandsSo_296 : decode cL_demandsSo 296 = .ok (.checkcast 74, 3) := by decide +kernel
theorem dL_demandsSo_299 : decode cL_demandsSo 299 = .ok (.iconst 3, 1) := by decide +kernel
theorem dL_demandsSo_300 : decode cL_demandsSo 300 = .ok (.iaload, 1) := by decide +kernel
theorem dL_demandsSo_301 : decode cL_demandsSo 301 = .ok (.if_icmp .gt 7, 3) := by decide +kernel
theorem dL_demandsSo_304 : decode cL_demandsSo 304 = .ok (.iconst 1, 1) := by decide +kernel
theorem dL_demandsSo_305 : decode cL_demandsSo 305 = .ok (.goto 4, 3) := by decide +kernel
theorem dL_demandsSo_308 : decode cL_demandsSo 308 = .ok (.iconst 0, 1) := by decide +kernel
theorem dL_demandsSo_309 : decode cL_demandsSo 309 = .ok (.istore 4, 2) := by decide +kernel
theorem dL_demandsSo_311 : decode cL_demandsSo 311 = .ok (.iinc 5 1, 3) := by decide +kernel
theorem dL_demandsSo_314 : decode cL_demandsSo 314 = .ok (.goto (-78), 3) := by decide +kernel
theorem dL_demandsSo_317 : decode cL_demandsSo 317 = .ok (.iconst 0, 1) := by decide +kernel
theorem dL_demandsSo_318 : decode cL_demandsSo 318 = .ok (.istore 5, 2) := by decide +kernel
theorem dL_demandsSo_320 : decode cL_demandsSo 320 = .ok (.iload 5, 2) := by decide +kernel
theorem dL_demandsSo_322 : decode cL_demandsSo 322 = .ok (.aload_n 0, 1) := by decide +kernel
theorem dL_demandsSo_323 : decode cL_demandsSo 323 = .ok (.getfield 56, 3) := by decide +kernel
theorem dL_demandsSo_326 : decode cL_demandsSo 326 = .ok (.if_icmp .ge 35, 3) := by decide +kernel
theorem dL_demandsSo_329 : decode cL_demandsSo 329 = .ok (.iload 4, 2) := by decide +kernel
theorem dL_demandsSo_331 : decode cL_demandsSo 331 = .ok (.ifCond .eq 30, 3) := by decide +kernel
theorem dL_demandsSo_334 : decode cL_demandsSo 334 = .ok (.aload_n 0, 1) := by decide +kernel
theorem dL_demandsSo_335 : decode cL_demandsSo 335 = .ok (.aload_n 3, 1) := by decide +kernel
theorem dL_demandsSo_336 : decode cL_demandsSo 336 = .ok (.iload 5, 2) := by decide +kernel
theorem dL_demandsSo_338 : decode cL_demandsSo 338 = .ok (.invokevirtual 75, 3) := by decide +kernel
theorem dL_demandsSo_341 : decode cL_demandsSo 341 = .ok (.aload_n 2, 1) := by decide +kernel
theorem dL_demandsSo_342 : decode cL_demandsSo 342 = .ok (.iload 5, 2) := by decide +kernel
theorem dL_demandsSo_344 : decode cL_demandsSo 344 = .ok (.iaload, 1) := by decide +kernel
theorem dL_demandsSo_345 : decode cL_demandsSo 345 = .ok (.if_icmp .ne 7, 3) := by decide +kernel
theorem dL_demandsSo_348 : decode cL_demandsSo 348 = .ok (.iconst 1, 1) := by decide +kernel
theorem dL_demandsSo_349 : decode cL_demandsSo 349 = .ok (.goto 4, 3) := by decide +kernel
theorem dL_demandsSo_352 : decode cL_demandsSo 352 = .ok (.iconst 0, 1) := by decide +kernel
theorem dL_demandsSo_353 : decode cL_demandsSo 353 = .ok (.istore 4, 2) := by decide +kernel
theorem dL_demandsSo_355 : decode cL_demandsSo 355 = .ok (.iinc 5 1, 3) := by decide +kernel
theorem dL_demandsSo_358 : decode cL_demandsSo 358 = .ok (.goto (-38), 3) := by decide +kernel
theorem dL_demandsSo_361 : decode cL_demandsSo 361 = .ok (.iload 4, 2) := by decide +kernel
theorem dL_demandsSo_363 : decode cL_demandsSo 363 = .ok (.ireturn, 1) := by decide +kernel
theorem dL_treeSo_0 : decode cL_treeSo 0 = .ok (.iconst 1, 1) := by decide +kernel
theorem dL_treeSo_1 : decode cL_treeSo 1 = .ok (.istore_n 1, 1) := by decide +kernel
theorem dL_treeSo_2 : decode cL_treeSo 2 = .ok (.iconst 0, 1) := by decide +kernel
theorem dL_treeSo_3 : decode cL_treeSo 3 = .ok (.istore_n 2, 1) := by decide +kernel
theorem dL_treeSo_4 : decode cL_treeSo 4 = .ok (.iload_n 2, 1) := by decide +kernel
theorem dL_treeSo_5 : decode cL_treeSo 5 = .ok (.aload_n 0, 1) := by decide +kernel
theorem dL_treeSo_6 : decode cL_treeSo 6 = .ok (.getfield 56, 3) := by decide +kernel
theorem dL_treeSo_9 : decode cL_treeSo 9 = .ok (.if_icmp .ge 243, 3) := by decide +kernel
theorem dL_treeSo_12 : decode cL_treeSo 12 = .ok (.iload_n 1, 1) := by decide +kernel
theorem dL_treeSo_13 : decode cL_treeSo 13 = .ok (.ifCond .eq 239, 3) := by decide +kernel
theorem dL_treeSo_16 : decode cL_treeSo 16 = .ok (.iconst 0, 1) := by decide +kernel
theorem dL_treeSo_17 : decode cL_treeSo 17 = .ok (.istore_n 3, 1) := by decide +kernel
theorem dL_treeSo_18 : decode cL_treeSo 18 = .ok (.iload_n 3, 1) := by decide +kernel
theorem dL_treeSo_19 : decode cL_treeSo 19 = .ok (.iload_n 2, 1) := by decide +kernel
theorem dL_treeSo_20 : decode cL_treeSo 20 = .ok (.if_icmp .ge 183, 3) := by decide +kernel
theorem dL_treeSo_23 : decode cL_treeSo 23 = .ok (.iload_n 1, 1) := by decide +kernel
theorem dL_treeSo_24 : decode cL_treeSo 24 = .ok (.ifCond .eq 179, 3) := by decide +kernel
theorem dL_treeSo_27 : decode cL_treeSo 27 = .ok (.aload_n 0, 1) := by decide +kernel
theorem dL_treeSo_28 : decode cL_treeSo 28 = .ok (.getfield 10, 3) := by decide +kernel
theorem dL_treeSo_31 : decode cL_treeSo 31 = .ok (.iconst 0, 1) := by decide +kernel
theorem dL_treeSo_32 : decode cL_treeSo 32 = .ok (.iload_n 2, 1) := by decide +kernel
theorem dL_treeSo_33 : decode cL_treeSo 33 = .ok (.iload_n 3, 1) := by decide +kernel
theorem dL_treeSo_34 : decode cL_treeSo 34 = .ok (.invokevirtual 196, 3) := by decide +kernel
theorem dL_treeSo_37 : decode cL_treeSo 37 = .ok (.istore 4, 2) := by decide +kernel
theorem dL_treeSo_39 : decode cL_treeSo 39 = .ok (.iload 4, 2) := by decide +kernel
theorem dL_treeSo_41 : decode cL_treeSo 41 = .ok (.aload_n 0, 1) := by decide +kernel
theorem dL_treeSo_42 : decode cL_treeSo 42 = .ok (.getfield 10, 3) := by decide +kernel
theorem dL_treeSo_45 : decode cL_treeSo 45 = .ok (.iconst 0, 1) := by decide +kernel
theorem dL_treeSo_46 : decode cL_treeSo 46 = .ok (.iload_n 3, 1) := by decide +kernel
theorem dL_treeSo_47 : decode cL_treeSo 47 = .ok (.iload_n 2, 1) := by decide +kernel
theorem dL_treeSo_48 : decode cL_treeSo 48 = .ok (.invokevirtual 196, 3) := by decide +kernel
theorem dL_treeSo_51 : decode cL_treeSo 51 = .ok (.if_icmp .ne 7, 3) := by decide +kernel
theorem dL_treeSo_54 : decode cL_treeSo 54 = .ok (.iconst 1, 1) := by decide +kernel
theorem dL_treeSo_55 : decode cL_treeSo 55 = .ok (.goto 4, 3) := by decide +kernel
theorem dL_treeSo_58 : decode cL_treeSo 58 = .ok (.iconst 0, 1) := by decide +kernel
theorem dL_treeSo_59 : decode cL_treeSo 59 = .ok (.istore_n 1, 1) := by decide +kernel
theorem dL_treeSo_60 : decode cL_treeSo 60 = .ok (.iconst 0, 1) := by decide +kernel
theorem dL_treeSo_61 : decode cL_treeSo 61 = .ok (.istore 5, 2) := by decide +kernel
theorem dL_treeSo_63 : decode cL_treeSo 63 = .ok (.iload 5, 2) := by decide +kernel
theorem dL_treeSo_65 : decode cL_treeSo 65 = .ok (.iconst 1, 1) := by decide +kernel
theorem dL_treeSo_66 : decode cL_treeSo 66 = .ok (.aload_n 0, 1) := by decide +kernel
theorem dL_treeSo_67 : decode cL_treeSo 67 = .ok (.getfield 56, 3) := by decide +kernel
theorem dL_treeSo_70 : decode cL_treeSo 70 = .ok (.ishl, 1) := by decide +kernel
theorem dL_treeSo_71 : decode cL_treeSo 71 = .ok (.if_icmp .ge 56, 3) := by decide +kernel
theorem dL_treeSo_74 : decode cL_treeSo 74 = .ok (.iload_n 1, 1) := by decide +kernel
theorem dL_treeSo_75 : decode cL_treeSo 75 = .ok (.ifCond .eq 52, 3) := by decide +kernel
theorem dL_treeSo_78 : decode cL_treeSo 78 = .ok (.aload_n 0, 1) := by decide +kernel
theorem dL_treeSo_79 : decode cL_treeSo 79 = .ok (.iload 5, 2) := by decide +kernel
theorem dL_treeSo_81 : decode cL_treeSo 81 = .ok (.iload_n 2, 1) := by decide +kernel
theorem dL_treeSo_82 : decode cL_treeSo 82 = .ok (.invokevirtual 92, 3) := by decide +kernel
theorem dL_treeSo_85 : decode cL_treeSo 85 = .ok (.aload_n 0, 1) := by decide +kernel
theorem dL_treeSo_86 : decode cL_treeSo 86 = .ok (.iload 5, 2) := by decide +kernel
theorem dL_treeSo_88 : decode cL_treeSo 88 = .ok (.iload_n 3, 1) := by decide +kernel
theorem dL_treeSo_89 : decode cL_treeSo 89 = .ok (.invokevirtual 92, 3) := by decide +kernel
theorem dL_treeSo_92 : decode cL_treeSo 92 = .ok (.if_icmp .eq 23, 3) := by decide +kernel
theorem dL_treeSo_95 : decode cL_treeSo 95 = .ok (.aload_n 0, 1) := by decide +kernel
theorem dL_treeSo_96 : decode cL_treeSo 96 = .ok (.iload 5, 2) := by decide +kernel
theorem dL_treeSo_98 : decode cL_treeSo 98 = .ok (.iconst 3, 1) := by decide +kernel
theorem dL_treeSo_99 : decode cL_treeSo 99 = .ok (.invokevirtual 105, 3) := by decide +kernel
theorem dL_treeSo_102 : decode cL_treeSo 102 = .ok (.aload_n 0, 1) := by decide +kernel
theorem dL_treeSo_103 : decode cL_treeSo 103 = .ok (.iload 5, 2) := by decide +kernel
theorem dL_treeSo_105 : decode cL_treeSo 105 = .ok (.iconst 3, 1) := by decide +kernel
theorem dL_treeSo_106 : decode cL_treeSo 106 = .ok (.invokevirtual 108, 3) := by decide +kernel
theorem dL_treeSo_109 : decode cL_treeSo 109 = .ok (.iadd, 1) := by decide +kernel
theorem dL_treeSo_110 : decode cL_treeSo 110 = .ok (.iload 4, 2) := by decide +kernel
theorem dL_treeSo_112 : decode cL_treeSo 112 = .ok (.if_icmp .lt 7, 3) := by decide +kernel
theorem dL_treeSo_115 : decode cL_treeSo 115 = .ok (.iconst 1, 1) := by decide +kernel
theorem dL_treeSo_116 : decode cL_treeSo 116 = .ok (.goto 4, 3) := by decide +kernel
theorem dL_treeSo_119 : decode cL_treeSo 119 = .ok (.iconst 0, 1) := by decide +kernel
theorem dL_treeSo_120 : decode cL_treeSo 120 = .ok (.istore_n 1, 1) := by decide +kernel
theorem dL_treeSo_121 : decode cL_treeSo 121 = .ok (.iinc 5 1, 3) := by decide +kernel
theorem dL_treeSo_124 : decode cL_treeSo 124 = .ok (.goto (-61), 3) := by decide +kernel
theorem dL_treeSo_127 : decode cL_treeSo 127 = .ok (.iconst 0, 1) := by decide +kernel
theorem dL_treeSo_128 : decode cL_treeSo 128 = .ok (.istore 5, 2) := by decide +kernel
theorem dL_treeSo_130 : decode cL_treeSo 130 = .ok (.iload 5, 2) := by decide +kernel
theorem dL_treeSo_132 : decode cL_treeSo 132 = .ok (.aload_n 0, 1) := by decide +kernel
theorem dL_treeSo_133 : decode cL_treeSo 133 = .ok (.getfield 56, 3) := by decide +kernel
theorem dL_treeSo_136 : decode cL_treeSo 136 = .ok (.if_icmp .ge 61, 3) := by decide +kernel
theorem dL_treeSo_139 : decode cL_treeSo 139 = .ok (.iload_n 1, 1) := by decide +kernel
theorem dL_treeSo_140 : decode cL_treeSo 140 = .ok (.ifCond .eq 57, 3) := by decide +kernel
theorem dL_treeSo_143 : decode cL_treeSo 143 = .ok (.iload 5, 2) := by decide +kernel
theorem dL_treeSo_145 : decode cL_treeSo 145 = .ok (.iload_n 2, 1) := by decide +kernel
theorem dL_treeSo_146 : decode cL_treeSo 146 = .ok (.if_icmp .eq 39, 3) := by decide +kernel
theorem dL_treeSo_149 : decode cL_treeSo 149 = .ok (.iload 5, 2) := by decide +kernel
theorem dL_treeSo_151 : decode cL_treeSo 151 = .ok (.iload_n 3, 1) := by decide +kernel
theorem dL_treeSo_152 : decode cL_treeSo 152 = .ok (.if_icmp .eq 33, 3) := by decide +kernel
theorem dL_treeSo_155 : decode cL_treeSo 155 = .ok (.iload 4, 2) := by decide +kernel
theorem dL_treeSo_157 : decode cL_treeSo 157 = .ok (.aload_n 0, 1) := by decide +kernel
theorem dL_treeSo_158 : decode cL_treeSo 158 = .ok (.getfield 10, 3) := by decide +kernel
theorem dL_treeSo_161 : decode cL_treeSo 161 = .ok (.iconst 0, 1) := by decide +kernel
theorem dL_treeSo_162 : decode cL_treeSo 162 = .ok (.iload_n 2, 1) := by decide +kernel
theorem dL_treeSo_163 : decode cL_treeSo 163 = .ok (.iload 5, 2) := by decide +kernel
theorem dL_treeSo_165 : decode cL_treeSo 165 = .ok (.invokevirtual 196, 3) := by decide +kernel
theorem dL_treeSo_168 : decode cL_treeSo 168 = .ok (.aload_n 0, 1) := by decide +kernel
theorem dL_treeSo_169 : decode cL_treeSo 169 = .ok (.getfield 10, 3) := by decide +kernel
theorem dL_treeSo_172 : decode cL_treeSo 172 = .ok (.iconst 0, 1) := by decide +kernel
theorem dL_treeSo_173 : decode cL_treeSo 173 = .ok (.iload 5, 2) := by decide +kernel
theorem dL_treeSo_175 : decode cL_treeSo 175 = .ok (.iload_n 3, 1) := by decide +kernel
theorem dL_treeSo_176 : decode cL_treeSo 176 = .ok (.invokevirtual 196, 3) := by decide +kernel
theorem dL_treeSo_179 : decode cL_treeSo 179 = .ok (.invokestatic 199, 3) := by decide +kernel
theorem dL_treeSo_182 : decode cL_treeSo 182 = .ok (.if_icmp .lt 7, 3) := by decide +kernel
theorem dL_treeSo_185 : decode cL_treeSo 185 = .ok (.iconst 1, 1) := by decide +kernel
theorem dL_treeSo_186 : decode cL_treeSo 186 = .ok (.goto 4, 3) := by decide +kernel
theorem dL_treeSo_189 : decode cL_treeSo 189 = .ok (.iconst 0, 1) := by decide +kernel
theorem dL_treeSo_190 : decode cL_treeSo 190 = .ok (.istore_n 1, 1) := by decide +kernel
theorem dL_treeSo_191 : decode cL_treeSo 191 = .ok (.iinc 5 1, 3) := by decide +kernel
theorem dL_treeSo_194 : decode cL_treeSo 194 = .ok (.goto (-64), 3) := by decide +kernel
theorem dL_treeSo_197 : decode cL_treeSo 197 = .ok (.iinc 3 1, 3) := by decide +kernel
theorem dL_treeSo_200 : decode cL_treeSo 200 = .ok (.goto (-182), 3) := by decide +kernel
theorem dL_treeSo_203 : decode cL_treeSo 203 = .ok (.iload_n 1, 1) := by decide +kernel
theorem dL_treeSo_204 : decode cL_treeSo 204 = .ok (.ifCond .eq 40, 3) := by decide +kernel
theorem dL_treeSo_207 : decode cL_treeSo 207 = .ok (.iload_n 2, 1) := by decide +kernel
theorem dL_treeSo_208 : decode cL_treeSo 208 = .ok (.ifCond .eq 32, 3) := by decide +kernel
theorem dL_treeSo_211 : decode cL_treeSo 211 = .ok (.aload_n 0, 1) := by decide +kernel
theorem dL_treeSo_212 : decode cL_treeSo 212 = .ok (.getfield 10, 3) := by decide +kernel
theorem dL_treeSo_215 : decode cL_treeSo 215 = .ok (.iconst 0, 1) := by decide +kernel
theorem dL_treeSo_216 : decode cL_treeSo 216 = .ok (.iload_n 2, 1) := by decide +kernel
theorem dL_treeSo_217 : decode cL_treeSo 217 = .ok (.invokevirtual 204, 3) := by decide +kernel
theorem dL_treeSo_220 : decode cL_treeSo 220 = .ok (.aload_n 0, 1) := by decide +kernel
theorem dL_treeSo_221 : decode cL_treeSo 221 = .ok (.getfield 56, 3) := by decide +kernel
theorem dL_treeSo_224 : decode cL_treeSo 224 = .ok (.if_icmp .ge 20, 3) := by decide +kernel
theorem dL_treeSo_227 : decode cL_treeSo 227 = .ok (.aload_n 0, 1) := by decide +kernel
theorem dL_treeSo_228 : decode cL_treeSo 228 = .ok (.getfield 10, 3) := by decide +kernel
theorem dL_treeSo_231 : decode cL_treeSo 231 = .ok (.iconst 0, 1) := by decide +kernel
theorem dL_treeSo_232 : decode cL_treeSo 232 = .ok (.iload_n 2, 1) := by decide +kernel
theorem dL_treeSo_233 : decode cL_treeSo 233 = .ok (.invokevirtual 204, 3) := by decide +kernel
theorem dL_treeSo_236 : decode cL_treeSo 236 = .ok (.iload_n 2, 1) := by decide +kernel
theorem dL_treeSo_237 : decode cL_treeSo 237 = .ok (.if_icmp .eq 7, 3) := by decide +kernel
theorem dL_treeSo_240 : decode cL_treeSo 240 = .ok (.iconst 1, 1) := by decide +kernel
theorem dL_treeSo_241 : decode cL_treeSo 241 = .ok (.goto 4, 3) := by decide +kernel
theorem dL_treeSo_244 : decode cL_treeSo 244 = .ok (.iconst 0, 1) := by decide +kernel
theorem dL_treeSo_245 : decode cL_treeSo 245 = .ok (.istore_n 1, 1) := by decide +kernel
theorem dL_treeSo_246 : decode cL_treeSo 246 = .ok (.iinc 2 1, 3) := by decide +kernel
theorem dL_treeSo_249 : decode cL_treeSo 249 = .ok (.goto (-245), 3) := by decide +kernel
theorem dL_treeSo_252 : decode cL_treeSo 252 = .ok (.iload_n 1, 1) := by decide +kernel
theorem dL_treeSo_253 : decode cL_treeSo 253 = .ok (.ireturn, 1) := by decide +kernel
theorem dL_pairsSo_0 : decode cL_pairsSo 0 = .ok (.bipush 8, 2) := by decide +kernel
theorem dL_pairsSo_2 : decode cL_pairsSo 2 = .ok (.newarray .int, 2) := by decide +kernel
theorem dL_pairsSo_4 : decode cL_pairsSo 4 = .ok (.astore_n 1, 1) := by decide +kernel
theorem dL_pairsSo_5 : decode cL_pairsSo 5 = .ok (.iconst 1, 1) := by decide +kernel
theorem dL_pairsSo_6 : decode cL_pairsSo 6 = .ok (.aload_n 0, 1) := by decide +kernel
theorem dL_pairsSo_7 : decode cL_pairsSo 7 = .ok (.bipush 8, 2) := by decide +kernel
theorem dL_pairsSo_9 : decode cL_pairsSo 9 = .ok (.invokevirtual 52, 3) := by decide +kernel
theorem dL_pairsSo_12 : decode cL_pairsSo 12 = .ok (.iadd, 1) := by decide +kernel
theorem dL_pairsSo_13 : decode cL_pairsSo 13 = .ok (.istore_n 2, 1) := by decide +kernel
theorem dL_pairsSo_14 : decode cL_pairsSo 14 = .ok (.iconst 0, 1) := by decide +kernel
theorem dL_pairsSo_15 : decode cL_pairsSo 15 = .ok (.istore_n 3, 1) := by decide +kernel
theorem dL_pairsSo_16 : decode cL_pairsSo 16 = .ok (.iload_n 3, 1) := by decide +kernel
theorem dL_pairsSo_17 : decode cL_pairsSo 17 = .ok (.bipush 8, 2) := by decide +kernel
theorem dL_pairsSo_19 : decode cL_pairsSo 19 = .ok (.if_icmp .ge 51, 3) := by decide +kernel
theorem dL_pairsSo_22 : decode cL_pairsSo 22 = .ok (.aload_n 1, 1) := by decide +kernel
theorem dL_pairsSo_23 : decode cL_pairsSo 23 = .ok (.iload_n 3, 1) := by decide +kernel
theorem dL_pairsSo_24 : decode cL_pairsSo 24 = .ok (.aload_n 0, 1) := by decide +kernel
theorem dL_pairsSo_25 : decode cL_pairsSo 25 = .ok (.iconst 3, 1) := by decide +kernel
theorem dL_pairsSo_26 : decode cL_pairsSo 26 = .ok (.invokevirtual 52, 3) := by decide +kernel
theorem dL_pairsSo_29 : decode cL_pairsSo 29 = .ok (.ifCond .ne 7, 3) := by decide +kernel
theorem dL_pairsSo_32 : decode cL_pairsSo 32 = .ok (.iconst 0, 1) := by decide +kernel
theorem dL_pairsSo_33 : decode cL_pairsSo 33 = .ok (.goto 18, 3) := by decide +kernel
theorem dL_pairsSo_36 : decode cL_pairsSo 36 = .ok (.aload_n 0, 1) := by decide +kernel
theorem dL_pairsSo_37 : decode cL_pairsSo 37 = .ok (.iconst 1, 1) := by decide +kernel
theorem dL_pairsSo_38 : decode cL_pairsSo 38 = .ok (.iload_n 2, 1) := by decide +kernel
theorem dL_pairsSo_39 : decode cL_pairsSo 39 = .ok (.ishl, 1) := by decide +kernel
theorem dL_pairsSo_40 : decode cL_pairsSo 40 = .ok (.invokevirtual 52, 3) := by decide +kernel
theorem dL_pairsSo_43 : decode cL_pairsSo 43 = .ok (.aload_n 0, 1) := by decide +kernel
theorem dL_pairsSo_44 : decode cL_pairsSo 44 = .ok (.sipush 256, 3) := by decide +kernel
theorem dL_pairsSo_47 : decode cL_pairsSo 47 = .ok (.invokevirtual 52, 3) := by decide +kernel
theorem dL_pairsSo_50 : decode cL_pairsSo 50 = .ok (.iand, 1) := by decide +kernel
theorem dL_pairsSo_51 : decode cL_pairsSo 51 = .ok (.iastore, 1) := by decide +kernel
theorem dL_pairsSo_52 : decode cL_pairsSo 52 = .ok (.aload_n 0, 1) := by decide +kernel
theorem dL_pairsSo_53 : decode cL_pairsSo 53 = .ok (.getfield 10, 3) := by decide +kernel
theorem dL_pairsSo_56 : decode cL_pairsSo 56 = .ok (.iload_n 3, 1) := by decide +kernel
theorem dL_pairsSo_57 : decode cL_pairsSo 57 = .ok (.aload_n 1, 1) := by decide +kernel
theorem dL_pairsSo_58 : decode cL_pairsSo 58 = .ok (.iload_n 3, 1) := by decide +kernel
theorem dL_pairsSo_59 : decode cL_pairsSo 59 = .ok (.iaload, 1) := by decide +kernel
theorem dL_pairsSo_60 : decode cL_pairsSo 60 = .ok (.invokevirtual 207, 3) := by decide +kernel
theorem dL_pairsSo_63 : decode cL_pairsSo 63 = .ok (.pop, 1) := by decide +kernel
theorem dL_pairsSo_64 : decode cL_pairsSo 64 = .ok (.iinc 3 1, 3) := by decide +kernel
theorem dL_pairsSo_67 : decode cL_pairsSo 67 = .ok (.goto (-51), 3) := by decide +kernel
theorem dL_pairsSo_70 : decode cL_pairsSo 70 = .ok (.aload_n 0, 1) := by decide +kernel
theorem dL_pairsSo_71 : decode cL_pairsSo 71 = .ok (.getfield 10, 3) := by decide +kernel
theorem dL_pairsSo_74 : decode cL_pairsSo 74 = .ok (.iconst 1, 1) := by decide +kernel
theorem dL_pairsSo_75 : decode cL_pairsSo 75 = .ok (.invokevirtual 210, 3) := by decide +kernel
theorem dL_pairsSo_78 : decode cL_pairsSo 78 = .ok (.istore_n 3, 1) := by decide +kernel
theorem dL_pairsSo_79 : decode cL_pairsSo 79 = .ok (.aload_n 0, 1) := by decide +kernel
theorem dL_pairsSo_80 : decode cL_pairsSo 80 = .ok (.getfield 10, 3) := by decide +kernel
theorem dL_pairsSo_83 : decode cL_pairsSo 83 = .ok (.iconst 0, 1) := by decide +kernel
theorem dL_pairsSo_84 : decode cL_pairsSo 84 = .ok (.invokevirtual 210, 3) := by decide +kernel
theorem dL_pairsSo_87 : decode cL_pairsSo 87 = .ok (.istore 4, 2) := by decide +kernel
theorem dL_pairsSo_89 : decode cL_pairsSo 89 = .ok (.iconst 0, 1) := by decide +kernel
theorem dL_pairsSo_90 : decode cL_pairsSo 90 = .ok (.istore 5, 2) := by decide +kernel
theorem dL_pairsSo_92 : decode cL_pairsSo 92 = .ok (.iconst 0, 1) := by decide +kernel
theorem dL_pairsSo_93 : decode cL_pairsSo 93 = .ok (.istore 6, 2) := by decide +kernel
theorem dL_pairsSo_95 : decode cL_pairsSo 95 = .ok (.iload_n 3, 1) := by decide +kernel
theorem dL_pairsSo_96 : decode cL_pairsSo 96 = .ok (.invokestatic 175, 3) := by decide +kernel
theorem dL_pairsSo_99 : decode cL_pairsSo 99 = .ok (.iload 4, 2) := by decide +kernel
theorem dL_pairsSo_101 : decode cL_pairsSo 101 = .ok (.invokestatic 175, 3) := by decide +kernel
theorem dL_pairsSo_104 : decode cL_pairsSo 104 = .ok (.iadd, 1) := by decide +kernel
theorem dL_pairsSo_105 : decode cL_pairsSo 105 = .ok (.aload_n 0, 1) := by decide +kernel
theorem dL_pairsSo_106 : decode cL_pairsSo 106 = .ok (.getfield 10, 3) := by decide +kernel
theorem dL_pairsSo_109 : decode cL_pairsSo 109 = .ok (.invokevirtual 214, 3) := by decide +kernel
theorem dL_pairsSo_112 : decode cL_pairsSo 112 = .ok (.if_icmp .ne 7, 3) := by decide +kernel
theorem dL_pairsSo_115 : decode cL_pairsSo 115 = .ok (.iconst 1, 1) := by decide +kernel
theorem dL_pairsSo_116 : decode cL_pairsSo 116 = .ok (.goto 4, 3) := by decide +kernel
theorem dL_pairsSo_119 : decode cL_pairsSo 119 = .ok (.iconst 0, 1) := by decide +kernel
theorem dL_pairsSo_120 : decode cL_pairsSo 120 = .ok (.istore 7, 2) := by decide +kernel
theorem dL_pairsSo_122 : decode cL_pairsSo 122 = .ok (.iconst 0, 1) := by decide +kernel
theorem dL_pairsSo_123 : decode cL_pairsSo 123 = .ok (.istore 8, 2) := by decide +kernel
theorem dL_pairsSo_125 : decode cL_pairsSo 125 = .ok (.iload 8, 2) := by decide +kernel
theorem dL_pairsSo_127 : decode cL_pairsSo 127 = .ok (.bipush 8, 2) := by decide +kernel
theorem dL_pairsSo_129 : decode cL_pairsSo 129 = .ok (.if_icmp .ge 126, 3) := by decide +kernel
theorem dL_pairsSo_132 : decode cL_pairsSo 132 = .ok (.iload 7, 2) := by decide +kernel
theorem dL_pairsSo_134 : decode cL_pairsSo 134 = .ok (.ifCond .eq 29, 3) := by decide +kernel
theorem dL_pairsSo_137 : decode cL_pairsSo 137 = .ok (.aload_n 0, 1) := by decide +kernel
theorem dL_pairsSo_138 : decode cL_pairsSo 138 = .ok (.iload_n 3, 1) := by decide +kernel
theorem dL_pairsSo_139 : decode cL_pairsSo 139 = .ok (.iload 8, 2) := by decide +kernel
theorem dL_pairsSo_141 : decode cL_pairsSo 141 = .ok (.invokevirtual 92, 3) := by decide +kernel
theorem dL_pairsSo_144 : decode cL_pairsSo 144 = .ok (.ifCond .ne 15, 3) := by decide +kernel
theorem dL_pairsSo_147 : decode cL_pairsSo 147 = .ok (.aload_n 1, 1) := by decide +kernel
theorem dL_pairsSo_148 : decode cL_pairsSo 148 = .ok (.iload 8, 2) := by decide +kernel
theorem dL_pairsSo_150 : decode cL_pairsSo 150 = .ok (.iaload, 1) := by decide +kernel
theorem dL_pairsSo_151 : decode cL_pairsSo 151 = .ok (.iload 4, 2) := by decide +kernel
theorem dL_pairsSo_153 : decode cL_pairsSo 153 = .ok (.iconst (-1), 1) := by decide +kernel
theorem dL_pairsSo_154 : decode cL_pairsSo 154 = .ok (.ixor, 1) := by decide +kernel
theorem dL_pairsSo_155 : decode cL_pairsSo 155 = .ok (.iand, 1) := by decide +kernel
theorem dL_pairsSo_156 : decode cL_pairsSo 156 = .ok (.ifCond .ne 7, 3) := by decide +kernel
theorem dL_pairsSo_159 : decode cL_pairsSo 159 = .ok (.iconst 1, 1) := by decide +kernel
theorem dL_pairsSo_160 : decode cL_pairsSo 160 = .ok (.goto 4, 3) := by decide +kernel
theorem dL_pairsSo_163 : decode cL_pairsSo 163 = .ok (.iconst 0, 1) := by decide +kernel
theorem dL_pairsSo_164 : decode cL_pairsSo 164 = .ok (.istore 7, 2) := by decide +kernel
theorem dL_pairsSo_166 : decode cL_pairsSo 166 = .ok (.aload_n 0, 1) := by decide +kernel
theorem dL_pairsSo_167 : decode cL_pairsSo 167 = .ok (.getfield 10, 3) := by decide +kernel
theorem dL_pairsSo_170 : decode cL_pairsSo 170 = .ok (.iload 8, 2) := by decide +kernel
theorem dL_pairsSo_172 : decode cL_pairsSo 172 = .ok (.invokevirtual 217, 3) := by decide +kernel
theorem dL_pairsSo_175 : decode cL_pairsSo 175 = .ok (.istore 9, 2) := by decide +kernel
theorem dL_pairsSo_177 : decode cL_pairsSo 177 = .ok (.iload 7, 2) := by decide +kernel
theorem dL_pairsSo_179 : decode cL_pairsSo 179 = .ok (.ifCond .eq 31, 3) := by decide +kernel
theorem dL_pairsSo_182 : decode cL_pairsSo 182 = .ok (.aload_n 0, 1) := by decide +kernel
theorem dL_pairsSo_183 : decode cL_pairsSo 183 = .ok (.aload_n 1, 1) := by decide +kernel
theorem dL_pairsSo_184 : decode cL_pairsSo 184 = .ok (.iload 8, 2) := by decide +kernel
theorem dL_pairsSo_186 : decode cL_pairsSo 186 = .ok (.iaload, 1) := by decide +kernel
theorem dL_pairsSo_187 : decode cL_pairsSo 187 = .ok (.iload 9, 2) := by decide +kernel
theorem dL_pairsSo_189 : decode cL_pairsSo 189 = .ok (.invokevirtual 92, 3) := by decide +kernel
theorem dL_pairsSo_192 : decode cL_pairsSo 192 = .ok (.ifCond .eq 18, 3) := by decide +kernel
theorem dL_pairsSo_195 : decode cL_pairsSo 195 = .ok (.aload_n 0, 1) := by decide +kernel
theorem dL_pairsSo_196 : decode cL_pairsSo 196 = .ok (.iload 6, 2) := by decide +kernel
theorem dL_pairsSo_198 : decode cL_pairsSo 198 = .ok (.iload 9, 2) := by decide +kernel
theorem dL_pairsSo_200 : decode cL_pairsSo 200 = .ok (.invokevirtual 92, 3) := by decide +kernel
theorem dL_pairsSo_203 : decode cL_pairsSo 203 = .ok (.ifCond .ne 7, 3) := by decide +kernel
theorem dL_pairsSo_206 : decode cL_pairsSo 206 = .ok (.iconst 1, 1) := by decide +kernel
theorem dL_pairsSo_207 : decode cL_pairsSo 207 = .ok (.goto 4, 3) := by decide +kernel
theorem dL_pairsSo_210 : decode cL_pairsSo 210 = .ok (.iconst 0, 1) := by decide +kernel
theorem dL_pairsSo_211 : decode cL_pairsSo 211 = .ok (.istore 7, 2) := by decide +kernel
theorem dL_pairsSo_213 : decode cL_pairsSo 213 = .ok (.iload 6, 2) := by decide +kernel
theorem dL_pairsSo_215 : decode cL_pairsSo 215 = .ok (.iconst 1, 1) := by decide +kernel
theorem dL_pairsSo_216 : decode cL_pairsSo 216 = .ok (.iload 9, 2) := by decide +kernel
theorem dL_pairsSo_218 : decode cL_pairsSo 218 = .ok (.ishl, 1) := by decide +kernel
theorem dL_pairsSo_219 : decode cL_pairsSo 219 = .ok (.ior, 1) := by decide +kernel
theorem dL_pairsSo_220 : decode cL_pairsSo 220 = .ok (.istore 6, 2) := by decide +kernel
theorem dL_pairsSo_222 : decode cL_pairsSo 222 = .ok (.iinc 5 1, 3) := by decide +kernel
theorem dL_pairsSo_225 : decode cL_pairsSo 225 = .ok (.goto 24, 3) := by decide +kernel
theorem dL_pairsSo_228 : decode cL_pairsSo 228 = .ok (.astore 9, 2) := by decide +kernel
theorem dL_pairsSo_230 : decode cL_pairsSo 230 = .ok (.iload 7, 2) := by decide +kernel
theorem dL_pairsSo_232 : decode cL_pairsSo 232 = .ok (.ifCond .eq 14, 3) := by decide +kernel
theorem dL_pairsSo_235 : decode cL_pairsSo 235 = .ok (.iload 5, 2) := by decide +kernel
theorem dL_pairsSo_237 : decode cL_pairsSo 237 = .ok (.bipush 8, 2) := by decide +kernel
theorem dL_pairsSo_239 : decode cL_pairsSo 239 = .ok (.if_icmp .ge 7, 3) := by decide +kernel
theorem dL_pairsSo_242 : decode cL_pairsSo 242 = .ok (.iconst 1, 1) := by decide +kernel
theorem dL_pairsSo_243 : decode cL_pairsSo 243 = .ok (.goto 4, 3) := by decide +kernel
theorem dL_pairsSo_246 : decode cL_pairsSo 246 = .ok (.iconst 0, 1) := by decide +kernel
theorem dL_pairsSo_247 : decode cL_pairsSo 247 = .ok (.istore 7, 2) := by decide +kernel
theorem dL_pairsSo_249 : decode cL_pairsSo 249 = .ok (.iinc 8 1, 3) := by decide +kernel
theorem dL_pairsSo_252 : decode cL_pairsSo 252 = .ok (.goto (-127), 3) := by decide +kernel
theorem dL_pairsSo_255 : decode cL_pairsSo 255 = .ok (.iload 7, 2) := by decide +kernel
theorem dL_pairsSo_257 : decode cL_pairsSo 257 = .ok (.ifCond .eq 19, 3) := by decide +kernel
theorem dL_pairsSo_260 : decode cL_pairsSo 260 = .ok (.iload 5, 2) := by decide +kernel
theorem dL_pairsSo_262 : decode cL_pairsSo 262 = .ok (.aload_n 0, 1) := by decide +kernel
theorem dL_pairsSo_263 : decode cL_pairsSo 263 = .ok (.getfield 10, 3) := by decide +kernel
theorem dL_pairsSo_266 : decode cL_pairsSo 266 = .ok (.invokevirtual 214, 3) := by decide +kernel
theorem dL_pairsSo_269 : decode cL_pairsSo 269 = .ok (.if_icmp .ne 7, 3) := by decide +kernel
theorem dL_pairsSo_272 : decode cL_pairsSo 272 = .ok (.iconst 1, 1) := by decide +kernel
theorem dL_pairsSo_273 : decode cL_pairsSo 273 = .ok (.goto 4, 3) := by decide +kernel
theorem dL_pairsSo_276 : decode cL_pairsSo 276 = .ok (.iconst 0, 1) := by decide +kernel
theorem dL_pairsSo_277 : decode cL_pairsSo 277 = .ok (.ireturn, 1) := by decide +kernel
theorem dL_othersSo_0 : decode cL_othersSo 0 = .ok (.iconst 1, 1) := by decide +kernel
theorem dL_othersSo_1 : decode cL_othersSo 1 = .ok (.aload_n 0, 1) := by decide +kernel
theorem dL_othersSo_2 : decode cL_othersSo 2 = .ok (.iconst 4, 1) := by decide +kernel
theorem dL_othersSo_3 : decode cL_othersSo 3 = .ok (.invokevirtual 52, 3) := by decide +kernel
theorem dL_othersSo_6 : decode cL_othersSo 6 = .ok (.iadd, 1) := by decide +kernel
theorem dL_othersSo_7 : decode cL_othersSo 7 = .ok (.istore_n 1, 1) := by decide +kernel
theorem dL_othersSo_8 : decode cL_othersSo 8 = .ok (.iconst 1, 1) := by decide +kernel
theorem dL_othersSo_9 : decode cL_othersSo 9 = .ok (.aload_n 0, 1) := by decide +kernel
theorem dL_othersSo_10 : decode cL_othersSo 10 = .ok (.iconst 3, 1) := by decide +kernel
theorem dL_othersSo_11 : decode cL_othersSo 11 = .ok (.invokevirtual 52, 3) := by decide +kernel
theorem dL_othersSo_14 : decode cL_othersSo 14 = .ok (.iadd, 1) := by decide +kernel
theorem dL_othersSo_15 : decode cL_othersSo 15 = .ok (.istore_n 2, 1) := by decide +kernel
theorem dL_othersSo_16 : decode cL_othersSo 16 = .ok (.aload_n 0, 1) := by decide +kernel
theorem dL_othersSo_17 : decode cL_othersSo 17 = .ok (.getfield 10, 3) := by decide +kernel
theorem dL_othersSo_20 : decode cL_othersSo 20 = .ok (.iload_n 1, 1) := by decide +kernel
theorem dL_othersSo_21 : decode cL_othersSo 21 = .ok (.iload_n 2, 1) := by decide +kernel
theorem dL_othersSo_22 : decode cL_othersSo 22 = .ok (.invokevirtual 220, 3) := by decide +kernel
theorem dL_othersSo_25 : decode cL_othersSo 25 = .ok (.pop, 1) := by decide +kernel
theorem dL_othersSo_26 : decode cL_othersSo 26 = .ok (.iconst 0, 1) := by decide +kernel
theorem dL_othersSo_27 : decode cL_othersSo 27 = .ok (.istore_n 3, 1) := by decide +kernel
theorem dL_othersSo_28 : decode cL_othersSo 28 = .ok (.iconst 0, 1) := by decide +kernel
theorem dL_othersSo_29 : decode cL_othersSo 29 = .ok (.istore 4, 2) := by decide +kernel
theorem dL_othersSo_31 : decode cL_othersSo 31 = .ok (.iload_n 2, 1) := by decide +kernel
theorem dL_othersSo_32 : decode cL_othersSo 32 = .ok (.newarray .int, 2) := by decide +kernel
theorem dL_othersSo_34 : decode cL_othersSo 34 = .ok (.astore 5, 2) := by decide +kernel
theorem dL_othersSo_36 : decode cL_othersSo 36 = .ok (.iload_n 2, 1) := by decide +kernel
theorem dL_othersSo_37 : decode cL_othersSo 37 = .ok (.newarray .int, 2) := by decide +kernel
theorem dL_othersSo_39 : decode cL_othersSo 39 = .ok (.astore 6, 2) := by decide +kernel
theorem dL_othersSo_41 : decode cL_othersSo 41 = .ok (.iconst 0, 1) := by decide +kernel
theorem dL_othersSo_42 : decode cL_othersSo 42 = .ok (.istore 7, 2) := by decide +kernel
theorem dL_othersSo_44 : decode cL_othersSo 44 = .ok (.iload 7, 2) := by decide +kernel
theorem dL_othersSo_46 : decode cL_othersSo 46 = .ok (.iload_n 1, 1) := by decide +kernel
theorem dL_othersSo_47 : decode cL_othersSo 47 = .ok (.iload_n 2, 1) := by decide +kernel
theorem dL_othersSo_48 : decode cL_othersSo 48 = .ok (.imul, 1) := by decide +kernel
theorem dL_othersSo_49 : decode cL_othersSo 49 = .ok (.if_icmp .ge 52, 3) := by decide +kernel
theorem dL_othersSo_52 : decode cL_othersSo 52 = .ok (.aload_n 0, 1) := by decide +kernel
theorem dL_othersSo_53 : decode cL_othersSo 53 = .ok (.getfield 10, 3) := by decide +kernel
theorem dL_othersSo_56 : decode cL_othersSo 56 = .ok (.iload 7, 2) := by decide +kernel
theorem dL_othersSo_58 : decode cL_othersSo 58 = .ok (.iload_n 2, 1) := by decide +kernel
theorem dL_othersSo_59 : decode cL_othersSo 59 = .ok (.idiv, 1) := by decide +kernel
theorem dL_othersSo_60 : decode cL_othersSo 60 = .ok (.iload 7, 2) := by decide +kernel
theorem dL_othersSo_62 : decode cL_othersSo 62 = .ok (.iload_n 2, 1) := by decide +kernel
theorem dL_othersSo_63 : decode cL_othersSo 63 = .ok (.irem, 1) := by decide +kernel
theorem dL_othersSo_64 : decode cL_othersSo 64 = .ok (.aload_n 0, 1) := by decide +kernel
theorem dL_othersSo_65 : decode cL_othersSo 65 = .ok (.iconst 4, 1) := by decide +kernel
theorem dL_othersSo_66 : decode cL_othersSo 66 = .ok (.invokevirtual 52, 3) := by decide +kernel
theorem dL_othersSo_69 : decode cL_othersSo 69 = .ok (.ifCond .ne 15, 3) := by decide +kernel
theorem dL_othersSo_72 : decode cL_othersSo 72 = .ok (.bipush 10, 2) := by decide +kernel
theorem dL_othersSo_74 : decode cL_othersSo 74 = .ok (.aload_n 0, 1) := by decide +kernel
theorem dL_othersSo_75 : decode cL_othersSo 75 = .ok (.bipush 20, 2) := by decide +kernel
theorem dL_othersSo_77 : decode cL_othersSo 77 = .ok (.invokevirtual 52, 3) := by decide +kernel
theorem dL_othersSo_80 : decode cL_othersSo 80 = .ok (.imul, 1) := by decide +kernel
theorem dL_othersSo_81 : decode cL_othersSo 81 = .ok (.goto 10, 3) := by decide +kernel
theorem dL_othersSo_84 : decode cL_othersSo 84 = .ok (.aload_n 0, 1) := by decide +kernel
theorem dL_othersSo_85 : decode cL_othersSo 85 = .ok (.sipush 300, 3) := by decide +kernel
theorem dL_othersSo_88 : decode cL_othersSo 88 = .ok (.invokevirtual 52, 3) := by decide +kernel
theorem dL_othersSo_91 : decode cL_othersSo 91 = .ok (.invokevirtual 223, 3) := by decide +kernel
theorem dL_othersSo_94 : decode cL_othersSo 94 = .ok (.pop, 1) := by decide +kernel
theorem dL_othersSo_95 : decode cL_othersSo 95 = .ok (.iinc 7 1, 3) := by decide +kernel
theorem dL_othersSo_98 : decode cL_othersSo 98 = .ok (.goto (-54), 3) := by decide +kernel
theorem dL_othersSo_101 : decode cL_othersSo 101 = .ok (.iconst 1, 1) := by decide +kernel
theorem dL_othersSo_102 : decode cL_othersSo 102 = .ok (.istore 7, 2) := by decide +kernel
theorem dL_othersSo_104 : decode cL_othersSo 104 = .ok (.iconst 0, 1) := by decide +kernel
theorem dL_othersSo_105 : decode cL_othersSo 105 = .ok (.istore 8, 2) := by decide +kernel
theorem dL_othersSo_107 : decode cL_othersSo 107 = .ok (.iload 8, 2) := by decide +kernel
theorem dL_othersSo_109 : decode cL_othersSo 109 = .ok (.iload_n 1, 1) := by decide +kernel
theorem dL_othersSo_110 : decode cL_othersSo 110 = .ok (.if_icmp .ge 161, 3) := by decide +kernel
theorem dL_othersSo_113 : decode cL_othersSo 113 = .ok (.iconst 0, 1) := by decide +kernel
theorem dL_othersSo_114 : decode cL_othersSo 114 = .ok (.istore 9, 2) := by decide +kernel
theorem dL_othersSo_116 : decode cL_othersSo 116 = .ok (.iconst 0, 1) := by decide +kernel
theorem dL_othersSo_117 : decode cL_othersSo 117 = .ok (.istore 10, 2) := by decide +kernel
theorem dL_othersSo_119 : decode cL_othersSo 119 = .ok (.iconst 0, 1) := by decide +kernel
theorem dL_othersSo_120 : decode cL_othersSo 120 = .ok (.istore 11, 2) := by decide +kernel
theorem dL_othersSo_122 : decode cL_othersSo 122 = .ok (.iload 11, 2) := by decide +kernel
theorem dL_othersSo_124 : decode cL_othersSo 124 = .ok (.iload_n 2, 1) := by decide +kernel
theorem dL_othersSo_125 : decode cL_othersSo 125 = .ok (.if_icmp .ge 106, 3) := by decide +kernel
theorem dL_othersSo_128 : decode cL_othersSo 128 = .ok (.aload_n 0, 1) := by decide +kernel
theorem dL_othersSo_129 : decode cL_othersSo 129 = .ok (.getfield 10, 3) := by decide +kernel
theorem dL_othersSo_132 : decode cL_othersSo 132 = .ok (.iload 8, 2) := by decide +kernel
theorem dL_othersSo_134 : decode cL_othersSo 134 = .ok (.iload 11, 2) := by decide +kernel
theorem dL_othersSo_136 : decode cL_othersSo 136 = .ok (.iconst 0, 1) := by decide +kernel
theorem dL_othersSo_137 : decode cL_othersSo 137 = .ok (.invokevirtual 223, 3) := by decide +kernel
theorem dL_othersSo_140 : decode cL_othersSo 140 = .ok (.istore 12, 2) := by decide +kernel
theorem dL_othersSo_142 : decode cL_othersSo 142 = .ok (.aload_n 0, 1) := by decide +kernel
theorem dL_othersSo_143 : decode cL_othersSo 143 = .ok (.getfield 10, 3) := by decide +kernel
theorem dL_othersSo_146 : decode cL_othersSo 146 = .ok (.iload 8, 2) := by decide +kernel
theorem dL_othersSo_148 : decode cL_othersSo 148 = .ok (.iload 11, 2) := by decide +kernel
theorem dL_othersSo_150 : decode cL_othersSo 150 = .ok (.iload 12, 2) := by decide +kernel
theorem dL_othersSo_152 : decode cL_othersSo 152 = .ok (.invokevirtual 223, 3) := by decide +kernel
theorem dL_othersSo_155 : decode cL_othersSo 155 = .ok (.pop, 1) := by decide +kernel
theorem dL_othersSo_156 : decode cL_othersSo 156 = .ok (.aload_n 0, 1) := by decide +kernel
theorem dL_othersSo_157 : decode cL_othersSo 157 = .ok (.getfield 10, 3) := by decide +kernel
theorem dL_othersSo_160 : decode cL_othersSo 160 = .ok (.iload 8, 2) := by decide +kernel
theorem dL_othersSo_162 : decode cL_othersSo 162 = .ok (.iload 11, 2) := by decide +kernel
theorem dL_othersSo_164 : decode cL_othersSo 164 = .ok (.invokevirtual 226, 3) := by decide +kernel
theorem dL_othersSo_167 : decode cL_othersSo 167 = .ok (.istore 13, 2) := by decide +kernel
theorem dL_othersSo_169 : decode cL_othersSo 169 = .ok (.iload 7, 2) := by decide +kernel
theorem dL_othersSo_171 : decode cL_othersSo 171 = .ok (.ifCond .eq 17, 3) := by decide +kernel
theorem dL_othersSo_174 : decode cL_othersSo 174 = .ok (.iload 13, 2) := by decide +kernel
theorem dL_othersSo_176 : decode cL_othersSo 176 = .ok (.iload 12, 2) := by decide +kernel
theorem dL_othersSo_178 : decode cL_othersSo 178 = .ok (.invokestatic 229, 3) := by decide +kernel
theorem dL_othersSo_181 : decode cL_othersSo 181 = .ok (.ifCond .eq 7, 3) := by decide +kernel
theorem dL_othersSo_184 : decode cL_othersSo 184 = .ok (.iconst 1, 1) := by decide +kernel
theorem dL_othersSo_185 : decode cL_othersSo 185 = .ok (.goto 4, 3) := by decide +kernel
theorem dL_othersSo_188 : decode cL_othersSo 188 = .ok (.iconst 0, 1) := by decide +kernel
theorem dL_othersSo_189 : decode cL_othersSo 189 = .ok (.istore 7, 2) := by decide +kernel
theorem dL_othersSo_191 : decode cL_othersSo 191 = .ok (.iload 9, 2) := by decide +kernel
theorem dL_othersSo_193 : decode cL_othersSo 193 = .ok (.iload 13, 2) := by decide +kernel
theorem dL_othersSo_195 : decode cL_othersSo 195 = .ok (.iadd, 1) := by decide +kernel
theorem dL_othersSo_196 : decode cL_othersSo 196 = .ok (.istore 9, 2) := by decide +kernel
theorem dL_othersSo_198 : decode cL_othersSo 198 = .ok (.iload 10, 2) := by decide +kernel
theorem dL_othersSo_200 : decode cL_othersSo 200 = .ok (.iload 12, 2) := by decide +kernel
theorem dL_othersSo_202 : decode cL_othersSo 202 = .ok (.iadd, 1) := by decide +kernel
theorem dL_othersSo_203 : decode cL_othersSo 203 = .ok (.istore 10, 2) := by decide +kernel
theorem dL_othersSo_205 : decode cL_othersSo 205 = .ok (.aload 5, 2) := by decide +kernel
theorem dL_othersSo_207 : decode cL_othersSo 207 = .ok (.iload 11, 2) := by decide +kernel
theorem dL_othersSo_209 : decode cL_othersSo 209 = .ok (.dup2, 1) := by decide +kernel
theorem dL_othersSo_210 : decode cL_othersSo 210 = .ok (.iaload, 1) := by decide +kernel
theorem dL_othersSo_211 : decode cL_othersSo 211 = .ok (.iload 13, 2) := by decide +kernel
theorem dL_othersSo_213 : decode cL_othersSo 213 = .ok (.iadd, 1) := by decide +kernel
theorem dL_othersSo_214 : decode cL_othersSo 214 = .ok (.iastore, 1) := by decide +kernel
theorem dL_othersSo_215 : decode cL_othersSo 215 = .ok (.aload 6, 2) := by decide +kernel
theorem dL_othersSo_217 : decode cL_othersSo 217 = .ok (.iload 11, 2) := by decide +kernel
theorem dL_othersSo_219 : decode cL_othersSo 219 = .ok (.dup2, 1) := by decide +kernel
theorem dL_othersSo_220 : decode cL_othersSo 220 = .ok (.iaload, 1) := by decide +kernel
theorem dL_othersSo_221 : decode cL_othersSo 221 = .ok (.iload 12, 2) := by decide +kernel
theorem dL_othersSo_223 : decode cL_othersSo 223 = .ok (.iadd, 1) := by decide +kernel
theorem dL_othersSo_224 : decode cL_othersSo 224 = .ok (.iastore, 1) := by decide +kernel
theorem dL_othersSo_225 : decode cL_othersSo 225 = .ok (.iinc 11 1, 3) := by decide +kernel
theorem dL_othersSo_228 : decode cL_othersSo 228 = .ok (.goto (-106), 3) := by decide +kernel
theorem dL_othersSo_231 : decode cL_othersSo 231 = .ok (.iload 7, 2) := by decide +kernel
theorem dL_othersSo_233 : decode cL_othersSo 233 = .ok (.ifCond .eq 17, 3) := by decide +kernel
theorem dL_othersSo_236 : decode cL_othersSo 236 = .ok (.iload 9, 2) := by decide +kernel
theorem dL_othersSo_238 : decode cL_othersSo 238 = .ok (.iload 10, 2) := by decide +kernel
theorem dL_othersSo_240 : decode cL_othersSo 240 = .ok (.invokestatic 229, 3) := by decide +kernel
theorem dL_othersSo_243 : decode cL_othersSo 243 = .ok (.ifCond .eq 7, 3) := by decide +kernel
theorem dL_othersSo_246 : decode cL_othersSo 246 = .ok (.iconst 1, 1) := by decide +kernel
theorem dL_othersSo_247 : decode cL_othersSo 247 = .ok (.goto 4, 3) := by decide +kernel
theorem dL_othersSo_250 : decode cL_othersSo 250 = .ok (.iconst 0, 1) := by decide +kernel
theorem dL_othersSo_251 : decode cL_othersSo 251 = .ok (.istore 7, 2) := by decide +kernel
theorem dL_othersSo_253 : decode cL_othersSo 253 = .ok (.iload_n 3, 1) := by decide +kernel
theorem dL_othersSo_254 : decode cL_othersSo 254 = .ok (.iload 9, 2) := by decide +kernel
theorem dL_othersSo_256 : decode cL_othersSo 256 = .ok (.iadd, 1) := by decide +kernel
theorem dL_othersSo_257 : decode cL_othersSo 257 = .ok (.istore_n 3, 1) := by decide +kernel
theorem dL_othersSo_258 : decode cL_othersSo 258 = .ok (.iload 4, 2) := by decide +kernel
theorem dL_othersSo_260 : decode cL_othersSo 260 = .ok (.iload 10, 2) := by decide +kernel
theorem dL_othersSo_262 : decode cL_othersSo 262 = .ok (.iadd, 1) := by decide +kernel
theorem dL_othersSo_263 : decode cL_othersSo 263 = .ok (.istore 4, 2) := by decide +kernel
theorem dL_othersSo_265 : decode cL_othersSo 265 = .ok (.iinc 8 1, 3) := by decide +kernel
theorem dL_othersSo_268 : decode cL_othersSo 268 = .ok (.goto (-161), 3) := by decide +kernel
theorem dL_othersSo_271 : decode cL_othersSo 271 = .ok (.iconst 0, 1) := by decide +kernel
theorem dL_othersSo_272 : decode cL_othersSo 272 = .ok (.istore 8, 2) := by decide +kernel
theorem dL_othersSo_274 : decode cL_othersSo 274 = .ok (.iload 8, 2) := by decide +kernel
theorem dL_othersSo_276 : decode cL_othersSo 276 = .ok (.iload_n 2, 1) := by decide +kernel
theorem dL_othersSo_277 : decode cL_othersSo 277 = .ok (.if_icmp .ge 37, 3) := by decide +kernel
theorem dL_othersSo_280 : decode cL_othersSo 280 = .ok (.iload 7, 2) := by decide +kernel
theorem dL_othersSo_282 : decode cL_othersSo 282 = .ok (.ifCond .eq 23, 3) := by decide +kernel
theorem dL_othersSo_285 : decode cL_othersSo 285 = .ok (.aload 5, 2) := by decide +kernel
theorem dL_othersSo_287 : decode cL_othersSo 287 = .ok (.iload 8, 2) := by decide +kernel
theorem dL_othersSo_289 : decode cL_othersSo 289 = .ok (.iaload, 1) := by decide +kernel
theorem dL_othersSo_290 : decode cL_othersSo 290 = .ok (.aload 6, 2) := by decide +kernel
theorem dL_othersSo_292 : decode cL_othersSo 292 = .ok (.iload 8, 2) := by decide +kernel
theorem dL_othersSo_294 : decode cL_othersSo 294 = .ok (.iaload, 1) := by decide +kernel
theorem dL_othersSo_295 : decode cL_othersSo 295 = .ok (.invokestatic 229, 3) := by decide +kernel
theorem dL_othersSo_298 : decode cL_othersSo 298 = .ok (.ifCond .eq 7, 3) := by decide +kernel
theorem dL_othersSo_301 : decode cL_othersSo 301 = .ok (.iconst 1, 1) := by decide +kernel
theorem dL_othersSo_302 : decode cL_othersSo 302 = .ok (.goto 4, 3) := by decide +kernel
theorem dL_othersSo_305 : decode cL_othersSo 305 = .ok (.iconst 0, 1) := by decide +kernel
theorem dL_othersSo_306 : decode cL_othersSo 306 = .ok (.istore 7, 2) := by decide +kernel
theorem dL_othersSo_308 : decode cL_othersSo 308 = .ok (.iinc 8 1, 3) := by decide +kernel
theorem dL_othersSo_311 : decode cL_othersSo 311 = .ok (.goto (-37), 3) := by decide +kernel
theorem dL_othersSo_314 : decode cL_othersSo 314 = .ok (.aload_n 0, 1) := by decide +kernel
theorem dL_othersSo_315 : decode cL_othersSo 315 = .ok (.getfield 10, 3) := by decide +kernel
theorem dL_othersSo_318 : decode cL_othersSo 318 = .ok (.invokevirtual 232, 3) := by decide +kernel
theorem dL_othersSo_321 : decode cL_othersSo 321 = .ok (.istore 8, 2) := by decide +kernel
theorem dL_othersSo_323 : decode cL_othersSo 323 = .ok (.iload 7, 2) := by decide +kernel
theorem dL_othersSo_325 : decode cL_othersSo 325 = .ok (.ifCond .eq 43, 3) := by decide +kernel
theorem dL_othersSo_328 : decode cL_othersSo 328 = .ok (.iload_n 3, 1) := by decide +kernel
theorem dL_othersSo_329 : decode cL_othersSo 329 = .ok (.iload 4, 2) := by decide +kernel
theorem dL_othersSo_331 : decode cL_othersSo 331 = .ok (.invokestatic 229, 3) := by decide +kernel
theorem dL_othersSo_334 : decode cL_othersSo 334 = .ok (.ifCond .eq 34, 3) := by decide +kernel
theorem dL_othersSo_337 : decode cL_othersSo 337 = .ok (.iload 8, 2) := by decide +kernel
theorem dL_othersSo_339 : decode cL_othersSo 339 = .ok (.ifCond .lt 29, 3) := by decide +kernel
theorem dL_othersSo_342 : decode cL_othersSo 342 = .ok (.aload_n 0, 1) := by decide +kernel
theorem dL_othersSo_343 : decode cL_othersSo 343 = .ok (.getfield 10, 3) := by decide +kernel
theorem dL_othersSo_346 : decode cL_othersSo 346 = .ok (.iconst 0, 1) := by decide +kernel
theorem dL_othersSo_347 : decode cL_othersSo 347 = .ok (.invokevirtual 235, 3) := by decide +kernel
theorem dL_othersSo_350 : decode cL_othersSo 350 = .ok (.aload_n 0, 1) := by decide +kernel
theorem dL_othersSo_351 : decode cL_othersSo 351 = .ok (.getfield 10, 3) := by decide +kernel
theorem dL_othersSo_354 : decode cL_othersSo 354 = .ok (.iconst 1, 1) := by decide +kernel
theorem dL_othersSo_355 : decode cL_othersSo 355 = .ok (.invokevirtual 235, 3) := by decide +kernel
theorem dL_othersSo_358 : decode cL_othersSo 358 = .ok (.iconst (-1), 1) := by decide +kernel
theorem dL_othersSo_359 : decode cL_othersSo 359 = .ok (.ixor, 1) := by decide +kernel
theorem dL_othersSo_360 : decode cL_othersSo 360 = .ok (.iand, 1) := by decide +kernel
theorem dL_othersSo_361 : decode cL_othersSo 361 = .ok (.ifCond .ne 7, 3) := by decide +kernel
theorem dL_othersSo_364 : decode cL_othersSo 364 = .ok (.iconst 1, 1) := by decide +kernel
theorem dL_othersSo_365 : decode cL_othersSo 365 = .ok (.goto 4, 3) := by decide +kernel
theorem dL_othersSo_368 : decode cL_othersSo 368 = .ok (.iconst 0, 1) := by decide +kernel
theorem dL_othersSo_369 : decode cL_othersSo 369 = .ok (.ireturn, 1) := by decide +kernel
