theorem dL_verdict_142 : decode cL_verdict 142 = .ok (.iload_n 2, 1) := by decide +kernel
theorem dL_verdict_143 : decode cL_verdict 143 = .ok (.iload 11, 2) := by decide +kernel
theorem dL_verdict_145 : decode cL_verdict 145 = .ok (.iconst 1, 1) := by decide +kernel
theorem dL_verdict_146 : decode cL_verdict 146 = .ok (.invokevirtual 165, 3) := by decide +kernel
theorem dL_verdict_149 : decode cL_verdict 149 = .ok (.aload 4, 2) := by decide +kernel
theorem dL_verdict_151 : decode cL_verdict 151 = .ok (.aload_n 0, 1) := by decide +kernel
theorem dL_verdict_152 : decode cL_verdict 152 = .ok (.iload_n 2, 1) := by decide +kernel
theorem dL_verdict_153 : decode cL_verdict 153 = .ok (.iload 11, 2) := by decide +kernel
theorem dL_verdict_155 : decode cL_verdict 155 = .ok (.iconst 0, 1) := by decide +kernel
theorem dL_verdict_156 : decode cL_verdict 156 = .ok (.invokevirtual 165, 3) := by decide +kernel
theorem dL_verdict_159 : decode cL_verdict 159 = .ok (.iaload, 1) := by decide +kernel
theorem dL_verdict_160 : decode cL_verdict 160 = .ok (.isub, 1) := by decide +kernel
theorem dL_verdict_161 : decode cL_verdict 161 = .ok (.istore 12, 2) := by decide +kernel
theorem dL_verdict_163 : decode cL_verdict 163 = .ok (.iconst 0, 1) := by decide +kernel
theorem dL_verdict_164 : decode cL_verdict 164 = .ok (.istore 13, 2) := by decide +kernel
theorem dL_verdict_166 : decode cL_verdict 166 = .ok (.iload 13, 2) := by decide +kernel
theorem dL_verdict_168 : decode cL_verdict 168 = .ok (.iconst 4, 1) := by decide +kernel
theorem dL_verdict_169 : decode cL_verdict 169 = .ok (.if_icmp .ge 75, 3) := by decide +kernel
theorem dL_verdict_172 : decode cL_verdict 172 = .ok (.aload_n 0, 1) := by decide +kernel
theorem dL_verdict_173 : decode cL_verdict 173 = .ok (.iload_n 2, 1) := by decide +kernel
theorem dL_verdict_174 : decode cL_verdict 174 = .ok (.iload 11, 2) := by decide +kernel
theorem dL_verdict_176 : decode cL_verdict 176 = .ok (.iconst 2, 1) := by decide +kernel
theorem dL_verdict_177 : decode cL_verdict 177 = .ok (.invokevirtual 165, 3) := by decide +kernel
theorem dL_verdict_180 : decode cL_verdict 180 = .ok (.iload 13, 2) := by decide +kernel
theorem dL_verdict_182 : decode cL_verdict 182 = .ok (.ishr, 1) := by decide +kernel
theorem dL_verdict_183 : decode cL_verdict 183 = .ok (.iconst 1, 1) := by decide +kernel
theorem dL_verdict_184 : decode cL_verdict 184 = .ok (.iand, 1) := by decide +kernel
theorem dL_verdict_185 : decode cL_verdict 185 = .ok (.iconst 1, 1) := by decide +kernel
theorem dL_verdict_186 : decode cL_verdict 186 = .ok (.if_icmp .ne 18, 3) := by decide +kernel
theorem dL_verdict_189 : decode cL_verdict 189 = .ok (.aload 9, 2) := by decide +kernel
theorem dL_verdict_191 : decode cL_verdict 191 = .ok (.iload 13, 2) := by decide +kernel
theorem dL_verdict_193 : decode cL_verdict 193 = .ok (.aload 9, 2) := by decide +kernel
theorem dL_verdict_195 : decode cL_verdict 195 = .ok (.iload 13, 2) := by decide +kernel
theorem dL_verdict_197 : decode cL_verdict 197 = .ok (.iaload, 1) := by decide +kernel
theorem dL_verdict_198 : decode cL_verdict 198 = .ok (.iload 12, 2) := by decide +kernel
theorem dL_verdict_200 : decode cL_verdict 200 = .ok (.invokestatic 176, 3) := by decide +kernel
theorem dL_verdict_203 : decode cL_verdict 203 = .ok (.iastore, 1) := by decide +kernel
theorem dL_verdict_204 : decode cL_verdict 204 = .ok (.aload_n 0, 1) := by decide +kernel
theorem dL_verdict_205 : decode cL_verdict 205 = .ok (.iload_n 2, 1) := by decide +kernel
theorem dL_verdict_206 : decode cL_verdict 206 = .ok (.iload 11, 2) := by decide +kernel
theorem dL_verdict_208 : decode cL_verdict 208 = .ok (.iconst 3, 1) := by decide +kernel
theorem dL_verdict_209 : decode cL_verdict 209 = .ok (.invokevirtual 165, 3) := by decide +kernel
theorem dL_verdict_212 : decode cL_verdict 212 = .ok (.iload 13, 2) := by decide +kernel
theorem dL_verdict_214 : decode cL_verdict 214 = .ok (.ishr, 1) := by decide +kernel
theorem dL_verdict_215 : decode cL_verdict 215 = .ok (.iconst 1, 1) := by decide +kernel
theorem dL_verdict_216 : decode cL_verdict 216 = .ok (.iand, 1) := by decide +kernel
theorem dL_verdict_217 : decode cL_verdict 217 = .ok (.iconst 1, 1) := by decide +kernel
theorem dL_verdict_218 : decode cL_verdict 218 = .ok (.if_icmp .ne 20, 3) := by decide +kernel
theorem dL_verdict_221 : decode cL_verdict 221 = .ok (.aload 8, 2) := by decide +kernel
theorem dL_verdict_223 : decode cL_verdict 223 = .ok (.iload 13, 2) := by decide +kernel
theorem dL_verdict_225 : decode cL_verdict 225 = .ok (.aload 8, 2) := by decide +kernel
theorem dL_verdict_227 : decode cL_verdict 227 = .ok (.iload 13, 2) := by decide +kernel
theorem dL_verdict_229 : decode cL_verdict 229 = .ok (.iaload, 1) := by decide +kernel
theorem dL_verdict_230 : decode cL_verdict 230 = .ok (.iload 12, 2) := by decide +kernel
theorem dL_verdict_232 : decode cL_verdict 232 = .ok (.iconst 1, 1) := by decide +kernel
theorem dL_verdict_233 : decode cL_verdict 233 = .ok (.iadd, 1) := by decide +kernel
theorem dL_verdict_234 : decode cL_verdict 234 = .ok (.invokestatic 181, 3) := by decide +kernel
theorem dL_verdict_237 : decode cL_verdict 237 = .ok (.iastore, 1) := by decide +kernel
theorem dL_verdict_238 : decode cL_verdict 238 = .ok (.iinc 13 1, 3) := by decide +kernel
theorem dL_verdict_241 : decode cL_verdict 241 = .ok (.goto (-75), 3) := by decide +kernel
theorem dL_verdict_244 : decode cL_verdict 244 = .ok (.iinc 11 1, 3) := by decide +kernel
theorem dL_verdict_247 : decode cL_verdict 247 = .ok (.goto (-129), 3) := by decide +kernel
theorem dL_verdict_250 : decode cL_verdict 250 = .ok (.iconst 0, 1) := by decide +kernel
theorem dL_verdict_251 : decode cL_verdict 251 = .ok (.istore 11, 2) := by decide +kernel
theorem dL_verdict_253 : decode cL_verdict 253 = .ok (.iload 11, 2) := by decide +kernel
theorem dL_verdict_255 : decode cL_verdict 255 = .ok (.iconst 4, 1) := by decide +kernel
theorem dL_verdict_256 : decode cL_verdict 256 = .ok (.if_icmp .ge 32, 3) := by decide +kernel
theorem dL_verdict_259 : decode cL_verdict 259 = .ok (.iload 10, 2) := by decide +kernel
theorem dL_verdict_261 : decode cL_verdict 261 = .ok (.aload 8, 2) := by decide +kernel
theorem dL_verdict_263 : decode cL_verdict 263 = .ok (.iload 11, 2) := by decide +kernel
theorem dL_verdict_265 : decode cL_verdict 265 = .ok (.iaload, 1) := by decide +kernel
theorem dL_verdict_266 : decode cL_verdict 266 = .ok (.aload 9, 2) := by decide +kernel
theorem dL_verdict_268 : decode cL_verdict 268 = .ok (.iload 11, 2) := by decide +kernel
theorem dL_verdict_270 : decode cL_verdict 270 = .ok (.iaload, 1) := by decide +kernel
theorem dL_verdict_271 : decode cL_verdict 271 = .ok (.if_icmp .gt 7, 3) := by decide +kernel
theorem dL_verdict_274 : decode cL_verdict 274 = .ok (.iconst 1, 1) := by decide +kernel
theorem dL_verdict_275 : decode cL_verdict 275 = .ok (.goto 4, 3) := by decide +kernel
theorem dL_verdict_278 : decode cL_verdict 278 = .ok (.iconst 0, 1) := by decide +kernel
theorem dL_verdict_279 : decode cL_verdict 279 = .ok (.iand, 1) := by decide +kernel
theorem dL_verdict_280 : decode cL_verdict 280 = .ok (.istore 10, 2) := by decide +kernel
theorem dL_verdict_282 : decode cL_verdict 282 = .ok (.iinc 11 1, 3) := by decide +kernel
theorem dL_verdict_285 : decode cL_verdict 285 = .ok (.goto (-32), 3) := by decide +kernel
theorem dL_verdict_288 : decode cL_verdict 288 = .ok (.iload 10, 2) := by decide +kernel
theorem dL_verdict_290 : decode cL_verdict 290 = .ok (.ifCond .ne 6, 3) := by decide +kernel
theorem dL_verdict_293 : decode cL_verdict 293 = .ok (.goto 52, 3) := by decide +kernel
theorem dL_verdict_296 : decode cL_verdict 296 = .ok (.iconst 1, 1) := by decide +kernel
theorem dL_verdict_297 : decode cL_verdict 297 = .ok (.istore 5, 2) := by decide +kernel
theorem dL_verdict_299 : decode cL_verdict 299 = .ok (.iload 6, 2) := by decide +kernel
theorem dL_verdict_301 : decode cL_verdict 301 = .ok (.aload_n 1, 1) := by decide +kernel
theorem dL_verdict_302 : decode cL_verdict 302 = .ok (.aload_n 0, 1) := by decide +kernel
theorem dL_verdict_303 : decode cL_verdict 303 = .ok (.iload_n 2, 1) := by decide +kernel
theorem dL_verdict_304 : decode cL_verdict 304 = .ok (.iconst 1, 1) := by decide +kernel
theorem dL_verdict_305 : decode cL_verdict 305 = .ok (.invokevirtual 135, 3) := by decide +kernel
theorem dL_verdict_308 : decode cL_verdict 308 = .ok (.aload 8, 2) := by decide +kernel
theorem dL_verdict_310 : decode cL_verdict 310 = .ok (.aload 9, 2) := by decide +kernel
theorem dL_verdict_312 : decode cL_verdict 312 = .ok (.invokestatic 184, 3) := by decide +kernel
theorem dL_verdict_315 : decode cL_verdict 315 = .ok (.iand, 1) := by decide +kernel
theorem dL_verdict_316 : decode cL_verdict 316 = .ok (.istore 6, 2) := by decide +kernel
theorem dL_verdict_318 : decode cL_verdict 318 = .ok (.iload 7, 2) := by decide +kernel
theorem dL_verdict_320 : decode cL_verdict 320 = .ok (.aload_n 1, 1) := by decide +kernel
theorem dL_verdict_321 : decode cL_verdict 321 = .ok (.aload_n 0, 1) := by decide +kernel
theorem dL_verdict_322 : decode cL_verdict 322 = .ok (.iload_n 2, 1) := by decide +kernel
theorem dL_verdict_323 : decode cL_verdict 323 = .ok (.iconst 1, 1) := by decide +kernel
theorem dL_verdict_324 : decode cL_verdict 324 = .ok (.invokevirtual 135, 3) := by decide +kernel
theorem dL_verdict_327 : decode cL_verdict 327 = .ok (.aload 8, 2) := by decide +kernel
theorem dL_verdict_329 : decode cL_verdict 329 = .ok (.aload 9, 2) := by decide +kernel
theorem dL_verdict_331 : decode cL_verdict 331 = .ok (.invokestatic 188, 3) := by decide +kernel
theorem dL_verdict_334 : decode cL_verdict 334 = .ok (.ifCond .ne 7, 3) := by decide +kernel
theorem dL_verdict_337 : decode cL_verdict 337 = .ok (.iconst 1, 1) := by decide +kernel
theorem dL_verdict_338 : decode cL_verdict 338 = .ok (.goto 4, 3) := by decide +kernel
theorem dL_verdict_341 : decode cL_verdict 341 = .ok (.iconst 0, 1) := by decide +kernel
theorem dL_verdict_342 : decode cL_verdict 342 = .ok (.iand, 1) := by decide +kernel
theorem dL_verdict_343 : decode cL_verdict 343 = .ok (.istore 7, 2) := by decide +kernel
theorem dL_verdict_345 : decode cL_verdict 345 = .ok (.aload_n 0, 1) := by decide +kernel
theorem dL_verdict_346 : decode cL_verdict 346 = .ok (.aload 4, 2) := by decide +kernel
theorem dL_verdict_348 : decode cL_verdict 348 = .ok (.invokestatic 191, 3) := by decide +kernel
theorem dL_verdict_351 : decode cL_verdict 351 = .ok (.ifCond .ne (-310), 3) := by decide +kernel
theorem dL_verdict_354 : decode cL_verdict 354 = .ok (.iload 5, 2) := by decide +kernel
theorem dL_verdict_356 : decode cL_verdict 356 = .ok (.ifCond .ne 7, 3) := by decide +kernel
theorem dL_verdict_359 : decode cL_verdict 359 = .ok (.iconst 3, 1) := by decide +kernel
theorem dL_verdict_360 : decode cL_verdict 360 = .ok (.goto 22, 3) := by decide +kernel
theorem dL_verdict_363 : decode cL_verdict 363 = .ok (.iload 6, 2) := by decide +kernel
theorem dL_verdict_365 : decode cL_verdict 365 = .ok (.ifCond .eq 7, 3) := by decide +kernel
theorem dL_verdict_368 : decode cL_verdict 368 = .ok (.iconst 1, 1) := by decide +kernel
theorem dL_verdict_369 : decode cL_verdict 369 = .ok (.goto 13, 3) := by decide +kernel
theorem dL_verdict_372 : decode cL_verdict 372 = .ok (.iload 7, 2) := by decide +kernel
theorem dL_verdict_374 : decode cL_verdict 374 = .ok (.ifCond .eq 7, 3) := by decide +kernel
theorem dL_verdict_377 : decode cL_verdict 377 = .ok (.iconst 0, 1) := by decide +kernel
theorem dL_verdict_378 : decode cL_verdict 378 = .ok (.goto 4, 3) := by decide +kernel
theorem dL_verdict_381 : decode cL_verdict 381 = .ok (.iconst 2, 1) := by decide +kernel
theorem dL_verdict_382 : decode cL_verdict 382 = .ok (.ireturn, 1) := by decide +kernel
theorem dL_first_0 : decode cL_first 0 = .ok (.iload_n 2, 1) := by decide +kernel
theorem dL_first_1 : decode cL_first 1 = .ok (.ifCond .ne 15, 3) := by decide +kernel
theorem dL_first_4 : decode cL_first 4 = .ok (.aload_n 0, 1) := by decide +kernel
theorem dL_first_5 : decode cL_first 5 = .ok (.bipush 17, 2) := by decide +kernel
theorem dL_first_7 : decode cL_first 7 = .ok (.iload_n 1, 1) := by decide +kernel
theorem dL_first_8 : decode cL_first 8 = .ok (.iadd, 1) := by decide +kernel
theorem dL_first_9 : decode cL_first 9 = .ok (.iconst 3, 1) := by decide +kernel
theorem dL_first_10 : decode cL_first 10 = .ok (.invokestatic 49, 3) := by decide +kernel
theorem dL_first_13 : decode cL_first 13 = .ok (.goto 4, 3) := by decide +kernel
theorem dL_first_16 : decode cL_first 16 = .ok (.iconst 0, 1) := by decide +kernel
theorem dL_first_17 : decode cL_first 17 = .ok (.ireturn, 1) := by decide +kernel
theorem dL_second_0 : decode cL_second 0 = .ok (.iload_n 2, 1) := by decide +kernel
theorem dL_second_1 : decode cL_second 1 = .ok (.ifCond .ne 29, 3) := by decide +kernel
theorem dL_second_4 : decode cL_second 4 = .ok (.aload_n 0, 1) := by decide +kernel
theorem dL_second_5 : decode cL_second 5 = .ok (.bipush 17, 2) := by decide +kernel
theorem dL_second_7 : decode cL_second 7 = .ok (.iload_n 1, 1) := by decide +kernel
theorem dL_second_8 : decode cL_second 8 = .ok (.iadd, 1) := by decide +kernel
theorem dL_second_9 : decode cL_second 9 = .ok (.iconst 3, 1) := by decide +kernel
theorem dL_second_10 : decode cL_second 10 = .ok (.invokestatic 49, 3) := by decide +kernel
theorem dL_second_13 : decode cL_second 13 = .ok (.iconst 1, 1) := by decide +kernel
theorem dL_second_14 : decode cL_second 14 = .ok (.iadd, 1) := by decide +kernel
theorem dL_second_15 : decode cL_second 15 = .ok (.aload_n 0, 1) := by decide +kernel
theorem dL_second_16 : decode cL_second 16 = .ok (.bipush 25, 2) := by decide +kernel
theorem dL_second_18 : decode cL_second 18 = .ok (.iload_n 1, 1) := by decide +kernel
theorem dL_second_19 : decode cL_second 19 = .ok (.iadd, 1) := by decide +kernel
theorem dL_second_20 : decode cL_second 20 = .ok (.iconst 2, 1) := by decide +kernel
theorem dL_second_21 : decode cL_second 21 = .ok (.invokestatic 49, 3) := by decide +kernel
theorem dL_second_24 : decode cL_second 24 = .ok (.iadd, 1) := by decide +kernel
theorem dL_second_25 : decode cL_second 25 = .ok (.iconst 3, 1) := by decide +kernel
theorem dL_second_26 : decode cL_second 26 = .ok (.irem, 1) := by decide +kernel
theorem dL_second_27 : decode cL_second 27 = .ok (.goto 14, 3) := by decide +kernel
theorem dL_second_30 : decode cL_second 30 = .ok (.iconst 1, 1) := by decide +kernel
theorem dL_second_31 : decode cL_second 31 = .ok (.aload_n 0, 1) := by decide +kernel
theorem dL_second_32 : decode cL_second 32 = .ok (.bipush 29, 2) := by decide +kernel
theorem dL_second_34 : decode cL_second 34 = .ok (.iload_n 1, 1) := by decide +kernel
theorem dL_second_35 : decode cL_second 35 = .ok (.iadd, 1) := by decide +kernel
theorem dL_second_36 : decode cL_second 36 = .ok (.iconst 2, 1) := by decide +kernel
theorem dL_second_37 : decode cL_second 37 = .ok (.invokestatic 49, 3) := by decide +kernel
theorem dL_second_40 : decode cL_second 40 = .ok (.iadd, 1) := by decide +kernel
theorem dL_second_41 : decode cL_second 41 = .ok (.ireturn, 1) := by decide +kernel
theorem dL_pairs_0 : decode cL_pairs 0 = .ok (.aload_n 0, 1) := by decide +kernel
theorem dL_pairs_1 : decode cL_pairs 1 = .ok (.bipush 27, 2) := by decide +kernel
theorem dL_pairs_3 : decode cL_pairs 3 = .ok (.iload_n 1, 1) := by decide +kernel
theorem dL_pairs_4 : decode cL_pairs 4 = .ok (.iadd, 1) := by decide +kernel
theorem dL_pairs_5 : decode cL_pairs 5 = .ok (.iconst 3, 1) := by decide +kernel
theorem dL_pairs_6 : decode cL_pairs 6 = .ok (.invokestatic 49, 3) := by decide +kernel
theorem dL_pairs_9 : decode cL_pairs 9 = .ok (.ifCond .ne 7, 3) := by decide +kernel
theorem dL_pairs_12 : decode cL_pairs 12 = .ok (.iconst 2, 1) := by decide +kernel
theorem dL_pairs_13 : decode cL_pairs 13 = .ok (.goto 4, 3) := by decide +kernel
theorem dL_pairs_16 : decode cL_pairs 16 = .ok (.iconst 1, 1) := by decide +kernel
theorem dL_pairs_17 : decode cL_pairs 17 = .ok (.ireturn, 1) := by decide +kernel
theorem dL_doAll_0 : decode cL_doAll 0 = .ok (.iconst 0, 1) := by decide +kernel
theorem dL_doAll_1 : decode cL_doAll 1 = .ok (.istore 4, 2) := by decide +kernel
theorem dL_doAll_3 : decode cL_doAll 3 = .ok (.iload 4, 2) := by decide +kernel
theorem dL_doAll_5 : decode cL_doAll 5 = .ok (.aload_n 0, 1) := by decide +kernel
theorem dL_doAll_6 : decode cL_doAll 6 = .ok (.iload_n 1, 1) := by decide +kernel
theorem dL_doAll_7 : decode cL_doAll 7 = .ok (.invokestatic 194, 3) := by decide +kernel
theorem dL_doAll_10 : decode cL_doAll 10 = .ok (.if_icmp .ge 32, 3) := by decide +kernel
theorem dL_doAll_13 : decode cL_doAll 13 = .ok (.aload_n 3, 1) := by decide +kernel
theorem dL_doAll_14 : decode cL_doAll 14 = .ok (.aload_n 0, 1) := by decide +kernel
theorem dL_doAll_15 : decode cL_doAll 15 = .ok (.iload_n 1, 1) := by decide +kernel
theorem dL_doAll_16 : decode cL_doAll 16 = .ok (.iload 4, 2) := by decide +kernel
theorem dL_doAll_18 : decode cL_doAll 18 = .ok (.invokestatic 197, 3) := by decide +kernel
theorem dL_doAll_21 : decode cL_doAll 21 = .ok (.iaload, 1) := by decide +kernel
theorem dL_doAll_22 : decode cL_doAll 22 = .ok (.aload_n 2, 1) := by decide +kernel
theorem dL_doAll_23 : decode cL_doAll 23 = .ok (.aload_n 0, 1) := by decide +kernel
theorem dL_doAll_24 : decode cL_doAll 24 = .ok (.iload_n 1, 1) := by decide +kernel
theorem dL_doAll_25 : decode cL_doAll 25 = .ok (.iload 4, 2) := by decide +kernel
theorem dL_doAll_27 : decode cL_doAll 27 = .ok (.invokestatic 200, 3) := by decide +kernel
theorem dL_doAll_30 : decode cL_doAll 30 = .ok (.iaload, 1) := by decide +kernel
theorem dL_doAll_31 : decode cL_doAll 31 = .ok (.if_icmp .lt 5, 3) := by decide +kernel
theorem dL_doAll_34 : decode cL_doAll 34 = .ok (.iconst 0, 1) := by decide +kernel
theorem dL_doAll_35 : decode cL_doAll 35 = .ok (.ireturn, 1) := by decide +kernel
theorem dL_doAll_36 : decode cL_doAll 36 = .ok (.iinc 4 1, 3) := by decide +kernel
theorem dL_doAll_39 : decode cL_doAll 39 = .ok (.goto (-36), 3) := by decide +kernel
theorem dL_doAll_42 : decode cL_doAll 42 = .ok (.iconst 1, 1) := by decide +kernel
theorem dL_doAll_43 : decode cL_doAll 43 = .ok (.ireturn, 1) := by decide +kernel
theorem dL_canAll_0 : decode cL_canAll 0 = .ok (.aload_n 2, 1) := by decide +kernel
theorem dL_canAll_1 : decode cL_canAll 1 = .ok (.invokevirtual 203, 3) := by decide +kernel
theorem dL_canAll_4 : decode cL_canAll 4 = .ok (.checkcast 204, 3) := by decide +kernel
theorem dL_canAll_7 : decode cL_canAll 7 = .ok (.astore 4, 2) := by decide +kernel
theorem dL_canAll_9 : decode cL_canAll 9 = .ok (.iconst 0, 1) := by decide +kernel
theorem dL_canAll_10 : decode cL_canAll 10 = .ok (.istore 5, 2) := by decide +kernel
theorem dL_canAll_12 : decode cL_canAll 12 = .ok (.iload 5, 2) := by decide +kernel
theorem dL_canAll_14 : decode cL_canAll 14 = .ok (.iconst 5, 1) := by decide +kernel
theorem dL_canAll_15 : decode cL_canAll 15 = .ok (.if_icmp .ge 63, 3) := by decide +kernel
theorem dL_canAll_18 : decode cL_canAll 18 = .ok (.iconst 0, 1) := by decide +kernel
theorem dL_canAll_19 : decode cL_canAll 19 = .ok (.istore 6, 2) := by decide +kernel
theorem dL_canAll_21 : decode cL_canAll 21 = .ok (.iload 6, 2) := by decide +kernel
theorem dL_canAll_23 : decode cL_canAll 23 = .ok (.aload_n 0, 1) := by decide +kernel
theorem dL_canAll_24 : decode cL_canAll 24 = .ok (.iload_n 1, 1) := by decide +kernel
theorem dL_canAll_25 : decode cL_canAll 25 = .ok (.invokestatic 194, 3) := by decide +kernel
theorem dL_canAll_28 : decode cL_canAll 28 = .ok (.if_icmp .ge 44, 3) := by decide +kernel
theorem dL_canAll_31 : decode cL_canAll 31 = .ok (.aload 4, 2) := by decide +kernel
theorem dL_canAll_33 : decode cL_canAll 33 = .ok (.aload_n 0, 1) := by decide +kernel
theorem dL_canAll_34 : decode cL_canAll 34 = .ok (.iload_n 1, 1) := by decide +kernel
theorem dL_canAll_35 : decode cL_canAll 35 = .ok (.iload 6, 2) := by decide +kernel
theorem dL_canAll_37 : decode cL_canAll 37 = .ok (.invokestatic 200, 3) := by decide +kernel
theorem dL_canAll_40 : decode cL_canAll 40 = .ok (.aload 4, 2) := by decide +kernel
theorem dL_canAll_42 : decode cL_canAll 42 = .ok (.aload_n 0, 1) := by decide +kernel
theorem dL_canAll_43 : decode cL_canAll 43 = .ok (.iload_n 1, 1) := by decide +kernel
theorem dL_canAll_44 : decode cL_canAll 44 = .ok (.iload 6, 2) := by decide +kernel
theorem dL_canAll_46 : decode cL_canAll 46 = .ok (.invokestatic 200, 3) := by decide +kernel
theorem dL_canAll_49 : decode cL_canAll 49 = .ok (.iaload, 1) := by decide +kernel
theorem dL_canAll_50 : decode cL_canAll 50 = .ok (.aload 4, 2) := by decide +kernel
theorem dL_canAll_52 : decode cL_canAll 52 = .ok (.aload_n 0, 1) := by decide +kernel
theorem dL_canAll_53 : decode cL_canAll 53 = .ok (.iload_n 1, 1) := by decide +kernel
theorem dL_canAll_54 : decode cL_canAll 54 = .ok (.iload 6, 2) := by decide +kernel
theorem dL_canAll_56 : decode cL_canAll 56 = .ok (.invokestatic 197, 3) := by decide +kernel
theorem dL_canAll_59 : decode cL_canAll 59 = .ok (.iaload, 1) := by decide +kernel
theorem dL_canAll_60 : decode cL_canAll 60 = .ok (.iconst 1, 1) := by decide +kernel
theorem dL_canAll_61 : decode cL_canAll 61 = .ok (.iadd, 1) := by decide +kernel
theorem dL_canAll_62 : decode cL_canAll 62 = .ok (.invokestatic 181, 3) := by decide +kernel
theorem dL_canAll_65 : decode cL_canAll 65 = .ok (.iastore, 1) := by decide +kernel
theorem dL_canAll_66 : decode cL_canAll 66 = .ok (.iinc 6 1, 3) := by decide +kernel
theorem dL_canAll_69 : decode cL_canAll 69 = .ok (.goto (-48), 3) := by decide +kernel
theorem dL_canAll_72 : decode cL_canAll 72 = .ok (.iinc 5 1, 3) := by decide +kernel
theorem dL_canAll_75 : decode cL_canAll 75 = .ok (.goto (-63), 3) := by decide +kernel
theorem dL_canAll_78 : decode cL_canAll 78 = .ok (.iconst 0, 1) := by decide +kernel
theorem dL_canAll_79 : decode cL_canAll 79 = .ok (.istore 5, 2) := by decide +kernel
theorem dL_canAll_81 : decode cL_canAll 81 = .ok (.iload 5, 2) := by decide +kernel
theorem dL_canAll_83 : decode cL_canAll 83 = .ok (.aload_n 0, 1) := by decide +kernel
theorem dL_canAll_84 : decode cL_canAll 84 = .ok (.iload_n 1, 1) := by decide +kernel
theorem dL_canAll_85 : decode cL_canAll 85 = .ok (.invokestatic 194, 3) := by decide +kernel
theorem dL_canAll_88 : decode cL_canAll 88 = .ok (.if_icmp .ge 34, 3) := by decide +kernel
theorem dL_canAll_91 : decode cL_canAll 91 = .ok (.aload 4, 2) := by decide +kernel
theorem dL_canAll_93 : decode cL_canAll 93 = .ok (.aload_n 0, 1) := by decide +kernel
theorem dL_canAll_94 : decode cL_canAll 94 = .ok (.iload_n 1, 1) := by decide +kernel
theorem dL_canAll_95 : decode cL_canAll 95 = .ok (.iload 5, 2) := by decide +kernel
theorem dL_canAll_97 : decode cL_canAll 97 = .ok (.invokestatic 200, 3) := by decide +kernel
theorem dL_canAll_100 : decode cL_canAll 100 = .ok (.iaload, 1) := by decide +kernel
theorem dL_canAll_101 : decode cL_canAll 101 = .ok (.aload 4, 2) := by decide +kernel
theorem dL_canAll_103 : decode cL_canAll 103 = .ok (.aload_n 0, 1) := by decide +kernel
theorem dL_canAll_104 : decode cL_canAll 104 = .ok (.iload_n 1, 1) := by decide +kernel
theorem dL_canAll_105 : decode cL_canAll 105 = .ok (.iload 5, 2) := by decide +kernel
theorem dL_canAll_107 : decode cL_canAll 107 = .ok (.invokestatic 197, 3) := by decide +kernel
theorem dL_canAll_110 : decode cL_canAll 110 = .ok (.iaload, 1) := by decide +kernel
theorem dL_canAll_111 : decode cL_canAll 111 = .ok (.if_icmp .gt 5, 3) := by decide +kernel
theorem dL_canAll_114 : decode cL_canAll 114 = .ok (.iconst 0, 1) := by decide +kernel
theorem dL_canAll_115 : decode cL_canAll 115 = .ok (.ireturn, 1) := by decide +kernel
theorem dL_canAll_116 : decode cL_canAll 116 = .ok (.iinc 5 1, 3) := by decide +kernel
theorem dL_canAll_119 : decode cL_canAll 119 = .ok (.goto (-38), 3) := by decide +kernel
theorem dL_canAll_122 : decode cL_canAll 122 = .ok (.iconst 0, 1) := by decide +kernel
theorem dL_canAll_123 : decode cL_canAll 123 = .ok (.istore 5, 2) := by decide +kernel
theorem dL_canAll_125 : decode cL_canAll 125 = .ok (.iload 5, 2) := by decide +kernel
theorem dL_canAll_127 : decode cL_canAll 127 = .ok (.iconst 4, 1) := by decide +kernel
theorem dL_canAll_128 : decode cL_canAll 128 = .ok (.if_icmp .ge 23, 3) := by decide +kernel
theorem dL_canAll_131 : decode cL_canAll 131 = .ok (.aload 4, 2) := by decide +kernel
theorem dL_canAll_133 : decode cL_canAll 133 = .ok (.iload 5, 2) := by decide +kernel
theorem dL_canAll_135 : decode cL_canAll 135 = .ok (.iaload, 1) := by decide +kernel
theorem dL_canAll_136 : decode cL_canAll 136 = .ok (.aload_n 3, 1) := by decide +kernel
theorem dL_canAll_137 : decode cL_canAll 137 = .ok (.iload 5, 2) := by decide +kernel
theorem dL_canAll_139 : decode cL_canAll 139 = .ok (.iaload, 1) := by decide +kernel
theorem dL_canAll_140 : decode cL_canAll 140 = .ok (.if_icmp .le 5, 3) := by decide +kernel
theorem dL_canAll_143 : decode cL_canAll 143 = .ok (.iconst 0, 1) := by decide +kernel
theorem dL_canAll_144 : decode cL_canAll 144 = .ok (.ireturn, 1) := by decide +kernel
theorem dL_canAll_145 : decode cL_canAll 145 = .ok (.iinc 5 1, 3) := by decide +kernel
theorem dL_canAll_148 : decode cL_canAll 148 = .ok (.goto (-23), 3) := by decide +kernel
theorem dL_canAll_151 : decode cL_canAll 151 = .ok (.iconst 1, 1) := by decide +kernel
theorem dL_canAll_152 : decode cL_canAll 152 = .ok (.ireturn, 1) := by decide +kernel
theorem dL_areClocks_0 : decode cL_areClocks 0 = .ok (.iconst 3, 1) := by decide +kernel
theorem dL_areClocks_1 : decode cL_areClocks 1 = .ok (.newarray .int, 2) := by decide +kernel
theorem dL_areClocks_3 : decode cL_areClocks 3 = .ok (.dup, 1) := by decide +kernel
theorem dL_areClocks_4 : decode cL_areClocks 4 = .ok (.iconst 0, 1) := by decide +kernel
theorem dL_areClocks_5 : decode cL_areClocks 5 = .ok (.aload_n 0, 1) := by decide +kernel
theorem dL_areClocks_6 : decode cL_areClocks 6 = .ok (.iconst 0, 1) := by decide +kernel
theorem dL_areClocks_7 : decode cL_areClocks 7 = .ok (.iconst 0, 1) := by decide +kernel
theorem dL_areClocks_8 : decode cL_areClocks 8 = .ok (.invokevirtual 169, 3) := by decide +kernel
theorem dL_areClocks_11 : decode cL_areClocks 11 = .ok (.iastore, 1) := by decide +kernel
theorem dL_areClocks_12 : decode cL_areClocks 12 = .ok (.dup, 1) := by decide +kernel
theorem dL_areClocks_13 : decode cL_areClocks 13 = .ok (.iconst 1, 1) := by decide +kernel
theorem dL_areClocks_14 : decode cL_areClocks 14 = .ok (.aload_n 0, 1) := by decide +kernel
theorem dL_areClocks_15 : decode cL_areClocks 15 = .ok (.iconst 1, 1) := by decide +kernel
theorem dL_areClocks_16 : decode cL_areClocks 16 = .ok (.iconst 0, 1) := by decide +kernel
theorem dL_areClocks_17 : decode cL_areClocks 17 = .ok (.invokevirtual 169, 3) := by decide +kernel
theorem dL_areClocks_20 : decode cL_areClocks 20 = .ok (.iastore, 1) := by decide +kernel
theorem dL_areClocks_21 : decode cL_areClocks 21 = .ok (.dup, 1) := by decide +kernel
theorem dL_areClocks_22 : decode cL_areClocks 22 = .ok (.iconst 2, 1) := by decide +kernel
theorem dL_areClocks_23 : decode cL_areClocks 23 = .ok (.aload_n 0, 1) := by decide +kernel
theorem dL_areClocks_24 : decode cL_areClocks 24 = .ok (.iconst 2, 1) := by decide +kernel
theorem dL_areClocks_25 : decode cL_areClocks 25 = .ok (.iconst 0, 1) := by decide +kernel
theorem dL_areClocks_26 : decode cL_areClocks 26 = .ok (.invokevirtual 169, 3) := by decide +kernel
theorem dL_areClocks_29 : decode cL_areClocks 29 = .ok (.iastore, 1) := by decide +kernel
theorem dL_areClocks_30 : decode cL_areClocks 30 = .ok (.astore_n 2, 1) := by decide +kernel
theorem dL_areClocks_31 : decode cL_areClocks 31 = .ok (.iconst 3, 1) := by decide +kernel
theorem dL_areClocks_32 : decode cL_areClocks 32 = .ok (.newarray .int, 2) := by decide +kernel
theorem dL_areClocks_34 : decode cL_areClocks 34 = .ok (.dup, 1) := by decide +kernel
theorem dL_areClocks_35 : decode cL_areClocks 35 = .ok (.iconst 0, 1) := by decide +kernel
theorem dL_areClocks_36 : decode cL_areClocks 36 = .ok (.sipush 9999, 3) := by decide +kernel
theorem dL_areClocks_39 : decode cL_areClocks 39 = .ok (.iastore, 1) := by decide +kernel
theorem dL_areClocks_40 : decode cL_areClocks 40 = .ok (.dup, 1) := by decide +kernel
theorem dL_areClocks_41 : decode cL_areClocks 41 = .ok (.iconst 1, 1) := by decide +kernel
theorem dL_areClocks_42 : decode cL_areClocks 42 = .ok (.sipush 9999, 3) := by decide +kernel
theorem dL_areClocks_45 : decode cL_areClocks 45 = .ok (.iastore, 1) := by decide +kernel
theorem dL_areClocks_46 : decode cL_areClocks 46 = .ok (.dup, 1) := by decide +kernel
theorem dL_areClocks_47 : decode cL_areClocks 47 = .ok (.iconst 2, 1) := by decide +kernel
theorem dL_areClocks_48 : decode cL_areClocks 48 = .ok (.sipush 9999, 3) := by decide +kernel
theorem dL_areClocks_51 : decode cL_areClocks 51 = .ok (.iastore, 1) := by decide +kernel
theorem dL_areClocks_52 : decode cL_areClocks 52 = .ok (.astore_n 3, 1) := by decide +kernel
theorem dL_areClocks_53 : decode cL_areClocks 53 = .ok (.iconst 3, 1) := by decide +kernel
theorem dL_areClocks_54 : decode cL_areClocks 54 = .ok (.newarray .int, 2) := by decide +kernel
theorem dL_areClocks_56 : decode cL_areClocks 56 = .ok (.dup, 1) := by decide +kernel
theorem dL_areClocks_57 : decode cL_areClocks 57 = .ok (.iconst 0, 1) := by decide +kernel
theorem dL_areClocks_58 : decode cL_areClocks 58 = .ok (.iconst (-1), 1) := by decide +kernel
theorem dL_areClocks_59 : decode cL_areClocks 59 = .ok (.iastore, 1) := by decide +kernel
theorem dL_areClocks_60 : decode cL_areClocks 60 = .ok (.dup, 1) := by decide +kernel
theorem dL_areClocks_61 : decode cL_areClocks 61 = .ok (.iconst 1, 1) := by decide +kernel
theorem dL_areClocks_62 : decode cL_areClocks 62 = .ok (.iconst (-1), 1) := by decide +kernel
theorem dL_areClocks_63 : decode cL_areClocks 63 = .ok (.iastore, 1) := by decide +kernel
theorem dL_areClocks_64 : decode cL_areClocks 64 = .ok (.dup, 1) := by decide +kernel
theorem dL_areClocks_65 : decode cL_areClocks 65 = .ok (.iconst 2, 1) := by decide +kernel
theorem dL_areClocks_66 : decode cL_areClocks 66 = .ok (.iconst (-1), 1) := by decide +kernel
theorem dL_areClocks_67 : decode cL_areClocks 67 = .ok (.iastore, 1) := by decide +kernel
theorem dL_areClocks_68 : decode cL_areClocks 68 = .ok (.astore 4, 2) := by decide +kernel
theorem dL_areClocks_70 : decode cL_areClocks 70 = .ok (.aload_n 0, 1) := by decide +kernel
theorem dL_areClocks_71 : decode cL_areClocks 71 = .ok (.aload_n 1, 1) := by decide +kernel
theorem dL_areClocks_72 : decode cL_areClocks 72 = .ok (.aload_n 2, 1) := by decide +kernel
theorem dL_areClocks_73 : decode cL_areClocks 73 = .ok (.invokestatic 172, 3) := by decide +kernel
theorem dL_areClocks_76 : decode cL_areClocks 76 = .ok (.ifCond .ne 6, 3) := by decide +kernel
theorem dL_areClocks_79 : decode cL_areClocks 79 = .ok (.goto 50, 3) := by decide +kernel
theorem dL_areClocks_82 : decode cL_areClocks 82 = .ok (.iconst 0, 1) := by decide +kernel
theorem dL_areClocks_83 : decode cL_areClocks 83 = .ok (.istore 5, 2) := by decide +kernel
theorem dL_areClocks_85 : decode cL_areClocks 85 = .ok (.iload 5, 2) := by decide +kernel
theorem dL_areClocks_87 : decode cL_areClocks 87 = .ok (.iconst 3, 1) := by decide +kernel
theorem dL_areClocks_88 : decode cL_areClocks 88 = .ok (.if_icmp .ge 41, 3) := by decide +kernel
theorem dL_areClocks_91 : decode cL_areClocks 91 = .ok (.aload_n 3, 1) := by decide +kernel
theorem dL_areClocks_92 : decode cL_areClocks 92 = .ok (.iload 5, 2) := by decide +kernel
theorem dL_areClocks_94 : decode cL_areClocks 94 = .ok (.aload_n 3, 1) := by decide +kernel
theorem dL_areClocks_95 : decode cL_areClocks 95 = .ok (.iload 5, 2) := by decide +kernel
theorem dL_areClocks_97 : decode cL_areClocks 97 = .ok (.iaload, 1) := by decide +kernel
theorem dL_areClocks_98 : decode cL_areClocks 98 = .ok (.aload_n 2, 1) := by decide +kernel
theorem dL_areClocks_99 : decode cL_areClocks 99 = .ok (.iload 5, 2) := by decide +kernel
theorem dL_areClocks_101 : decode cL_areClocks 101 = .ok (.iaload, 1) := by decide +kernel
theorem dL_areClocks_102 : decode cL_areClocks 102 = .ok (.invokestatic 176, 3) := by decide +kernel
theorem dL_areClocks_105 : decode cL_areClocks 105 = .ok (.iastore, 1) := by decide +kernel
theorem dL_areClocks_106 : decode cL_areClocks 106 = .ok (.aload 4, 2) := by decide +kernel
theorem dL_areClocks_108 : decode cL_areClocks 108 = .ok (.iload 5, 2) := by decide +kernel
theorem dL_areClocks_110 : decode cL_areClocks 110 = .ok (.aload 4, 2) := by decide +kernel
theorem dL_areClocks_112 : decode cL_areClocks 112 = .ok (.iload 5, 2) := by decide +kernel
theorem dL_areClocks_114 : decode cL_areClocks 114 = .ok (.iaload, 1) := by decide +kernel
theorem dL_areClocks_115 : decode cL_areClocks 115 = .ok (.aload_n 2, 1) := by decide +kernel
theorem dL_areClocks_116 : decode cL_areClocks 116 = .ok (.iload 5, 2) := by decide +kernel
theorem dL_areClocks_118 : decode cL_areClocks 118 = .ok (.iaload, 1) := by decide +kernel
theorem dL_areClocks_119 : decode cL_areClocks 119 = .ok (.invokestatic 181, 3) := by decide +kernel
theorem dL_areClocks_122 : decode cL_areClocks 122 = .ok (.iastore, 1) := by decide +kernel
theorem dL_areClocks_123 : decode cL_areClocks 123 = .ok (.iinc 5 1, 3) := by decide +kernel
theorem dL_areClocks_126 : decode cL_areClocks 126 = .ok (.goto (-41), 3) := by decide +kernel
theorem dL_areClocks_129 : decode cL_areClocks 129 = .ok (.aload_n 0, 1) := by decide +kernel
theorem dL_areClocks_130 : decode cL_areClocks 130 = .ok (.aload_n 2, 1) := by decide +kernel
theorem dL_areClocks_131 : decode cL_areClocks 131 = .ok (.invokestatic 191, 3) := by decide +kernel
theorem dL_areClocks_134 : decode cL_areClocks 134 = .ok (.ifCond .ne (-64), 3) := by decide +kernel
theorem dL_areClocks_137 : decode cL_areClocks 137 = .ok (.iconst 0, 1) := by decide +kernel
theorem dL_areClocks_138 : decode cL_areClocks 138 = .ok (.istore 5, 2) := by decide +kernel
theorem dL_areClocks_140 : decode cL_areClocks 140 = .ok (.iload 5, 2) := by decide +kernel
theorem dL_areClocks_142 : decode cL_areClocks 142 = .ok (.iconst 3, 1) := by decide +kernel
theorem dL_areClocks_143 : decode cL_areClocks 143 = .ok (.if_icmp .ge 66, 3) := by decide +kernel
theorem dL_areClocks_146 : decode cL_areClocks 146 = .ok (.aload_n 0, 1) := by decide +kernel
theorem dL_areClocks_147 : decode cL_areClocks 147 = .ok (.iload 5, 2) := by decide +kernel
theorem dL_areClocks_149 : decode cL_areClocks 149 = .ok (.iconst 2, 1) := by decide +kernel
theorem dL_areClocks_150 : decode cL_areClocks 150 = .ok (.invokevirtual 169, 3) := by decide +kernel
theorem dL_areClocks_153 : decode cL_areClocks 153 = .ok (.aload 4, 2) := by decide +kernel
theorem dL_areClocks_155 : decode cL_areClocks 155 = .ok (.iload 5, 2) := by decide +kernel
theorem dL_areClocks_157 : decode cL_areClocks 157 = .ok (.iaload, 1) := by decide +kernel
theorem dL_areClocks_158 : decode cL_areClocks 158 = .ok (.ifCond .ge 8, 3) := by decide +kernel
theorem dL_areClocks_161 : decode cL_areClocks 161 = .ok (.bipush (-2), 2) := by decide +kernel
theorem dL_areClocks_163 : decode cL_areClocks 163 = .ok (.goto 7, 3) := by decide +kernel
theorem dL_areClocks_166 : decode cL_areClocks 166 = .ok (.aload_n 3, 1) := by decide +kernel
theorem dL_areClocks_167 : decode cL_areClocks 167 = .ok (.iload 5, 2) := by decide +kernel
theorem dL_areClocks_169 : decode cL_areClocks 169 = .ok (.iaload, 1) := by decide +kernel
theorem dL_areClocks_170 : decode cL_areClocks 170 = .ok (.if_icmp .ne 31, 3) := by decide +kernel
theorem dL_areClocks_173 : decode cL_areClocks 173 = .ok (.aload_n 0, 1) := by decide +kernel
theorem dL_areClocks_174 : decode cL_areClocks 174 = .ok (.iload 5, 2) := by decide +kernel
theorem dL_areClocks_176 : decode cL_areClocks 176 = .ok (.iconst 3, 1) := by decide +kernel
theorem dL_areClocks_177 : decode cL_areClocks 177 = .ok (.invokevirtual 169, 3) := by decide +kernel
theorem dL_areClocks_180 : decode cL_areClocks 180 = .ok (.aload 4, 2) := by decide +kernel
theorem dL_areClocks_182 : decode cL_areClocks 182 = .ok (.iload 5, 2) := by decide +kernel
theorem dL_areClocks_184 : decode cL_areClocks 184 = .ok (.iaload, 1) := by decide +kernel
theorem dL_areClocks_185 : decode cL_areClocks 185 = .ok (.ifCond .ge 8, 3) := by decide +kernel
theorem dL_areClocks_188 : decode cL_areClocks 188 = .ok (.bipush (-2), 2) := by decide +kernel
theorem dL_areClocks_190 : decode cL_areClocks 190 = .ok (.goto 8, 3) := by decide +kernel
theorem dL_areClocks_193 : decode cL_areClocks 193 = .ok (.aload 4, 2) := by decide +kernel
theorem dL_areClocks_195 : decode cL_areClocks 195 = .ok (.iload 5, 2) := by decide +kernel
theorem dL_areClocks_197 : decode cL_areClocks 197 = .ok (.iaload, 1) := by decide +kernel
theorem dL_areClocks_198 : decode cL_areClocks 198 = .ok (.if_icmp .eq 5, 3) := by decide +kernel
theorem dL_areClocks_201 : decode cL_areClocks 201 = .ok (.iconst 0, 1) := by decide +kernel
theorem dL_areClocks_202 : decode cL_areClocks 202 = .ok (.ireturn, 1) := by decide +kernel
theorem dL_areClocks_203 : decode cL_areClocks 203 = .ok (.iinc 5 1, 3) := by decide +kernel
theorem dL_areClocks_206 : decode cL_areClocks 206 = .ok (.goto (-66), 3) := by decide +kernel
theorem dL_areClocks_209 : decode cL_areClocks 209 = .ok (.aload_n 0, 1) := by decide +kernel
theorem dL_areClocks_210 : decode cL_areClocks 210 = .ok (.iconst 3, 1) := by decide +kernel
theorem dL_areClocks_211 : decode cL_areClocks 211 = .ok (.iconst 0, 1) := by decide +kernel
theorem dL_areClocks_212 : decode cL_areClocks 212 = .ok (.invokevirtual 169, 3) := by decide +kernel
theorem dL_areClocks_215 : decode cL_areClocks 215 = .ok (.iconst (-1), 1) := by decide +kernel
theorem dL_areClocks_216 : decode cL_areClocks 216 = .ok (.if_icmp .ne 7, 3) := by decide +kernel
theorem dL_areClocks_219 : decode cL_areClocks 219 = .ok (.iconst 1, 1) := by decide +kernel
theorem dL_areClocks_220 : decode cL_areClocks 220 = .ok (.goto 4, 3) := by decide +kernel
theorem dL_areClocks_223 : decode cL_areClocks 223 = .ok (.iconst 0, 1) := by decide +kernel
theorem dL_areClocks_224 : decode cL_areClocks 224 = .ok (.ireturn, 1) := by decide +kernel
