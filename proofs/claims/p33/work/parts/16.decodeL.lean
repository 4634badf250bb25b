theorem dJ9_max_7cf53_0 : decode cJ9_max_7cf53 0 = .ok (.iload_n 0, 1) := by decide +kernel
theorem dJ9_max_7cf53_1 : decode cJ9_max_7cf53 1 = .ok (.iload_n 1, 1) := by decide +kernel
theorem dJ9_max_7cf53_2 : decode cJ9_max_7cf53 2 = .ok (.if_icmp .lt 7, 3) := by decide +kernel
theorem dJ9_max_7cf53_5 : decode cJ9_max_7cf53 5 = .ok (.iload_n 0, 1) := by decide +kernel
theorem dJ9_max_7cf53_6 : decode cJ9_max_7cf53 6 = .ok (.goto 4, 3) := by decide +kernel
theorem dJ9_max_7cf53_9 : decode cJ9_max_7cf53 9 = .ok (.iload_n 1, 1) := by decide +kernel
theorem dJ9_max_7cf53_10 : decode cJ9_max_7cf53 10 = .ok (.ireturn, 1) := by decide +kernel
theorem dJ9_min_7cf53_0 : decode cJ9_min_7cf53 0 = .ok (.iload_n 0, 1) := by decide +kernel
theorem dJ9_min_7cf53_1 : decode cJ9_min_7cf53 1 = .ok (.iload_n 1, 1) := by decide +kernel
theorem dJ9_min_7cf53_2 : decode cJ9_min_7cf53 2 = .ok (.if_icmp .gt 7, 3) := by decide +kernel
theorem dJ9_min_7cf53_5 : decode cJ9_min_7cf53 5 = .ok (.iload_n 0, 1) := by decide +kernel
theorem dJ9_min_7cf53_6 : decode cJ9_min_7cf53 6 = .ok (.goto 4, 3) := by decide +kernel
theorem dJ9_min_7cf53_9 : decode cJ9_min_7cf53 9 = .ok (.iload_n 1, 1) := by decide +kernel
theorem dJ9_min_7cf53_10 : decode cJ9_min_7cf53 10 = .ok (.ireturn, 1) := by decide +kernel
theorem dL_cell_0 : decode cL_cell 0 = .ok (.iload_n 1, 1) := by decide +kernel
theorem dL_cell_1 : decode cL_cell 1 = .ok (.aload_n 0, 1) := by decide +kernel
theorem dL_cell_2 : decode cL_cell 2 = .ok (.arraylength, 1) := by decide +kernel
theorem dL_cell_3 : decode cL_cell 3 = .ok (.if_icmp .ge 9, 3) := by decide +kernel
theorem dL_cell_6 : decode cL_cell 6 = .ok (.aload_n 0, 1) := by decide +kernel
theorem dL_cell_7 : decode cL_cell 7 = .ok (.iload_n 1, 1) := by decide +kernel
theorem dL_cell_8 : decode cL_cell 8 = .ok (.iaload, 1) := by decide +kernel
theorem dL_cell_9 : decode cL_cell 9 = .ok (.goto 11, 3) := by decide +kernel
theorem dL_cell_12 : decode cL_cell 12 = .ok (.ldc 7, 2) := by decide +kernel
theorem dL_cell_14 : decode cL_cell 14 = .ok (.iload_n 1, 1) := by decide +kernel
theorem dL_cell_15 : decode cL_cell 15 = .ok (.imul, 1) := by decide +kernel
theorem dL_cell_16 : decode cL_cell 16 = .ok (.sipush 977, 3) := by decide +kernel
theorem dL_cell_19 : decode cL_cell 19 = .ok (.iadd, 1) := by decide +kernel
theorem dL_cell_20 : decode cL_cell 20 = .ok (.ireturn, 1) := by decide +kernel
theorem dL_low_0 : decode cL_low 0 = .ok (.iload_n 0, 1) := by decide +kernel
theorem dL_low_1 : decode cL_low 1 = .ok (.ldc 8, 2) := by decide +kernel
theorem dL_low_3 : decode cL_low 3 = .ok (.iand, 1) := by decide +kernel
theorem dL_low_4 : decode cL_low 4 = .ok (.iload_n 1, 1) := by decide +kernel
theorem dL_low_5 : decode cL_low 5 = .ok (.irem, 1) := by decide +kernel
theorem dL_low_6 : decode cL_low 6 = .ok (.ireturn, 1) := by decide +kernel
theorem dL_change_0 : decode cL_change 0 = .ok (.aload_n 0, 1) := by decide +kernel
theorem dL_change_1 : decode cL_change 1 = .ok (.iconst 0, 1) := by decide +kernel
theorem dL_change_2 : decode cL_change 2 = .ok (.invokevirtual 9, 3) := by decide +kernel
theorem dL_change_5 : decode cL_change 5 = .ok (.istore_n 3, 1) := by decide +kernel
theorem dL_change_6 : decode cL_change 6 = .ok (.iload_n 2, 1) := by decide +kernel
theorem dL_change_7 : decode cL_change 7 = .ok (.iload_n 3, 1) := by decide +kernel
theorem dL_change_8 : decode cL_change 8 = .ok (.ifCond .ne 7, 3) := by decide +kernel
theorem dL_change_11 : decode cL_change 11 = .ok (.iconst 1, 1) := by decide +kernel
theorem dL_change_12 : decode cL_change 12 = .ok (.goto 4, 3) := by decide +kernel
theorem dL_change_15 : decode cL_change 15 = .ok (.iload_n 3, 1) := by decide +kernel
theorem dL_change_16 : decode cL_change 16 = .ok (.invokestatic 15, 3) := by decide +kernel
theorem dL_change_19 : decode cL_change 19 = .ok (.istore 4, 2) := by decide +kernel
theorem dL_change_21 : decode cL_change 21 = .ok (.iload_n 2, 1) := by decide +kernel
theorem dL_change_22 : decode cL_change 22 = .ok (.iconst 2, 1) := by decide +kernel
theorem dL_change_23 : decode cL_change 23 = .ok (.ishr, 1) := by decide +kernel
theorem dL_change_24 : decode cL_change 24 = .ok (.bipush 8, 2) := by decide +kernel
theorem dL_change_26 : decode cL_change 26 = .ok (.invokestatic 15, 3) := by decide +kernel
theorem dL_change_29 : decode cL_change 29 = .ok (.istore 5, 2) := by decide +kernel
theorem dL_change_31 : decode cL_change 31 = .ok (.iconst 0, 1) := by decide +kernel
theorem dL_change_32 : decode cL_change 32 = .ok (.istore 6, 2) := by decide +kernel
theorem dL_change_34 : decode cL_change 34 = .ok (.iload_n 1, 1) := by decide +kernel
theorem dL_change_35 : decode cL_change 35 = .ok (.bipush 16, 2) := by decide +kernel
theorem dL_change_37 : decode cL_change 37 = .ok (.invokestatic 15, 3) := by decide +kernel
theorem dL_change_40 : decode cL_change 40 = .ok (.tableswitch 518 0 14 #[76, 76, 137, 137, 137, 137, 137, 137, 170, 226, 327, 360, 412, 431, 431], 76) := by decide +kernel
theorem dL_change_116 : decode cL_change 116 = .ok (.iload_n 3, 1) := by decide +kernel
theorem dL_change_117 : decode cL_change 117 = .ok (.iconst 4, 1) := by decide +kernel
theorem dL_change_118 : decode cL_change 118 = .ok (.if_icmp .eq 53, 3) := by decide +kernel
theorem dL_change_121 : decode cL_change 121 = .ok (.aload_n 0, 1) := by decide +kernel
theorem dL_change_122 : decode cL_change 122 = .ok (.iconst 1, 1) := by decide +kernel
theorem dL_change_123 : decode cL_change 123 = .ok (.iload_n 2, 1) := by decide +kernel
theorem dL_change_124 : decode cL_change 124 = .ok (.bipush 60, 2) := by decide +kernel
theorem dL_change_126 : decode cL_change 126 = .ok (.invokestatic 15, 3) := by decide +kernel
theorem dL_change_129 : decode cL_change 129 = .ok (.iadd, 1) := by decide +kernel
theorem dL_change_130 : decode cL_change 130 = .ok (.invokevirtual 21, 3) := by decide +kernel
theorem dL_change_133 : decode cL_change 133 = .ok (.iload_n 3, 1) := by decide +kernel
theorem dL_change_134 : decode cL_change 134 = .ok (.if_icmp .ne 41, 3) := by decide +kernel
theorem dL_change_137 : decode cL_change 137 = .ok (.aload_n 0, 1) := by decide +kernel
theorem dL_change_138 : decode cL_change 138 = .ok (.iload_n 3, 1) := by decide +kernel
theorem dL_change_139 : decode cL_change 139 = .ok (.iconst 0, 1) := by decide +kernel
theorem dL_change_140 : decode cL_change 140 = .ok (.invokevirtual 24, 3) := by decide +kernel
theorem dL_change_143 : decode cL_change 143 = .ok (.iconst 1, 1) := by decide +kernel
theorem dL_change_144 : decode cL_change 144 = .ok (.iload_n 2, 1) := by decide +kernel
theorem dL_change_145 : decode cL_change 145 = .ok (.bipush 60, 2) := by decide +kernel
theorem dL_change_147 : decode cL_change 147 = .ok (.invokestatic 15, 3) := by decide +kernel
theorem dL_change_150 : decode cL_change 150 = .ok (.iadd, 1) := by decide +kernel
theorem dL_change_151 : decode cL_change 151 = .ok (.if_icmp .ne 24, 3) := by decide +kernel
theorem dL_change_154 : decode cL_change 154 = .ok (.aload_n 0, 1) := by decide +kernel
theorem dL_change_155 : decode cL_change 155 = .ok (.iload_n 3, 1) := by decide +kernel
theorem dL_change_156 : decode cL_change 156 = .ok (.iconst 2, 1) := by decide +kernel
theorem dL_change_157 : decode cL_change 157 = .ok (.invokevirtual 24, 3) := by decide +kernel
theorem dL_change_160 : decode cL_change 160 = .ok (.iconst 1, 1) := by decide +kernel
theorem dL_change_161 : decode cL_change 161 = .ok (.iload_n 2, 1) := by decide +kernel
theorem dL_change_162 : decode cL_change 162 = .ok (.bipush 60, 2) := by decide +kernel
theorem dL_change_164 : decode cL_change 164 = .ok (.invokestatic 15, 3) := by decide +kernel
theorem dL_change_167 : decode cL_change 167 = .ok (.iadd, 1) := by decide +kernel
theorem dL_change_168 : decode cL_change 168 = .ok (.if_icmp .ne 7, 3) := by decide +kernel
theorem dL_change_171 : decode cL_change 171 = .ok (.iconst 1, 1) := by decide +kernel
theorem dL_change_172 : decode cL_change 172 = .ok (.goto 4, 3) := by decide +kernel
theorem dL_change_175 : decode cL_change 175 = .ok (.iconst 0, 1) := by decide +kernel
theorem dL_change_176 : decode cL_change 176 = .ok (.ireturn, 1) := by decide +kernel
theorem dL_change_177 : decode cL_change 177 = .ok (.iload_n 3, 1) := by decide +kernel
theorem dL_change_178 : decode cL_change 178 = .ok (.ifCond .eq 26, 3) := by decide +kernel
theorem dL_change_181 : decode cL_change 181 = .ok (.aload_n 0, 1) := by decide +kernel
theorem dL_change_182 : decode cL_change 182 = .ok (.iload 4, 2) := by decide +kernel
theorem dL_change_184 : decode cL_change 184 = .ok (.iload 5, 2) := by decide +kernel
theorem dL_change_186 : decode cL_change 186 = .ok (.iload_n 2, 1) := by decide +kernel
theorem dL_change_187 : decode cL_change 187 = .ok (.iconst 5, 1) := by decide +kernel
theorem dL_change_188 : decode cL_change 188 = .ok (.ishr, 1) := by decide +kernel
theorem dL_change_189 : decode cL_change 189 = .ok (.aload_n 0, 1) := by decide +kernel
theorem dL_change_190 : decode cL_change 190 = .ok (.iload 5, 2) := by decide +kernel
theorem dL_change_192 : decode cL_change 192 = .ok (.invokevirtual 27, 3) := by decide +kernel
theorem dL_change_195 : decode cL_change 195 = .ok (.invokestatic 15, 3) := by decide +kernel
theorem dL_change_198 : decode cL_change 198 = .ok (.invokestatic 30, 3) := by decide +kernel
theorem dL_change_201 : decode cL_change 201 = .ok (.ifCond .eq 7, 3) := by decide +kernel
theorem dL_change_204 : decode cL_change 204 = .ok (.iconst 1, 1) := by decide +kernel
theorem dL_change_205 : decode cL_change 205 = .ok (.goto 4, 3) := by decide +kernel
theorem dL_change_208 : decode cL_change 208 = .ok (.iconst 0, 1) := by decide +kernel
theorem dL_change_209 : decode cL_change 209 = .ok (.ireturn, 1) := by decide +kernel
theorem dL_change_210 : decode cL_change 210 = .ok (.iload_n 3, 1) := by decide +kernel
theorem dL_change_211 : decode cL_change 211 = .ok (.ifCond .ne 7, 3) := by decide +kernel
theorem dL_change_214 : decode cL_change 214 = .ok (.iconst (-1), 1) := by decide +kernel
theorem dL_change_215 : decode cL_change 215 = .ok (.goto 12, 3) := by decide +kernel
theorem dL_change_218 : decode cL_change 218 = .ok (.aload_n 0, 1) := by decide +kernel
theorem dL_change_219 : decode cL_change 219 = .ok (.iload 4, 2) := by decide +kernel
theorem dL_change_221 : decode cL_change 221 = .ok (.iload 5, 2) := by decide +kernel
theorem dL_change_223 : decode cL_change 223 = .ok (.iconst 1, 1) := by decide +kernel
theorem dL_change_224 : decode cL_change 224 = .ok (.invokevirtual 34, 3) := by decide +kernel
theorem dL_change_227 : decode cL_change 227 = .ok (.istore 6, 2) := by decide +kernel
theorem dL_change_229 : decode cL_change 229 = .ok (.iload 6, 2) := by decide +kernel
theorem dL_change_231 : decode cL_change 231 = .ok (.ifCond .lt 29, 3) := by decide +kernel
theorem dL_change_234 : decode cL_change 234 = .ok (.aload_n 0, 1) := by decide +kernel
theorem dL_change_235 : decode cL_change 235 = .ok (.iload 4, 2) := by decide +kernel
theorem dL_change_237 : decode cL_change 237 = .ok (.iload 5, 2) := by decide +kernel
theorem dL_change_239 : decode cL_change 239 = .ok (.invokevirtual 38, 3) := by decide +kernel
theorem dL_change_242 : decode cL_change 242 = .ok (.iload 6, 2) := by decide +kernel
theorem dL_change_244 : decode cL_change 244 = .ok (.if_icmp .ne 20, 3) := by decide +kernel
theorem dL_change_247 : decode cL_change 247 = .ok (.aload_n 0, 1) := by decide +kernel
theorem dL_change_248 : decode cL_change 248 = .ok (.iload 4, 2) := by decide +kernel
theorem dL_change_250 : decode cL_change 250 = .ok (.iload 5, 2) := by decide +kernel
theorem dL_change_252 : decode cL_change 252 = .ok (.iconst 0, 1) := by decide +kernel
theorem dL_change_253 : decode cL_change 253 = .ok (.invokevirtual 34, 3) := by decide +kernel
theorem dL_change_256 : decode cL_change 256 = .ok (.iconst (-1), 1) := by decide +kernel
theorem dL_change_257 : decode cL_change 257 = .ok (.if_icmp .ne 7, 3) := by decide +kernel
theorem dL_change_260 : decode cL_change 260 = .ok (.iconst 1, 1) := by decide +kernel
theorem dL_change_261 : decode cL_change 261 = .ok (.goto 4, 3) := by decide +kernel
theorem dL_change_264 : decode cL_change 264 = .ok (.iconst 0, 1) := by decide +kernel
theorem dL_change_265 : decode cL_change 265 = .ok (.ireturn, 1) := by decide +kernel
theorem dL_change_266 : decode cL_change 266 = .ok (.iconst 0, 1) := by decide +kernel
theorem dL_change_267 : decode cL_change 267 = .ok (.istore 7, 2) := by decide +kernel
theorem dL_change_269 : decode cL_change 269 = .ok (.iconst 0, 1) := by decide +kernel
theorem dL_change_270 : decode cL_change 270 = .ok (.istore 8, 2) := by decide +kernel
theorem dL_change_272 : decode cL_change 272 = .ok (.iload 8, 2) := by decide +kernel
theorem dL_change_274 : decode cL_change 274 = .ok (.iload_n 3, 1) := by decide +kernel
theorem dL_change_275 : decode cL_change 275 = .ok (.if_icmp .ge 33, 3) := by decide +kernel
theorem dL_change_278 : decode cL_change 278 = .ok (.iload 7, 2) := by decide +kernel
theorem dL_change_280 : decode cL_change 280 = .ok (.ifCond .ne 15, 3) := by decide +kernel
theorem dL_change_283 : decode cL_change 283 = .ok (.aload_n 0, 1) := by decide +kernel
theorem dL_change_284 : decode cL_change 284 = .ok (.iload 8, 2) := by decide +kernel
theorem dL_change_286 : decode cL_change 286 = .ok (.iload 5, 2) := by decide +kernel
theorem dL_change_288 : decode cL_change 288 = .ok (.iconst 0, 1) := by decide +kernel
theorem dL_change_289 : decode cL_change 289 = .ok (.invokevirtual 34, 3) := by decide +kernel
theorem dL_change_292 : decode cL_change 292 = .ok (.ifCond .lt 7, 3) := by decide +kernel
theorem dL_change_295 : decode cL_change 295 = .ok (.iconst 1, 1) := by decide +kernel
theorem dL_change_296 : decode cL_change 296 = .ok (.goto 4, 3) := by decide +kernel
theorem dL_change_299 : decode cL_change 299 = .ok (.iconst 0, 1) := by decide +kernel
theorem dL_change_300 : decode cL_change 300 = .ok (.istore 7, 2) := by decide +kernel
theorem dL_change_302 : decode cL_change 302 = .ok (.iinc 8 1, 3) := by decide +kernel
theorem dL_change_305 : decode cL_change 305 = .ok (.goto (-33), 3) := by decide +kernel
theorem dL_change_308 : decode cL_change 308 = .ok (.aload_n 0, 1) := by decide +kernel
theorem dL_change_309 : decode cL_change 309 = .ok (.iload 5, 2) := by decide +kernel
theorem dL_change_311 : decode cL_change 311 = .ok (.invokevirtual 27, 3) := by decide +kernel
theorem dL_change_314 : decode cL_change 314 = .ok (.istore 6, 2) := by decide +kernel
theorem dL_change_316 : decode cL_change 316 = .ok (.iload 7, 2) := by decide +kernel
theorem dL_change_318 : decode cL_change 318 = .ok (.ifCond .ne 43, 3) := by decide +kernel
theorem dL_change_321 : decode cL_change 321 = .ok (.aload_n 0, 1) := by decide +kernel
theorem dL_change_322 : decode cL_change 322 = .ok (.iload 5, 2) := by decide +kernel
theorem dL_change_324 : decode cL_change 324 = .ok (.iconst 2, 1) := by decide +kernel
theorem dL_change_325 : decode cL_change 325 = .ok (.iload_n 2, 1) := by decide +kernel
theorem dL_change_326 : decode cL_change 326 = .ok (.iconst 5, 1) := by decide +kernel
theorem dL_change_327 : decode cL_change 327 = .ok (.ishr, 1) := by decide +kernel
theorem dL_change_328 : decode cL_change 328 = .ok (.bipush 19, 2) := by decide +kernel
theorem dL_change_330 : decode cL_change 330 = .ok (.invokestatic 15, 3) := by decide +kernel
theorem dL_change_333 : decode cL_change 333 = .ok (.iadd, 1) := by decide +kernel
theorem dL_change_334 : decode cL_change 334 = .ok (.invokevirtual 41, 3) := by decide +kernel
theorem dL_change_337 : decode cL_change 337 = .ok (.iload 6, 2) := by decide +kernel
theorem dL_change_339 : decode cL_change 339 = .ok (.if_icmp .ne 26, 3) := by decide +kernel
theorem dL_change_342 : decode cL_change 342 = .ok (.aload_n 0, 1) := by decide +kernel
theorem dL_change_343 : decode cL_change 343 = .ok (.iload 5, 2) := by decide +kernel
theorem dL_change_345 : decode cL_change 345 = .ok (.invokevirtual 27, 3) := by decide +kernel
theorem dL_change_348 : decode cL_change 348 = .ok (.iconst 2, 1) := by decide +kernel
theorem dL_change_349 : decode cL_change 349 = .ok (.iload_n 2, 1) := by decide +kernel
theorem dL_change_350 : decode cL_change 350 = .ok (.iconst 5, 1) := by decide +kernel
theorem dL_change_351 : decode cL_change 351 = .ok (.ishr, 1) := by decide +kernel
theorem dL_change_352 : decode cL_change 352 = .ok (.bipush 19, 2) := by decide +kernel
theorem dL_change_354 : decode cL_change 354 = .ok (.invokestatic 15, 3) := by decide +kernel
theorem dL_change_357 : decode cL_change 357 = .ok (.iadd, 1) := by decide +kernel
theorem dL_change_358 : decode cL_change 358 = .ok (.if_icmp .ne 7, 3) := by decide +kernel
theorem dL_change_361 : decode cL_change 361 = .ok (.iconst 1, 1) := by decide +kernel
theorem dL_change_362 : decode cL_change 362 = .ok (.goto 4, 3) := by decide +kernel
theorem dL_change_365 : decode cL_change 365 = .ok (.iconst 0, 1) := by decide +kernel
theorem dL_change_366 : decode cL_change 366 = .ok (.ireturn, 1) := by decide +kernel
theorem dL_change_367 : decode cL_change 367 = .ok (.iload_n 3, 1) := by decide +kernel
theorem dL_change_368 : decode cL_change 368 = .ok (.ifCond .eq 26, 3) := by decide +kernel
theorem dL_change_371 : decode cL_change 371 = .ok (.aload_n 0, 1) := by decide +kernel
theorem dL_change_372 : decode cL_change 372 = .ok (.iload 4, 2) := by decide +kernel
theorem dL_change_374 : decode cL_change 374 = .ok (.iconst 1, 1) := by decide +kernel
theorem dL_change_375 : decode cL_change 375 = .ok (.iload_n 2, 1) := by decide +kernel
theorem dL_change_376 : decode cL_change 376 = .ok (.iconst 3, 1) := by decide +kernel
theorem dL_change_377 : decode cL_change 377 = .ok (.ishr, 1) := by decide +kernel
theorem dL_change_378 : decode cL_change 378 = .ok (.aload_n 0, 1) := by decide +kernel
theorem dL_change_379 : decode cL_change 379 = .ok (.iload 4, 2) := by decide +kernel
theorem dL_change_381 : decode cL_change 381 = .ok (.invokevirtual 44, 3) := by decide +kernel
theorem dL_change_384 : decode cL_change 384 = .ok (.invokestatic 15, 3) := by decide +kernel
theorem dL_change_387 : decode cL_change 387 = .ok (.iadd, 1) := by decide +kernel
theorem dL_change_388 : decode cL_change 388 = .ok (.invokestatic 47, 3) := by decide +kernel
theorem dL_change_391 : decode cL_change 391 = .ok (.ifCond .eq 7, 3) := by decide +kernel
theorem dL_change_394 : decode cL_change 394 = .ok (.iconst 1, 1) := by decide +kernel
theorem dL_change_395 : decode cL_change 395 = .ok (.goto 4, 3) := by decide +kernel
theorem dL_change_398 : decode cL_change 398 = .ok (.iconst 0, 1) := by decide +kernel
theorem dL_change_399 : decode cL_change 399 = .ok (.ireturn, 1) := by decide +kernel
theorem dL_change_400 : decode cL_change 400 = .ok (.iload_n 3, 1) := by decide +kernel
theorem dL_change_401 : decode cL_change 401 = .ok (.ifCond .eq 45, 3) := by decide +kernel
theorem dL_change_404 : decode cL_change 404 = .ok (.iload_n 3, 1) := by decide +kernel
theorem dL_change_405 : decode cL_change 405 = .ok (.iconst 4, 1) := by decide +kernel
theorem dL_change_406 : decode cL_change 406 = .ok (.if_icmp .eq 40, 3) := by decide +kernel
theorem dL_change_409 : decode cL_change 409 = .ok (.aload_n 0, 1) := by decide +kernel
theorem dL_change_410 : decode cL_change 410 = .ok (.iload 4, 2) := by decide +kernel
theorem dL_change_412 : decode cL_change 412 = .ok (.iconst 0, 1) := by decide +kernel
theorem dL_change_413 : decode cL_change 413 = .ok (.invokevirtual 24, 3) := by decide +kernel
theorem dL_change_416 : decode cL_change 416 = .ok (.iconst 1, 1) := by decide +kernel
theorem dL_change_417 : decode cL_change 417 = .ok (.if_icmp .eq 29, 3) := by decide +kernel
theorem dL_change_420 : decode cL_change 420 = .ok (.aload_n 0, 1) := by decide +kernel
theorem dL_change_421 : decode cL_change 421 = .ok (.iload 4, 2) := by decide +kernel
theorem dL_change_423 : decode cL_change 423 = .ok (.iconst 1, 1) := by decide +kernel
theorem dL_change_424 : decode cL_change 424 = .ok (.iload_n 2, 1) := by decide +kernel
theorem dL_change_425 : decode cL_change 425 = .ok (.iconst 3, 1) := by decide +kernel
theorem dL_change_426 : decode cL_change 426 = .ok (.ishr, 1) := by decide +kernel
theorem dL_change_427 : decode cL_change 427 = .ok (.aload_n 0, 1) := by decide +kernel
theorem dL_change_428 : decode cL_change 428 = .ok (.iload 4, 2) := by decide +kernel
theorem dL_change_430 : decode cL_change 430 = .ok (.iconst 0, 1) := by decide +kernel
theorem dL_change_431 : decode cL_change 431 = .ok (.invokevirtual 24, 3) := by decide +kernel
theorem dL_change_434 : decode cL_change 434 = .ok (.iconst 1, 1) := by decide +kernel
theorem dL_change_435 : decode cL_change 435 = .ok (.isub, 1) := by decide +kernel
theorem dL_change_436 : decode cL_change 436 = .ok (.invokestatic 15, 3) := by decide +kernel
theorem dL_change_439 : decode cL_change 439 = .ok (.iadd, 1) := by decide +kernel
theorem dL_change_440 : decode cL_change 440 = .ok (.invokestatic 51, 3) := by decide +kernel
theorem dL_change_443 : decode cL_change 443 = .ok (.ifCond .eq 7, 3) := by decide +kernel
theorem dL_change_446 : decode cL_change 446 = .ok (.iconst 1, 1) := by decide +kernel
theorem dL_change_447 : decode cL_change 447 = .ok (.goto 4, 3) := by decide +kernel
theorem dL_change_450 : decode cL_change 450 = .ok (.iconst 0, 1) := by decide +kernel
theorem dL_change_451 : decode cL_change 451 = .ok (.ireturn, 1) := by decide +kernel
theorem dL_change_452 : decode cL_change 452 = .ok (.iload_n 3, 1) := by decide +kernel
theorem dL_change_453 : decode cL_change 453 = .ok (.ifCond .eq 12, 3) := by decide +kernel
theorem dL_change_456 : decode cL_change 456 = .ok (.aload_n 0, 1) := by decide +kernel
theorem dL_change_457 : decode cL_change 457 = .ok (.iload 4, 2) := by decide +kernel
theorem dL_change_459 : decode cL_change 459 = .ok (.invokestatic 54, 3) := by decide +kernel
theorem dL_change_462 : decode cL_change 462 = .ok (.ifCond .eq 7, 3) := by decide +kernel
theorem dL_change_465 : decode cL_change 465 = .ok (.iconst 1, 1) := by decide +kernel
theorem dL_change_466 : decode cL_change 466 = .ok (.goto 4, 3) := by decide +kernel
theorem dL_change_469 : decode cL_change 469 = .ok (.iconst 0, 1) := by decide +kernel
theorem dL_change_470 : decode cL_change 470 = .ok (.ireturn, 1) := by decide +kernel
theorem dL_change_471 : decode cL_change 471 = .ok (.iload_n 3, 1) := by decide +kernel
theorem dL_change_472 : decode cL_change 472 = .ok (.ifCond .ne 7, 3) := by decide +kernel
theorem dL_change_475 : decode cL_change 475 = .ok (.iconst 0, 1) := by decide +kernel
theorem dL_change_476 : decode cL_change 476 = .ok (.goto 10, 3) := by decide +kernel
theorem dL_change_479 : decode cL_change 479 = .ok (.iload_n 2, 1) := by decide +kernel
theorem dL_change_480 : decode cL_change 480 = .ok (.iconst 2, 1) := by decide +kernel
theorem dL_change_481 : decode cL_change 481 = .ok (.ishr, 1) := by decide +kernel
theorem dL_change_482 : decode cL_change 482 = .ok (.iload_n 3, 1) := by decide +kernel
theorem dL_change_483 : decode cL_change 483 = .ok (.invokestatic 15, 3) := by decide +kernel
theorem dL_change_486 : decode cL_change 486 = .ok (.istore 8, 2) := by decide +kernel
theorem dL_change_488 : decode cL_change 488 = .ok (.iload_n 3, 1) := by decide +kernel
theorem dL_change_489 : decode cL_change 489 = .ok (.ifCond .ne 7, 3) := by decide +kernel
theorem dL_change_492 : decode cL_change 492 = .ok (.iconst 0, 1) := by decide +kernel
theorem dL_change_493 : decode cL_change 493 = .ok (.goto 18, 3) := by decide +kernel
theorem dL_change_496 : decode cL_change 496 = .ok (.aload_n 0, 1) := by decide +kernel
theorem dL_change_497 : decode cL_change 497 = .ok (.iload 4, 2) := by decide +kernel
theorem dL_change_499 : decode cL_change 499 = .ok (.iconst 0, 1) := by decide +kernel
theorem dL_change_500 : decode cL_change 500 = .ok (.invokevirtual 24, 3) := by decide +kernel
theorem dL_change_503 : decode cL_change 503 = .ok (.aload_n 0, 1) := by decide +kernel
theorem dL_change_504 : decode cL_change 504 = .ok (.iload 8, 2) := by decide +kernel
theorem dL_change_506 : decode cL_change 506 = .ok (.iconst 0, 1) := by decide +kernel
theorem dL_change_507 : decode cL_change 507 = .ok (.invokevirtual 24, 3) := by decide +kernel
theorem dL_change_510 : decode cL_change 510 = .ok (.iadd, 1) := by decide +kernel
theorem dL_change_511 : decode cL_change 511 = .ok (.istore 9, 2) := by decide +kernel
theorem dL_change_513 : decode cL_change 513 = .ok (.iload_n 3, 1) := by decide +kernel
theorem dL_change_514 : decode cL_change 514 = .ok (.ifCond .eq 38, 3) := by decide +kernel
theorem dL_change_517 : decode cL_change 517 = .ok (.aload_n 0, 1) := by decide +kernel
theorem dL_change_518 : decode cL_change 518 = .ok (.iload 4, 2) := by decide +kernel
theorem dL_change_520 : decode cL_change 520 = .ok (.iload 8, 2) := by decide +kernel
theorem dL_change_522 : decode cL_change 522 = .ok (.invokevirtual 58, 3) := by decide +kernel
theorem dL_change_525 : decode cL_change 525 = .ok (.ifCond .gt 27, 3) := by decide +kernel
theorem dL_change_528 : decode cL_change 528 = .ok (.aload_n 0, 1) := by decide +kernel
theorem dL_change_529 : decode cL_change 529 = .ok (.iload 4, 2) := by decide +kernel
theorem dL_change_531 : decode cL_change 531 = .ok (.iload 8, 2) := by decide +kernel
theorem dL_change_533 : decode cL_change 533 = .ok (.invokevirtual 61, 3) := by decide +kernel
theorem dL_change_536 : decode cL_change 536 = .ok (.iload 9, 2) := by decide +kernel
theorem dL_change_538 : decode cL_change 538 = .ok (.if_icmp .ne 18, 3) := by decide +kernel
theorem dL_change_541 : decode cL_change 541 = .ok (.aload_n 0, 1) := by decide +kernel
theorem dL_change_542 : decode cL_change 542 = .ok (.iconst 0, 1) := by decide +kernel
theorem dL_change_543 : decode cL_change 543 = .ok (.invokevirtual 9, 3) := by decide +kernel
theorem dL_change_546 : decode cL_change 546 = .ok (.iload_n 3, 1) := by decide +kernel
theorem dL_change_547 : decode cL_change 547 = .ok (.iconst 1, 1) := by decide +kernel
theorem dL_change_548 : decode cL_change 548 = .ok (.isub, 1) := by decide +kernel
theorem dL_change_549 : decode cL_change 549 = .ok (.if_icmp .ne 7, 3) := by decide +kernel
theorem dL_change_552 : decode cL_change 552 = .ok (.iconst 1, 1) := by decide +kernel
theorem dL_change_553 : decode cL_change 553 = .ok (.goto 4, 3) := by decide +kernel
theorem dL_change_556 : decode cL_change 556 = .ok (.iconst 0, 1) := by decide +kernel
theorem dL_change_557 : decode cL_change 557 = .ok (.ireturn, 1) := by decide +kernel
theorem dL_change_558 : decode cL_change 558 = .ok (.iload_n 3, 1) := by decide +kernel
theorem dL_change_559 : decode cL_change 559 = .ok (.ifCond .eq 21, 3) := by decide +kernel
theorem dL_change_562 : decode cL_change 562 = .ok (.iload_n 2, 1) := by decide +kernel
theorem dL_change_563 : decode cL_change 563 = .ok (.iconst 3, 1) := by decide +kernel
theorem dL_change_564 : decode cL_change 564 = .ok (.iand, 1) := by decide +kernel
theorem dL_change_565 : decode cL_change 565 = .ok (.ifCond .ne 15, 3) := by decide +kernel
theorem dL_change_568 : decode cL_change 568 = .ok (.aload_n 0, 1) := by decide +kernel
theorem dL_change_569 : decode cL_change 569 = .ok (.iload 4, 2) := by decide +kernel
theorem dL_change_571 : decode cL_change 571 = .ok (.invokevirtual 64, 3) := by decide +kernel
theorem dL_change_574 : decode cL_change 574 = .ok (.iload_n 3, 1) := by decide +kernel
theorem dL_change_575 : decode cL_change 575 = .ok (.iconst 1, 1) := by decide +kernel
theorem dL_change_576 : decode cL_change 576 = .ok (.isub, 1) := by decide +kernel
theorem dL_change_577 : decode cL_change 577 = .ok (.if_icmp .ne 7, 3) := by decide +kernel
theorem dL_change_580 : decode cL_change 580 = .ok (.iconst 1, 1) := by decide +kernel
theorem dL_change_581 : decode cL_change 581 = .ok (.goto 4, 3) := by decide +kernel
theorem dL_change_584 : decode cL_change 584 = .ok (.iconst 0, 1) := by decide +kernel
theorem dL_change_585 : decode cL_change 585 = .ok (.ireturn, 1) := by decide +kernel
theorem dL_lays_0 : decode cL_lays 0 = .ok (.aload_n 0, 1) := by decide +kernel
theorem dL_lays_1 : decode cL_lays 1 = .ok (.iload_n 1, 1) := by decide +kernel
theorem dL_lays_2 : decode cL_lays 2 = .ok (.iload_n 2, 1) := by decide +kernel
theorem dL_lays_3 : decode cL_lays 3 = .ok (.iload_n 3, 1) := by decide +kernel
theorem dL_lays_4 : decode cL_lays 4 = .ok (.invokevirtual 67, 3) := by decide +kernel
theorem dL_lays_7 : decode cL_lays 7 = .ok (.istore 4, 2) := by decide +kernel
theorem dL_lays_9 : decode cL_lays 9 = .ok (.aload_n 0, 1) := by decide +kernel
theorem dL_lays_10 : decode cL_lays 10 = .ok (.iconst 4, 1) := by decide +kernel
theorem dL_lays_11 : decode cL_lays 11 = .ok (.invokevirtual 9, 3) := by decide +kernel
theorem dL_lays_14 : decode cL_lays 14 = .ok (.istore 5, 2) := by decide +kernel
theorem dL_lays_16 : decode cL_lays 16 = .ok (.aload_n 0, 1) := by decide +kernel
theorem dL_lays_17 : decode cL_lays 17 = .ok (.iload_n 1, 1) := by decide +kernel
theorem dL_lays_18 : decode cL_lays 18 = .ok (.iconst 2, 1) := by decide +kernel
theorem dL_lays_19 : decode cL_lays 19 = .ok (.invokevirtual 24, 3) := by decide +kernel
theorem dL_lays_22 : decode cL_lays 22 = .ok (.istore 6, 2) := by decide +kernel
theorem dL_lays_24 : decode cL_lays 24 = .ok (.aload_n 0, 1) := by decide +kernel
theorem dL_lays_25 : decode cL_lays 25 = .ok (.iload_n 2, 1) := by decide +kernel
theorem dL_lays_26 : decode cL_lays 26 = .ok (.invokevirtual 27, 3) := by decide +kernel
theorem dL_lays_29 : decode cL_lays 29 = .ok (.istore 7, 2) := by decide +kernel
theorem dL_lays_31 : decode cL_lays 31 = .ok (.iload 4, 2) := by decide +kernel
theorem dL_lays_33 : decode cL_lays 33 = .ok (.ifCond .le 74, 3) := by decide +kernel
theorem dL_lays_36 : decode cL_lays 36 = .ok (.iload 4, 2) := by decide +kernel
theorem dL_lays_38 : decode cL_lays 38 = .ok (.iconst 1, 1) := by decide +kernel
theorem dL_lays_39 : decode cL_lays 39 = .ok (.if_icmp .ne 21, 3) := by decide +kernel
theorem dL_lays_42 : decode cL_lays 42 = .ok (.aload_n 0, 1) := by decide +kernel
theorem dL_lays_43 : decode cL_lays 43 = .ok (.iload_n 1, 1) := by decide +kernel
theorem dL_lays_44 : decode cL_lays 44 = .ok (.iload_n 2, 1) := by decide +kernel
theorem dL_lays_45 : decode cL_lays 45 = .ok (.iconst 0, 1) := by decide +kernel
theorem dL_lays_46 : decode cL_lays 46 = .ok (.invokevirtual 34, 3) := by decide +kernel
theorem dL_lays_49 : decode cL_lays 49 = .ok (.ifCond .lt 7, 3) := by decide +kernel
theorem dL_lays_52 : decode cL_lays 52 = .ok (.iconst 1, 1) := by decide +kernel
theorem dL_lays_53 : decode cL_lays 53 = .ok (.goto 53, 3) := by decide +kernel
theorem dL_lays_56 : decode cL_lays 56 = .ok (.iconst 0, 1) := by decide +kernel
theorem dL_lays_57 : decode cL_lays 57 = .ok (.goto 49, 3) := by decide +kernel
theorem dL_lays_60 : decode cL_lays 60 = .ok (.iload 4, 2) := by decide +kernel
theorem dL_lays_62 : decode cL_lays 62 = .ok (.iconst 2, 1) := by decide +kernel
theorem dL_lays_63 : decode cL_lays 63 = .ok (.if_icmp .ne 21, 3) := by decide +kernel
theorem dL_lays_66 : decode cL_lays 66 = .ok (.iload_n 3, 1) := by decide +kernel
theorem dL_lays_67 : decode cL_lays 67 = .ok (.aload_n 0, 1) := by decide +kernel
theorem dL_lays_68 : decode cL_lays 68 = .ok (.iload_n 1, 1) := by decide +kernel
theorem dL_lays_69 : decode cL_lays 69 = .ok (.iconst 0, 1) := by decide +kernel
theorem dL_lays_70 : decode cL_lays 70 = .ok (.invokevirtual 24, 3) := by decide +kernel
theorem dL_lays_73 : decode cL_lays 73 = .ok (.if_icmp .lt 7, 3) := by decide +kernel
theorem dL_lays_76 : decode cL_lays 76 = .ok (.iconst 1, 1) := by decide +kernel
theorem dL_lays_77 : decode cL_lays 77 = .ok (.goto 29, 3) := by decide +kernel
theorem dL_lays_80 : decode cL_lays 80 = .ok (.iconst 0, 1) := by decide +kernel
theorem dL_lays_81 : decode cL_lays 81 = .ok (.goto 25, 3) := by decide +kernel
theorem dL_lays_84 : decode cL_lays 84 = .ok (.iload 4, 2) := by decide +kernel
theorem dL_lays_86 : decode cL_lays 86 = .ok (.iconst 3, 1) := by decide +kernel
theorem dL_lays_87 : decode cL_lays 87 = .ok (.if_icmp .ne 18, 3) := by decide +kernel
theorem dL_lays_90 : decode cL_lays 90 = .ok (.aload_n 0, 1) := by decide +kernel
theorem dL_lays_91 : decode cL_lays 91 = .ok (.iload_n 1, 1) := by decide +kernel
theorem dL_lays_92 : decode cL_lays 92 = .ok (.iload_n 2, 1) := by decide +kernel
theorem dL_lays_93 : decode cL_lays 93 = .ok (.iconst 0, 1) := by decide +kernel
theorem dL_lays_94 : decode cL_lays 94 = .ok (.invokevirtual 34, 3) := by decide +kernel
theorem dL_lays_97 : decode cL_lays 97 = .ok (.iconst (-1), 1) := by decide +kernel
theorem dL_lays_98 : decode cL_lays 98 = .ok (.if_icmp .ne 7, 3) := by decide +kernel
theorem dL_lays_101 : decode cL_lays 101 = .ok (.iconst 1, 1) := by decide +kernel
theorem dL_lays_102 : decode cL_lays 102 = .ok (.goto 4, 3) := by decide +kernel
theorem dL_lays_105 : decode cL_lays 105 = .ok (.iconst 0, 1) := by decide +kernel
theorem dL_lays_106 : decode cL_lays 106 = .ok (.ireturn, 1) := by decide +kernel
theorem dL_lays_107 : decode cL_lays 107 = .ok (.aload_n 0, 1) := by decide +kernel
theorem dL_lays_108 : decode cL_lays 108 = .ok (.iload_n 1, 1) := by decide +kernel
theorem dL_lays_109 : decode cL_lays 109 = .ok (.iconst 0, 1) := by decide +kernel
theorem dL_lays_110 : decode cL_lays 110 = .ok (.invokevirtual 24, 3) := by decide +kernel
theorem dL_lays_113 : decode cL_lays 113 = .ok (.iload_n 3, 1) := by decide +kernel
theorem dL_lays_114 : decode cL_lays 114 = .ok (.isub, 1) := by decide +kernel
theorem dL_lays_115 : decode cL_lays 115 = .ok (.iload 7, 2) := by decide +kernel
theorem dL_lays_117 : decode cL_lays 117 = .ok (.iadd, 1) := by decide +kernel
theorem dL_lays_118 : decode cL_lays 118 = .ok (.iconst 1, 1) := by decide +kernel
theorem dL_lays_119 : decode cL_lays 119 = .ok (.isub, 1) := by decide +kernel
theorem dL_lays_120 : decode cL_lays 120 = .ok (.iload 7, 2) := by decide +kernel
theorem dL_lays_122 : decode cL_lays 122 = .ok (.idiv, 1) := by decide +kernel
theorem dL_lays_123 : decode cL_lays 123 = .ok (.istore 8, 2) := by decide +kernel
theorem dL_lays_125 : decode cL_lays 125 = .ok (.aload_n 0, 1) := by decide +kernel
theorem dL_lays_126 : decode cL_lays 126 = .ok (.iload_n 1, 1) := by decide +kernel
theorem dL_lays_127 : decode cL_lays 127 = .ok (.iconst 1, 1) := by decide +kernel
theorem dL_lays_128 : decode cL_lays 128 = .ok (.invokevirtual 24, 3) := by decide +kernel
theorem dL_lays_131 : decode cL_lays 131 = .ok (.istore 9, 2) := by decide +kernel
theorem dL_lays_133 : decode cL_lays 133 = .ok (.aload_n 0, 1) := by decide +kernel
theorem dL_lays_134 : decode cL_lays 134 = .ok (.iload_n 1, 1) := by decide +kernel
theorem dL_lays_135 : decode cL_lays 135 = .ok (.iload_n 2, 1) := by decide +kernel
theorem dL_lays_136 : decode cL_lays 136 = .ok (.iload_n 3, 1) := by decide +kernel
theorem dL_lays_137 : decode cL_lays 137 = .ok (.invokevirtual 70, 3) := by decide +kernel
theorem dL_lays_140 : decode cL_lays 140 = .ok (.iload 8, 2) := by decide +kernel
theorem dL_lays_142 : decode cL_lays 142 = .ok (.if_icmp .ne 56, 3) := by decide +kernel
theorem dL_lays_145 : decode cL_lays 145 = .ok (.aload_n 0, 1) := by decide +kernel
theorem dL_lays_146 : decode cL_lays 146 = .ok (.iconst 4, 1) := by decide +kernel
theorem dL_lays_147 : decode cL_lays 147 = .ok (.invokevirtual 9, 3) := by decide +kernel
theorem dL_lays_150 : decode cL_lays 150 = .ok (.iload 5, 2) := by decide +kernel
theorem dL_lays_152 : decode cL_lays 152 = .ok (.iconst 1, 1) := by decide +kernel
theorem dL_lays_153 : decode cL_lays 153 = .ok (.iadd, 1) := by decide +kernel
theorem dL_lays_154 : decode cL_lays 154 = .ok (.if_icmp .ne 44, 3) := by decide +kernel
theorem dL_lays_157 : decode cL_lays 157 = .ok (.aload_n 0, 1) := by decide +kernel
theorem dL_lays_158 : decode cL_lays 158 = .ok (.iload_n 1, 1) := by decide +kernel
theorem dL_lays_159 : decode cL_lays 159 = .ok (.iconst 2, 1) := by decide +kernel
theorem dL_lays_160 : decode cL_lays 160 = .ok (.invokevirtual 24, 3) := by decide +kernel
theorem dL_lays_163 : decode cL_lays 163 = .ok (.iload 6, 2) := by decide +kernel
theorem dL_lays_165 : decode cL_lays 165 = .ok (.iload 8, 2) := by decide +kernel
theorem dL_lays_167 : decode cL_lays 167 = .ok (.isub, 1) := by decide +kernel
theorem dL_lays_168 : decode cL_lays 168 = .ok (.if_icmp .ne 30, 3) := by decide +kernel
theorem dL_lays_171 : decode cL_lays 171 = .ok (.aload_n 0, 1) := by decide +kernel
theorem dL_lays_172 : decode cL_lays 172 = .ok (.iload_n 1, 1) := by decide +kernel
theorem dL_lays_173 : decode cL_lays 173 = .ok (.iload_n 2, 1) := by decide +kernel
theorem dL_lays_174 : decode cL_lays 174 = .ok (.iconst 0, 1) := by decide +kernel
theorem dL_lays_175 : decode cL_lays 175 = .ok (.invokevirtual 34, 3) := by decide +kernel
theorem dL_lays_178 : decode cL_lays 178 = .ok (.iload_n 3, 1) := by decide +kernel
theorem dL_lays_179 : decode cL_lays 179 = .ok (.if_icmp .ne 19, 3) := by decide +kernel
theorem dL_lays_182 : decode cL_lays 182 = .ok (.aload_n 0, 1) := by decide +kernel
theorem dL_lays_183 : decode cL_lays 183 = .ok (.iload_n 1, 1) := by decide +kernel
theorem dL_lays_184 : decode cL_lays 184 = .ok (.iload_n 2, 1) := by decide +kernel
theorem dL_lays_185 : decode cL_lays 185 = .ok (.iconst 3, 1) := by decide +kernel
theorem dL_lays_186 : decode cL_lays 186 = .ok (.invokevirtual 34, 3) := by decide +kernel
theorem dL_lays_189 : decode cL_lays 189 = .ok (.iload 9, 2) := by decide +kernel
theorem dL_lays_191 : decode cL_lays 191 = .ok (.if_icmp .ne 7, 3) := by decide +kernel
theorem dL_lays_194 : decode cL_lays 194 = .ok (.iconst 1, 1) := by decide +kernel
theorem dL_lays_195 : decode cL_lays 195 = .ok (.goto 4, 3) := by decide +kernel
theorem dL_lays_198 : decode cL_lays 198 = .ok (.iconst 0, 1) := by decide +kernel
theorem dL_lays_199 : decode cL_lays 199 = .ok (.ireturn, 1) := by decide +kernel
theorem dL_stretches_0 : decode cL_stretches 0 = .ok (.aload_n 0, 1) := by decide +kernel
theorem dL_stretches_1 : decode cL_stretches 1 = .ok (.iload_n 1, 1) := by decide +kernel
theorem dL_stretches_2 : decode cL_stretches 2 = .ok (.iconst 1, 1) := by decide +kernel
theorem dL_stretches_3 : decode cL_stretches 3 = .ok (.invokevirtual 24, 3) := by decide +kernel
theorem dL_stretches_6 : decode cL_stretches 6 = .ok (.istore_n 3, 1) := by decide +kernel
theorem dL_stretches_7 : decode cL_stretches 7 = .ok (.aload_n 0, 1) := by decide +kernel
theorem dL_stretches_8 : decode cL_stretches 8 = .ok (.iload_n 1, 1) := by decide +kernel
theorem dL_stretches_9 : decode cL_stretches 9 = .ok (.iload_n 2, 1) := by decide +kernel
theorem dL_stretches_10 : decode cL_stretches 10 = .ok (.invokevirtual 73, 3) := by decide +kernel
theorem dL_stretches_13 : decode cL_stretches 13 = .ok (.istore 4, 2) := by decide +kernel
theorem dL_stretches_15 : decode cL_stretches 15 = .ok (.aload_n 0, 1) := by decide +kernel
theorem dL_stretches_16 : decode cL_stretches 16 = .ok (.iload_n 1, 1) := by decide +kernel
theorem dL_stretches_17 : decode cL_stretches 17 = .ok (.iconst 0, 1) := by decide +kernel
theorem dL_stretches_18 : decode cL_stretches 18 = .ok (.invokevirtual 24, 3) := by decide +kernel
theorem dL_stretches_21 : decode cL_stretches 21 = .ok (.iload_n 2, 1) := by decide +kernel
theorem dL_stretches_22 : decode cL_stretches 22 = .ok (.if_icmp .ne 20, 3) := by decide +kernel
theorem dL_stretches_25 : decode cL_stretches 25 = .ok (.aload_n 0, 1) := by decide +kernel
theorem dL_stretches_26 : decode cL_stretches 26 = .ok (.iload_n 1, 1) := by decide +kernel
theorem dL_stretches_27 : decode cL_stretches 27 = .ok (.iconst 1, 1) := by decide +kernel
theorem dL_stretches_28 : decode cL_stretches 28 = .ok (.invokevirtual 24, 3) := by decide +kernel
theorem dL_stretches_31 : decode cL_stretches 31 = .ok (.iload_n 3, 1) := by decide +kernel
theorem dL_stretches_32 : decode cL_stretches 32 = .ok (.iload 4, 2) := by decide +kernel
theorem dL_stretches_34 : decode cL_stretches 34 = .ok (.isub, 1) := by decide +kernel
theorem dL_stretches_35 : decode cL_stretches 35 = .ok (.if_icmp .ne 7, 3) := by decide +kernel
theorem dL_stretches_38 : decode cL_stretches 38 = .ok (.iconst 1, 1) := by decide +kernel
theorem dL_stretches_39 : decode cL_stretches 39 = .ok (.goto 4, 3) := by decide +kernel
theorem dL_stretches_42 : decode cL_stretches 42 = .ok (.iconst 0, 1) := by decide +kernel
theorem dL_stretches_43 : decode cL_stretches 43 = .ok (.ireturn, 1) := by decide +kernel
theorem dL_cuts_0 : decode cL_cuts 0 = .ok (.aload_n 0, 1) := by decide +kernel
theorem dL_cuts_1 : decode cL_cuts 1 = .ok (.iload_n 1, 1) := by decide +kernel
theorem dL_cuts_2 : decode cL_cuts 2 = .ok (.iconst 0, 1) := by decide +kernel
theorem dL_cuts_3 : decode cL_cuts 3 = .ok (.invokevirtual 24, 3) := by decide +kernel
theorem dL_cuts_6 : decode cL_cuts 6 = .ok (.istore_n 3, 1) := by decide +kernel
theorem dL_cuts_7 : decode cL_cuts 7 = .ok (.aload_n 0, 1) := by decide +kernel
theorem dL_cuts_8 : decode cL_cuts 8 = .ok (.iload_n 1, 1) := by decide +kernel
theorem dL_cuts_9 : decode cL_cuts 9 = .ok (.iconst 2, 1) := by decide +kernel
theorem dL_cuts_10 : decode cL_cuts 10 = .ok (.invokevirtual 24, 3) := by decide +kernel
theorem dL_cuts_13 : decode cL_cuts 13 = .ok (.istore 4, 2) := by decide +kernel
theorem dL_cuts_15 : decode cL_cuts 15 = .ok (.aload_n 0, 1) := by decide +kernel
theorem dL_cuts_16 : decode cL_cuts 16 = .ok (.iconst 0, 1) := by decide +kernel
theorem dL_cuts_17 : decode cL_cuts 17 = .ok (.invokevirtual 9, 3) := by decide +kernel
theorem dL_cuts_20 : decode cL_cuts 20 = .ok (.istore 5, 2) := by decide +kernel
theorem dL_cuts_22 : decode cL_cuts 22 = .ok (.aload_n 0, 1) := by decide +kernel
theorem dL_cuts_23 : decode cL_cuts 23 = .ok (.bipush 6, 2) := by decide +kernel
theorem dL_cuts_25 : decode cL_cuts 25 = .ok (.invokevirtual 9, 3) := by decide +kernel
theorem dL_cuts_28 : decode cL_cuts 28 = .ok (.istore 6, 2) := by decide +kernel
theorem dL_cuts_30 : decode cL_cuts 30 = .ok (.aload_n 0, 1) := by decide +kernel
theorem dL_cuts_31 : decode cL_cuts 31 = .ok (.iload_n 1, 1) := by decide +kernel
theorem dL_cuts_32 : decode cL_cuts 32 = .ok (.iload_n 2, 1) := by decide +kernel
theorem dL_cuts_33 : decode cL_cuts 33 = .ok (.invokevirtual 76, 3) := by decide +kernel
theorem dL_cuts_36 : decode cL_cuts 36 = .ok (.iload 5, 2) := by decide +kernel
theorem dL_cuts_38 : decode cL_cuts 38 = .ok (.if_icmp .ne 62, 3) := by decide +kernel
theorem dL_cuts_41 : decode cL_cuts 41 = .ok (.aload_n 0, 1) := by decide +kernel
theorem dL_cuts_42 : decode cL_cuts 42 = .ok (.iload_n 1, 1) := by decide +kernel
theorem dL_cuts_43 : decode cL_cuts 43 = .ok (.iconst 0, 1) := by decide +kernel
theorem dL_cuts_44 : decode cL_cuts 44 = .ok (.invokevirtual 24, 3) := by decide +kernel
theorem dL_cuts_47 : decode cL_cuts 47 = .ok (.iload_n 2, 1) := by decide +kernel
theorem dL_cuts_48 : decode cL_cuts 48 = .ok (.if_icmp .ne 52, 3) := by decide +kernel
theorem dL_cuts_51 : decode cL_cuts 51 = .ok (.aload_n 0, 1) := by decide +kernel
theorem dL_cuts_52 : decode cL_cuts 52 = .ok (.iload 5, 2) := by decide +kernel
theorem dL_cuts_54 : decode cL_cuts 54 = .ok (.iconst 0, 1) := by decide +kernel
theorem dL_cuts_55 : decode cL_cuts 55 = .ok (.invokevirtual 24, 3) := by decide +kernel
theorem dL_cuts_58 : decode cL_cuts 58 = .ok (.iload_n 3, 1) := by decide +kernel
theorem dL_cuts_59 : decode cL_cuts 59 = .ok (.iload_n 2, 1) := by decide +kernel
theorem dL_cuts_60 : decode cL_cuts 60 = .ok (.isub, 1) := by decide +kernel
theorem dL_cuts_61 : decode cL_cuts 61 = .ok (.if_icmp .ne 39, 3) := by decide +kernel
theorem dL_cuts_64 : decode cL_cuts 64 = .ok (.aload_n 0, 1) := by decide +kernel
theorem dL_cuts_65 : decode cL_cuts 65 = .ok (.iload_n 1, 1) := by decide +kernel
theorem dL_cuts_66 : decode cL_cuts 66 = .ok (.iconst 2, 1) := by decide +kernel
theorem dL_cuts_67 : decode cL_cuts 67 = .ok (.invokevirtual 24, 3) := by decide +kernel
theorem dL_cuts_70 : decode cL_cuts 70 = .ok (.aload_n 0, 1) := by decide +kernel
theorem dL_cuts_71 : decode cL_cuts 71 = .ok (.iload 5, 2) := by decide +kernel
theorem dL_cuts_73 : decode cL_cuts 73 = .ok (.iconst 2, 1) := by decide +kernel
theorem dL_cuts_74 : decode cL_cuts 74 = .ok (.invokevirtual 24, 3) := by decide +kernel
theorem dL_cuts_77 : decode cL_cuts 77 = .ok (.iadd, 1) := by decide +kernel
theorem dL_cuts_78 : decode cL_cuts 78 = .ok (.iload 4, 2) := by decide +kernel
theorem dL_cuts_80 : decode cL_cuts 80 = .ok (.if_icmp .ne 20, 3) := by decide +kernel
theorem dL_cuts_83 : decode cL_cuts 83 = .ok (.aload_n 0, 1) := by decide +kernel
theorem dL_cuts_84 : decode cL_cuts 84 = .ok (.bipush 6, 2) := by decide +kernel
theorem dL_cuts_86 : decode cL_cuts 86 = .ok (.invokevirtual 9, 3) := by decide +kernel
theorem dL_cuts_89 : decode cL_cuts 89 = .ok (.iload 6, 2) := by decide +kernel
theorem dL_cuts_91 : decode cL_cuts 91 = .ok (.iconst 1, 1) := by decide +kernel
theorem dL_cuts_92 : decode cL_cuts 92 = .ok (.iadd, 1) := by decide +kernel
theorem dL_cuts_93 : decode cL_cuts 93 = .ok (.if_icmp .ne 7, 3) := by decide +kernel
theorem dL_cuts_96 : decode cL_cuts 96 = .ok (.iconst 1, 1) := by decide +kernel
theorem dL_cuts_97 : decode cL_cuts 97 = .ok (.goto 4, 3) := by decide +kernel
theorem dL_cuts_100 : decode cL_cuts 100 = .ok (.iconst 0, 1) := by decide +kernel
theorem dL_cuts_101 : decode cL_cuts 101 = .ok (.istore 7, 2) := by decide +kernel
theorem dL_cuts_103 : decode cL_cuts 103 = .ok (.iload 7, 2) := by decide +kernel
theorem dL_cuts_105 : decode cL_cuts 105 = .ok (.ifCond .eq 58, 3) := by decide +kernel
theorem dL_cuts_108 : decode cL_cuts 108 = .ok (.aload_n 0, 1) := by decide +kernel
theorem dL_cuts_109 : decode cL_cuts 109 = .ok (.iload_n 1, 1) := by decide +kernel
theorem dL_cuts_110 : decode cL_cuts 110 = .ok (.iload 5, 2) := by decide +kernel
theorem dL_cuts_112 : decode cL_cuts 112 = .ok (.invokevirtual 58, 3) := by decide +kernel
theorem dL_cuts_115 : decode cL_cuts 115 = .ok (.ifCond .ne 48, 3) := by decide +kernel
theorem dL_cuts_118 : decode cL_cuts 118 = .ok (.aload_n 0, 1) := by decide +kernel
theorem dL_cuts_119 : decode cL_cuts 119 = .ok (.iload_n 1, 1) := by decide +kernel
theorem dL_cuts_120 : decode cL_cuts 120 = .ok (.iload 5, 2) := by decide +kernel
theorem dL_cuts_122 : decode cL_cuts 122 = .ok (.invokevirtual 61, 3) := by decide +kernel
theorem dL_cuts_125 : decode cL_cuts 125 = .ok (.iload_n 3, 1) := by decide +kernel
theorem dL_cuts_126 : decode cL_cuts 126 = .ok (.if_icmp .ne 37, 3) := by decide +kernel
theorem dL_cuts_129 : decode cL_cuts 129 = .ok (.aload_n 0, 1) := by decide +kernel
theorem dL_cuts_130 : decode cL_cuts 130 = .ok (.iload_n 1, 1) := by decide +kernel
theorem dL_cuts_131 : decode cL_cuts 131 = .ok (.iconst 2, 1) := by decide +kernel
theorem dL_cuts_132 : decode cL_cuts 132 = .ok (.invokevirtual 24, 3) := by decide +kernel
theorem dL_cuts_135 : decode cL_cuts 135 = .ok (.iload 4, 2) := by decide +kernel
theorem dL_cuts_137 : decode cL_cuts 137 = .ok (.if_icmp .ne 26, 3) := by decide +kernel
theorem dL_cuts_140 : decode cL_cuts 140 = .ok (.aload_n 0, 1) := by decide +kernel
theorem dL_cuts_141 : decode cL_cuts 141 = .ok (.invokevirtual 79, 3) := by decide +kernel
theorem dL_cuts_144 : decode cL_cuts 144 = .ok (.ifCond .lt 19, 3) := by decide +kernel
theorem dL_cuts_147 : decode cL_cuts 147 = .ok (.aload_n 0, 1) := by decide +kernel
theorem dL_cuts_148 : decode cL_cuts 148 = .ok (.iconst 0, 1) := by decide +kernel
theorem dL_cuts_149 : decode cL_cuts 149 = .ok (.invokevirtual 9, 3) := by decide +kernel
theorem dL_cuts_152 : decode cL_cuts 152 = .ok (.iload 5, 2) := by decide +kernel
theorem dL_cuts_154 : decode cL_cuts 154 = .ok (.iconst 1, 1) := by decide +kernel
theorem dL_cuts_155 : decode cL_cuts 155 = .ok (.iadd, 1) := by decide +kernel
theorem dL_cuts_156 : decode cL_cuts 156 = .ok (.if_icmp .ne 7, 3) := by decide +kernel
theorem dL_cuts_159 : decode cL_cuts 159 = .ok (.iconst 1, 1) := by decide +kernel
theorem dL_cuts_160 : decode cL_cuts 160 = .ok (.goto 4, 3) := by decide +kernel
theorem dL_cuts_163 : decode cL_cuts 163 = .ok (.iconst 0, 1) := by decide +kernel
theorem dL_cuts_164 : decode cL_cuts 164 = .ok (.ireturn, 1) := by decide +kernel
theorem dL_turns_0 : decode cL_turns 0 = .ok (.aload_n 0, 1) := by decide +kernel
theorem dL_turns_1 : decode cL_turns 1 = .ok (.iload_n 1, 1) := by decide +kernel
theorem dL_turns_2 : decode cL_turns 2 = .ok (.iconst 0, 1) := by decide +kernel
theorem dL_turns_3 : decode cL_turns 3 = .ok (.invokevirtual 24, 3) := by decide +kernel
theorem dL_turns_6 : decode cL_turns 6 = .ok (.istore_n 2, 1) := by decide +kernel
theorem dL_turns_7 : decode cL_turns 7 = .ok (.bipush 60, 2) := by decide +kernel
theorem dL_turns_9 : decode cL_turns 9 = .ok (.newarray .int, 2) := by decide +kernel
theorem dL_turns_11 : decode cL_turns 11 = .ok (.astore_n 3, 1) := by decide +kernel
theorem dL_turns_12 : decode cL_turns 12 = .ok (.iconst 0, 1) := by decide +kernel
theorem dL_turns_13 : decode cL_turns 13 = .ok (.istore 4, 2) := by decide +kernel
theorem dL_turns_15 : decode cL_turns 15 = .ok (.iconst 0, 1) := by decide +kernel
theorem dL_turns_16 : decode cL_turns 16 = .ok (.istore 5, 2) := by decide +kernel
theorem dL_turns_18 : decode cL_turns 18 = .ok (.iload 5, 2) := by decide +kernel
theorem dL_turns_20 : decode cL_turns 20 = .ok (.iload_n 2, 1) := by decide +kernel
theorem dL_turns_21 : decode cL_turns 21 = .ok (.if_icmp .ge 20, 3) := by decide +kernel
theorem dL_turns_24 : decode cL_turns 24 = .ok (.aload_n 3, 1) := by decide +kernel
theorem dL_turns_25 : decode cL_turns 25 = .ok (.iload 5, 2) := by decide +kernel
theorem dL_turns_27 : decode cL_turns 27 = .ok (.aload_n 0, 1) := by decide +kernel
theorem dL_turns_28 : decode cL_turns 28 = .ok (.iload_n 1, 1) := by decide +kernel
theorem dL_turns_29 : decode cL_turns 29 = .ok (.iload 5, 2) := by decide +kernel
theorem dL_turns_31 : decode cL_turns 31 = .ok (.invokevirtual 83, 3) := by decide +kernel
theorem dL_turns_34 : decode cL_turns 34 = .ok (.iastore, 1) := by decide +kernel
theorem dL_turns_35 : decode cL_turns 35 = .ok (.iinc 5 1, 3) := by decide +kernel
theorem dL_turns_38 : decode cL_turns 38 = .ok (.goto (-20), 3) := by decide +kernel
theorem dL_turns_41 : decode cL_turns 41 = .ok (.iconst 0, 1) := by decide +kernel
theorem dL_turns_42 : decode cL_turns 42 = .ok (.istore 5, 2) := by decide +kernel
theorem dL_turns_44 : decode cL_turns 44 = .ok (.iload 5, 2) := by decide +kernel
theorem dL_turns_46 : decode cL_turns 46 = .ok (.iload_n 2, 1) := by decide +kernel
theorem dL_turns_47 : decode cL_turns 47 = .ok (.if_icmp .ge 34, 3) := by decide +kernel
theorem dL_turns_50 : decode cL_turns 50 = .ok (.iload 4, 2) := by decide +kernel
theorem dL_turns_52 : decode cL_turns 52 = .ok (.aload_n 3, 1) := by decide +kernel
theorem dL_turns_53 : decode cL_turns 53 = .ok (.iload 5, 2) := by decide +kernel
theorem dL_turns_55 : decode cL_turns 55 = .ok (.iaload, 1) := by decide +kernel
theorem dL_turns_56 : decode cL_turns 56 = .ok (.aload_n 3, 1) := by decide +kernel
theorem dL_turns_57 : decode cL_turns 57 = .ok (.iload_n 2, 1) := by decide +kernel
theorem dL_turns_58 : decode cL_turns 58 = .ok (.iconst 1, 1) := by decide +kernel
theorem dL_turns_59 : decode cL_turns 59 = .ok (.isub, 1) := by decide +kernel
theorem dL_turns_60 : decode cL_turns 60 = .ok (.iload 5, 2) := by decide +kernel
theorem dL_turns_62 : decode cL_turns 62 = .ok (.isub, 1) := by decide +kernel
theorem dL_turns_63 : decode cL_turns 63 = .ok (.iaload, 1) := by decide +kernel
theorem dL_turns_64 : decode cL_turns 64 = .ok (.if_icmp .ne 7, 3) := by decide +kernel
theorem dL_turns_67 : decode cL_turns 67 = .ok (.iconst 0, 1) := by decide +kernel
theorem dL_turns_68 : decode cL_turns 68 = .ok (.goto 4, 3) := by decide +kernel
theorem dL_turns_71 : decode cL_turns 71 = .ok (.iconst 1, 1) := by decide +kernel
theorem dL_turns_72 : decode cL_turns 72 = .ok (.iadd, 1) := by decide +kernel
theorem dL_turns_73 : decode cL_turns 73 = .ok (.istore 4, 2) := by decide +kernel
theorem dL_turns_75 : decode cL_turns 75 = .ok (.iinc 5 1, 3) := by decide +kernel
theorem dL_turns_78 : decode cL_turns 78 = .ok (.goto (-34), 3) := by decide +kernel
theorem dL_turns_81 : decode cL_turns 81 = .ok (.aload_n 0, 1) := by decide +kernel
theorem dL_turns_82 : decode cL_turns 82 = .ok (.iload_n 1, 1) := by decide +kernel
theorem dL_turns_83 : decode cL_turns 83 = .ok (.invokevirtual 86, 3) := by decide +kernel
theorem dL_turns_86 : decode cL_turns 86 = .ok (.iload 4, 2) := by decide +kernel
theorem dL_turns_88 : decode cL_turns 88 = .ok (.if_icmp .ne 7, 3) := by decide +kernel
theorem dL_turns_91 : decode cL_turns 91 = .ok (.iconst 1, 1) := by decide +kernel
theorem dL_turns_92 : decode cL_turns 92 = .ok (.goto 4, 3) := by decide +kernel
theorem dL_turns_95 : decode cL_turns 95 = .ok (.iconst 0, 1) := by decide +kernel
theorem dL_turns_96 : decode cL_turns 96 = .ok (.istore 5, 2) := by decide +kernel
theorem dL_turns_98 : decode cL_turns 98 = .ok (.iconst 0, 1) := by decide +kernel
theorem dL_turns_99 : decode cL_turns 99 = .ok (.istore 6, 2) := by decide +kernel
theorem dL_turns_101 : decode cL_turns 101 = .ok (.iload 6, 2) := by decide +kernel
theorem dL_turns_103 : decode cL_turns 103 = .ok (.iload_n 2, 1) := by decide +kernel
theorem dL_turns_104 : decode cL_turns 104 = .ok (.if_icmp .ge 39, 3) := by decide +kernel
theorem dL_turns_107 : decode cL_turns 107 = .ok (.iload 5, 2) := by decide +kernel
theorem dL_turns_109 : decode cL_turns 109 = .ok (.ifCond .eq 34, 3) := by decide +kernel
theorem dL_turns_112 : decode cL_turns 112 = .ok (.aload_n 0, 1) := by decide +kernel
theorem dL_turns_113 : decode cL_turns 113 = .ok (.iload_n 1, 1) := by decide +kernel
theorem dL_turns_114 : decode cL_turns 114 = .ok (.iload 6, 2) := by decide +kernel
theorem dL_turns_116 : decode cL_turns 116 = .ok (.invokevirtual 83, 3) := by decide +kernel
theorem dL_turns_119 : decode cL_turns 119 = .ok (.aload_n 3, 1) := by decide +kernel
theorem dL_turns_120 : decode cL_turns 120 = .ok (.iload_n 2, 1) := by decide +kernel
theorem dL_turns_121 : decode cL_turns 121 = .ok (.iconst 1, 1) := by decide +kernel
theorem dL_turns_122 : decode cL_turns 122 = .ok (.isub, 1) := by decide +kernel
theorem dL_turns_123 : decode cL_turns 123 = .ok (.iload 6, 2) := by decide +kernel
theorem dL_turns_125 : decode cL_turns 125 = .ok (.isub, 1) := by decide +kernel
theorem dL_turns_126 : decode cL_turns 126 = .ok (.iaload, 1) := by decide +kernel
theorem dL_turns_127 : decode cL_turns 127 = .ok (.if_icmp .ne 7, 3) := by decide +kernel
theorem dL_turns_130 : decode cL_turns 130 = .ok (.iconst 1, 1) := by decide +kernel
theorem dL_turns_131 : decode cL_turns 131 = .ok (.goto 4, 3) := by decide +kernel
theorem dL_turns_134 : decode cL_turns 134 = .ok (.iconst 0, 1) := by decide +kernel
theorem dL_turns_135 : decode cL_turns 135 = .ok (.istore 5, 2) := by decide +kernel
theorem dL_turns_137 : decode cL_turns 137 = .ok (.iinc 6 1, 3) := by decide +kernel
theorem dL_turns_140 : decode cL_turns 140 = .ok (.goto (-39), 3) := by decide +kernel
theorem dL_turns_143 : decode cL_turns 143 = .ok (.iload 5, 2) := by decide +kernel
theorem dL_turns_145 : decode cL_turns 145 = .ok (.ireturn, 1) := by decide +kernel
theorem dL_isRope_0 : decode cL_isRope 0 = .ok (.aload_n 0, 1) := by decide +kernel
theorem dL_isRope_1 : decode cL_isRope 1 = .ok (.iload_n 1, 1) := by decide +kernel
theorem dL_isRope_2 : decode cL_isRope 2 = .ok (.iconst 0, 1) := by decide +kernel
theorem dL_isRope_3 : decode cL_isRope 3 = .ok (.invokevirtual 24, 3) := by decide +kernel
theorem dL_isRope_6 : decode cL_isRope 6 = .ok (.istore_n 2, 1) := by decide +kernel
theorem dL_isRope_7 : decode cL_isRope 7 = .ok (.iconst 0, 1) := by decide +kernel
theorem dL_isRope_8 : decode cL_isRope 8 = .ok (.istore_n 3, 1) := by decide +kernel
theorem dL_isRope_9 : decode cL_isRope 9 = .ok (.iconst 0, 1) := by decide +kernel
theorem dL_isRope_10 : decode cL_isRope 10 = .ok (.istore 4, 2) := by decide +kernel
theorem dL_isRope_12 : decode cL_isRope 12 = .ok (.iconst 0, 1) := by decide +kernel
theorem dL_isRope_13 : decode cL_isRope 13 = .ok (.istore 5, 2) := by decide +kernel
theorem dL_isRope_15 : decode cL_isRope 15 = .ok (.aload_n 0, 1) := by decide +kernel
theorem dL_isRope_16 : decode cL_isRope 16 = .ok (.iload_n 1, 1) := by decide +kernel
theorem dL_isRope_17 : decode cL_isRope 17 = .ok (.iconst 5, 1) := by decide +kernel
theorem dL_isRope_18 : decode cL_isRope 18 = .ok (.invokevirtual 24, 3) := by decide +kernel
theorem dL_isRope_21 : decode cL_isRope 21 = .ok (.istore 6, 2) := by decide +kernel
theorem dL_isRope_23 : decode cL_isRope 23 = .ok (.iconst 1, 1) := by decide +kernel
theorem dL_isRope_24 : decode cL_isRope 24 = .ok (.istore 7, 2) := by decide +kernel
theorem dL_isRope_26 : decode cL_isRope 26 = .ok (.iconst 0, 1) := by decide +kernel
theorem dL_isRope_27 : decode cL_isRope 27 = .ok (.istore 8, 2) := by decide +kernel
theorem dL_isRope_29 : decode cL_isRope 29 = .ok (.iload 8, 2) := by decide +kernel
theorem dL_isRope_31 : decode cL_isRope 31 = .ok (.bipush 8, 2) := by decide +kernel
theorem dL_isRope_33 : decode cL_isRope 33 = .ok (.if_icmp .ge 223, 3) := by decide +kernel
theorem dL_isRope_36 : decode cL_isRope 36 = .ok (.iload 7, 2) := by decide +kernel
theorem dL_isRope_38 : decode cL_isRope 38 = .ok (.ifCond .eq 218, 3) := by decide +kernel
theorem dL_isRope_41 : decode cL_isRope 41 = .ok (.aload_n 0, 1) := by decide +kernel
theorem dL_isRope_42 : decode cL_isRope 42 = .ok (.iload_n 1, 1) := by decide +kernel
theorem dL_isRope_43 : decode cL_isRope 43 = .ok (.iload 8, 2) := by decide +kernel
theorem dL_isRope_45 : decode cL_isRope 45 = .ok (.iconst 0, 1) := by decide +kernel
theorem dL_isRope_46 : decode cL_isRope 46 = .ok (.invokevirtual 34, 3) := by decide +kernel
theorem dL_isRope_49 : decode cL_isRope 49 = .ok (.istore 9, 2) := by decide +kernel
theorem dL_isRope_51 : decode cL_isRope 51 = .ok (.aload_n 0, 1) := by decide +kernel
theorem dL_isRope_52 : decode cL_isRope 52 = .ok (.iload 8, 2) := by decide +kernel
theorem dL_isRope_54 : decode cL_isRope 54 = .ok (.invokevirtual 27, 3) := by decide +kernel
theorem dL_isRope_57 : decode cL_isRope 57 = .ok (.istore 10, 2) := by decide +kernel
theorem dL_isRope_59 : decode cL_isRope 59 = .ok (.aload_n 0, 1) := by decide +kernel
theorem dL_isRope_60 : decode cL_isRope 60 = .ok (.iload_n 1, 1) := by decide +kernel
theorem dL_isRope_61 : decode cL_isRope 61 = .ok (.iload 8, 2) := by decide +kernel
theorem dL_isRope_63 : decode cL_isRope 63 = .ok (.iconst 1, 1) := by decide +kernel
theorem dL_isRope_64 : decode cL_isRope 64 = .ok (.invokevirtual 34, 3) := by decide +kernel
theorem dL_isRope_67 : decode cL_isRope 67 = .ok (.istore 11, 2) := by decide +kernel
theorem dL_isRope_69 : decode cL_isRope 69 = .ok (.iload 9, 2) := by decide +kernel
theorem dL_isRope_71 : decode cL_isRope 71 = .ok (.ifCond .lt 138, 3) := by decide +kernel
theorem dL_isRope_74 : decode cL_isRope 74 = .ok (.iload 9, 2) := by decide +kernel
theorem dL_isRope_76 : decode cL_isRope 76 = .ok (.iload 10, 2) := by decide +kernel
theorem dL_isRope_78 : decode cL_isRope 78 = .ok (.if_icmp .ge 59, 3) := by decide +kernel
theorem dL_isRope_81 : decode cL_isRope 81 = .ok (.iload 9, 2) := by decide +kernel
theorem dL_isRope_83 : decode cL_isRope 83 = .ok (.iload_n 2, 1) := by decide +kernel
theorem dL_isRope_84 : decode cL_isRope 84 = .ok (.if_icmp .ge 53, 3) := by decide +kernel
theorem dL_isRope_87 : decode cL_isRope 87 = .ok (.iload 11, 2) := by decide +kernel
theorem dL_isRope_89 : decode cL_isRope 89 = .ok (.iload_n 2, 1) := by decide +kernel
theorem dL_isRope_90 : decode cL_isRope 90 = .ok (.iload 9, 2) := by decide +kernel
theorem dL_isRope_92 : decode cL_isRope 92 = .ok (.isub, 1) := by decide +kernel
theorem dL_isRope_93 : decode cL_isRope 93 = .ok (.iload 10, 2) := by decide +kernel
theorem dL_isRope_95 : decode cL_isRope 95 = .ok (.iadd, 1) := by decide +kernel
theorem dL_isRope_96 : decode cL_isRope 96 = .ok (.iconst 1, 1) := by decide +kernel
theorem dL_isRope_97 : decode cL_isRope 97 = .ok (.isub, 1) := by decide +kernel
theorem dL_isRope_98 : decode cL_isRope 98 = .ok (.iload 10, 2) := by decide +kernel
theorem dL_isRope_100 : decode cL_isRope 100 = .ok (.idiv, 1) := by decide +kernel
theorem dL_isRope_101 : decode cL_isRope 101 = .ok (.if_icmp .ne 36, 3) := by decide +kernel
theorem dL_isRope_104 : decode cL_isRope 104 = .ok (.aload_n 0, 1) := by decide +kernel
theorem dL_isRope_105 : decode cL_isRope 105 = .ok (.iload_n 1, 1) := by decide +kernel
theorem dL_isRope_106 : decode cL_isRope 106 = .ok (.iload 8, 2) := by decide +kernel
theorem dL_isRope_108 : decode cL_isRope 108 = .ok (.iconst 2, 1) := by decide +kernel
theorem dL_isRope_109 : decode cL_isRope 109 = .ok (.invokevirtual 34, 3) := by decide +kernel
theorem dL_isRope_112 : decode cL_isRope 112 = .ok (.iload 9, 2) := by decide +kernel
theorem dL_isRope_114 : decode cL_isRope 114 = .ok (.iload 11, 2) := by decide +kernel
theorem dL_isRope_116 : decode cL_isRope 116 = .ok (.iconst 1, 1) := by decide +kernel
theorem dL_isRope_117 : decode cL_isRope 117 = .ok (.isub, 1) := by decide +kernel
theorem dL_isRope_118 : decode cL_isRope 118 = .ok (.iload 10, 2) := by decide +kernel
theorem dL_isRope_120 : decode cL_isRope 120 = .ok (.imul, 1) := by decide +kernel
theorem dL_isRope_121 : decode cL_isRope 121 = .ok (.iadd, 1) := by decide +kernel
theorem dL_isRope_122 : decode cL_isRope 122 = .ok (.if_icmp .ne 15, 3) := by decide +kernel
theorem dL_isRope_125 : decode cL_isRope 125 = .ok (.iload 6, 2) := by decide +kernel
theorem dL_isRope_127 : decode cL_isRope 127 = .ok (.iload 10, 2) := by decide +kernel
theorem dL_isRope_129 : decode cL_isRope 129 = .ok (.irem, 1) := by decide +kernel
theorem dL_isRope_130 : decode cL_isRope 130 = .ok (.ifCond .ne 7, 3) := by decide +kernel
theorem dL_isRope_133 : decode cL_isRope 133 = .ok (.iconst 1, 1) := by decide +kernel
theorem dL_isRope_134 : decode cL_isRope 134 = .ok (.goto 4, 3) := by decide +kernel
theorem dL_isRope_137 : decode cL_isRope 137 = .ok (.iconst 0, 1) := by decide +kernel
theorem dL_isRope_138 : decode cL_isRope 138 = .ok (.istore 7, 2) := by decide +kernel
theorem dL_isRope_140 : decode cL_isRope 140 = .ok (.iconst 0, 1) := by decide +kernel
theorem dL_isRope_141 : decode cL_isRope 141 = .ok (.istore 12, 2) := by decide +kernel
theorem dL_isRope_143 : decode cL_isRope 143 = .ok (.iload 12, 2) := by decide +kernel
theorem dL_isRope_145 : decode cL_isRope 145 = .ok (.iload 11, 2) := by decide +kernel
theorem dL_isRope_147 : decode cL_isRope 147 = .ok (.if_icmp .ge 39, 3) := by decide +kernel
theorem dL_isRope_150 : decode cL_isRope 150 = .ok (.iload 7, 2) := by decide +kernel
theorem dL_isRope_152 : decode cL_isRope 152 = .ok (.ifCond .eq 34, 3) := by decide +kernel
theorem dL_isRope_155 : decode cL_isRope 155 = .ok (.aload_n 0, 1) := by decide +kernel
theorem dL_isRope_156 : decode cL_isRope 156 = .ok (.iload_n 1, 1) := by decide +kernel
theorem dL_isRope_157 : decode cL_isRope 157 = .ok (.iload 9, 2) := by decide +kernel
theorem dL_isRope_159 : decode cL_isRope 159 = .ok (.iload 12, 2) := by decide +kernel
theorem dL_isRope_161 : decode cL_isRope 161 = .ok (.iload 10, 2) := by decide +kernel
theorem dL_isRope_163 : decode cL_isRope 163 = .ok (.imul, 1) := by decide +kernel
theorem dL_isRope_164 : decode cL_isRope 164 = .ok (.iadd, 1) := by decide +kernel
theorem dL_isRope_165 : decode cL_isRope 165 = .ok (.invokevirtual 83, 3) := by decide +kernel
theorem dL_isRope_168 : decode cL_isRope 168 = .ok (.iload 8, 2) := by decide +kernel
theorem dL_isRope_170 : decode cL_isRope 170 = .ok (.if_icmp .ne 7, 3) := by decide +kernel
theorem dL_isRope_173 : decode cL_isRope 173 = .ok (.iconst 1, 1) := by decide +kernel
theorem dL_isRope_174 : decode cL_isRope 174 = .ok (.goto 4, 3) := by decide +kernel
theorem dL_isRope_177 : decode cL_isRope 177 = .ok (.iconst 0, 1) := by decide +kernel
theorem dL_isRope_178 : decode cL_isRope 178 = .ok (.istore 7, 2) := by decide +kernel
theorem dL_isRope_180 : decode cL_isRope 180 = .ok (.iinc 12 1, 3) := by decide +kernel
theorem dL_isRope_183 : decode cL_isRope 183 = .ok (.goto (-40), 3) := by decide +kernel
theorem dL_isRope_186 : decode cL_isRope 186 = .ok (.iload_n 3, 1) := by decide +kernel
theorem dL_isRope_187 : decode cL_isRope 187 = .ok (.iload 11, 2) := by decide +kernel
theorem dL_isRope_189 : decode cL_isRope 189 = .ok (.iadd, 1) := by decide +kernel
theorem dL_isRope_190 : decode cL_isRope 190 = .ok (.istore_n 3, 1) := by decide +kernel
theorem dL_isRope_191 : decode cL_isRope 191 = .ok (.iinc 4 1, 3) := by decide +kernel
theorem dL_isRope_194 : decode cL_isRope 194 = .ok (.iload 5, 2) := by decide +kernel
theorem dL_isRope_196 : decode cL_isRope 196 = .ok (.iconst 1, 1) := by decide +kernel
theorem dL_isRope_197 : decode cL_isRope 197 = .ok (.aload_n 0, 1) := by decide +kernel
theorem dL_isRope_198 : decode cL_isRope 198 = .ok (.iload_n 1, 1) := by decide +kernel
theorem dL_isRope_199 : decode cL_isRope 199 = .ok (.iload 8, 2) := by decide +kernel
theorem dL_isRope_201 : decode cL_isRope 201 = .ok (.iconst 3, 1) := by decide +kernel
theorem dL_isRope_202 : decode cL_isRope 202 = .ok (.invokevirtual 34, 3) := by decide +kernel
theorem dL_isRope_205 : decode cL_isRope 205 = .ok (.ishl, 1) := by decide +kernel
theorem dL_isRope_206 : decode cL_isRope 206 = .ok (.ior, 1) := by decide +kernel
theorem dL_isRope_207 : decode cL_isRope 207 = .ok (.istore 5, 2) := by decide +kernel
theorem dL_isRope_209 : decode cL_isRope 209 = .ok (.iload 7, 2) := by decide +kernel
theorem dL_isRope_211 : decode cL_isRope 211 = .ok (.ifCond .eq 36, 3) := by decide +kernel
theorem dL_isRope_214 : decode cL_isRope 214 = .ok (.iload 9, 2) := by decide +kernel
theorem dL_isRope_216 : decode cL_isRope 216 = .ok (.ifCond .lt 17, 3) := by decide +kernel
theorem dL_isRope_219 : decode cL_isRope 219 = .ok (.aload_n 0, 1) := by decide +kernel
theorem dL_isRope_220 : decode cL_isRope 220 = .ok (.iload_n 1, 1) := by decide +kernel
theorem dL_isRope_221 : decode cL_isRope 221 = .ok (.iload 8, 2) := by decide +kernel
theorem dL_isRope_223 : decode cL_isRope 223 = .ok (.iconst 0, 1) := by decide +kernel
theorem dL_isRope_224 : decode cL_isRope 224 = .ok (.invokevirtual 89, 3) := by decide +kernel
theorem dL_isRope_227 : decode cL_isRope 227 = .ok (.ifCond .ne 20, 3) := by decide +kernel
theorem dL_isRope_230 : decode cL_isRope 230 = .ok (.goto 13, 3) := by decide +kernel
theorem dL_isRope_233 : decode cL_isRope 233 = .ok (.aload_n 0, 1) := by decide +kernel
theorem dL_isRope_234 : decode cL_isRope 234 = .ok (.iload_n 1, 1) := by decide +kernel
theorem dL_isRope_235 : decode cL_isRope 235 = .ok (.iload 8, 2) := by decide +kernel
theorem dL_isRope_237 : decode cL_isRope 237 = .ok (.invokestatic 92, 3) := by decide +kernel
theorem dL_isRope_240 : decode cL_isRope 240 = .ok (.ifCond .eq 7, 3) := by decide +kernel
theorem dL_isRope_243 : decode cL_isRope 243 = .ok (.iconst 1, 1) := by decide +kernel
theorem dL_isRope_244 : decode cL_isRope 244 = .ok (.goto 4, 3) := by decide +kernel
theorem dL_isRope_247 : decode cL_isRope 247 = .ok (.iconst 0, 1) := by decide +kernel
theorem dL_isRope_248 : decode cL_isRope 248 = .ok (.istore 7, 2) := by decide +kernel
theorem dL_isRope_250 : decode cL_isRope 250 = .ok (.iinc 8 1, 3) := by decide +kernel
theorem dL_isRope_253 : decode cL_isRope 253 = .ok (.goto (-224), 3) := by decide +kernel
theorem dL_isRope_256 : decode cL_isRope 256 = .ok (.aload_n 0, 1) := by decide +kernel
theorem dL_isRope_257 : decode cL_isRope 257 = .ok (.iload_n 1, 1) := by decide +kernel
theorem dL_isRope_258 : decode cL_isRope 258 = .ok (.iconst 3, 1) := by decide +kernel
theorem dL_isRope_259 : decode cL_isRope 259 = .ok (.invokevirtual 24, 3) := by decide +kernel
theorem dL_isRope_262 : decode cL_isRope 262 = .ok (.istore 8, 2) := by decide +kernel
theorem dL_isRope_264 : decode cL_isRope 264 = .ok (.iload 7, 2) := by decide +kernel
theorem dL_isRope_266 : decode cL_isRope 266 = .ok (.ifCond .eq 82, 3) := by decide +kernel
theorem dL_isRope_269 : decode cL_isRope 269 = .ok (.iload 4, 2) := by decide +kernel
theorem dL_isRope_271 : decode cL_isRope 271 = .ok (.aload_n 0, 1) := by decide +kernel
theorem dL_isRope_272 : decode cL_isRope 272 = .ok (.iload_n 1, 1) := by decide +kernel
theorem dL_isRope_273 : decode cL_isRope 273 = .ok (.iconst 1, 1) := by decide +kernel
theorem dL_isRope_274 : decode cL_isRope 274 = .ok (.invokevirtual 24, 3) := by decide +kernel
theorem dL_isRope_277 : decode cL_isRope 277 = .ok (.if_icmp .ne 71, 3) := by decide +kernel
theorem dL_isRope_280 : decode cL_isRope 280 = .ok (.iload 5, 2) := by decide +kernel
theorem dL_isRope_282 : decode cL_isRope 282 = .ok (.iconst 1, 1) := by decide +kernel
theorem dL_isRope_283 : decode cL_isRope 283 = .ok (.iload 4, 2) := by decide +kernel
theorem dL_isRope_285 : decode cL_isRope 285 = .ok (.ishl, 1) := by decide +kernel
theorem dL_isRope_286 : decode cL_isRope 286 = .ok (.iconst 1, 1) := by decide +kernel
theorem dL_isRope_287 : decode cL_isRope 287 = .ok (.isub, 1) := by decide +kernel
theorem dL_isRope_288 : decode cL_isRope 288 = .ok (.if_icmp .ne 60, 3) := by decide +kernel
theorem dL_isRope_291 : decode cL_isRope 291 = .ok (.aload_n 0, 1) := by decide +kernel
theorem dL_isRope_292 : decode cL_isRope 292 = .ok (.iload_n 1, 1) := by decide +kernel
theorem dL_isRope_293 : decode cL_isRope 293 = .ok (.iconst 2, 1) := by decide +kernel
theorem dL_isRope_294 : decode cL_isRope 294 = .ok (.invokevirtual 24, 3) := by decide +kernel
theorem dL_isRope_297 : decode cL_isRope 297 = .ok (.iload_n 2, 1) := by decide +kernel
theorem dL_isRope_298 : decode cL_isRope 298 = .ok (.iload_n 3, 1) := by decide +kernel
theorem dL_isRope_299 : decode cL_isRope 299 = .ok (.isub, 1) := by decide +kernel
theorem dL_isRope_300 : decode cL_isRope 300 = .ok (.if_icmp .ne 48, 3) := by decide +kernel
theorem dL_isRope_303 : decode cL_isRope 303 = .ok (.iload 8, 2) := by decide +kernel
theorem dL_isRope_305 : decode cL_isRope 305 = .ok (.iconst (-1), 1) := by decide +kernel
theorem dL_isRope_306 : decode cL_isRope 306 = .ok (.if_icmp .ne 7, 3) := by decide +kernel
theorem dL_isRope_309 : decode cL_isRope 309 = .ok (.iconst 1, 1) := by decide +kernel
theorem dL_isRope_310 : decode cL_isRope 310 = .ok (.goto 4, 3) := by decide +kernel
theorem dL_isRope_313 : decode cL_isRope 313 = .ok (.iconst 0, 1) := by decide +kernel
theorem dL_isRope_314 : decode cL_isRope 314 = .ok (.iload_n 3, 1) := by decide +kernel
theorem dL_isRope_315 : decode cL_isRope 315 = .ok (.iload_n 2, 1) := by decide +kernel
theorem dL_isRope_316 : decode cL_isRope 316 = .ok (.if_icmp .ne 7, 3) := by decide +kernel
theorem dL_isRope_319 : decode cL_isRope 319 = .ok (.iconst 1, 1) := by decide +kernel
theorem dL_isRope_320 : decode cL_isRope 320 = .ok (.goto 4, 3) := by decide +kernel
theorem dL_isRope_323 : decode cL_isRope 323 = .ok (.iconst 0, 1) := by decide +kernel
theorem dL_isRope_324 : decode cL_isRope 324 = .ok (.if_icmp .ne 24, 3) := by decide +kernel
theorem dL_isRope_327 : decode cL_isRope 327 = .ok (.iload 8, 2) := by decide +kernel
theorem dL_isRope_329 : decode cL_isRope 329 = .ok (.iconst (-1), 1) := by decide +kernel
theorem dL_isRope_330 : decode cL_isRope 330 = .ok (.if_icmp .eq 14, 3) := by decide +kernel
theorem dL_isRope_333 : decode cL_isRope 333 = .ok (.aload_n 0, 1) := by decide +kernel
theorem dL_isRope_334 : decode cL_isRope 334 = .ok (.iload_n 1, 1) := by decide +kernel
theorem dL_isRope_335 : decode cL_isRope 335 = .ok (.iload 8, 2) := by decide +kernel
theorem dL_isRope_337 : decode cL_isRope 337 = .ok (.invokevirtual 83, 3) := by decide +kernel
theorem dL_isRope_340 : decode cL_isRope 340 = .ok (.iconst (-1), 1) := by decide +kernel
theorem dL_isRope_341 : decode cL_isRope 341 = .ok (.if_icmp .ne 7, 3) := by decide +kernel
theorem dL_isRope_344 : decode cL_isRope 344 = .ok (.iconst 1, 1) := by decide +kernel
theorem dL_isRope_345 : decode cL_isRope 345 = .ok (.goto 4, 3) := by decide +kernel
theorem dL_isRope_348 : decode cL_isRope 348 = .ok (.iconst 0, 1) := by decide +kernel
theorem dL_isRope_349 : decode cL_isRope 349 = .ok (.istore 7, 2) := by decide +kernel
theorem dL_isRope_351 : decode cL_isRope 351 = .ok (.iload 7, 2) := by decide +kernel
theorem dL_isRope_353 : decode cL_isRope 353 = .ok (.ifCond .eq 52, 3) := by decide +kernel
theorem dL_isRope_356 : decode cL_isRope 356 = .ok (.aload_n 0, 1) := by decide +kernel
theorem dL_isRope_357 : decode cL_isRope 357 = .ok (.iload_n 1, 1) := by decide +kernel
theorem dL_isRope_358 : decode cL_isRope 358 = .ok (.invokevirtual 44, 3) := by decide +kernel
theorem dL_isRope_361 : decode cL_isRope 361 = .ok (.iload_n 2, 1) := by decide +kernel
theorem dL_isRope_362 : decode cL_isRope 362 = .ok (.if_icmp .lt 43, 3) := by decide +kernel
theorem dL_isRope_365 : decode cL_isRope 365 = .ok (.aload_n 0, 1) := by decide +kernel
theorem dL_isRope_366 : decode cL_isRope 366 = .ok (.iload_n 1, 1) := by decide +kernel
theorem dL_isRope_367 : decode cL_isRope 367 = .ok (.iconst 4, 1) := by decide +kernel
theorem dL_isRope_368 : decode cL_isRope 368 = .ok (.invokevirtual 24, 3) := by decide +kernel
theorem dL_isRope_371 : decode cL_isRope 371 = .ok (.aload_n 0, 1) := by decide +kernel
theorem dL_isRope_372 : decode cL_isRope 372 = .ok (.iload_n 1, 1) := by decide +kernel
theorem dL_isRope_373 : decode cL_isRope 373 = .ok (.iconst 2, 1) := by decide +kernel
theorem dL_isRope_374 : decode cL_isRope 374 = .ok (.invokevirtual 24, 3) := by decide +kernel
theorem dL_isRope_377 : decode cL_isRope 377 = .ok (.if_icmp .gt 28, 3) := by decide +kernel
theorem dL_isRope_380 : decode cL_isRope 380 = .ok (.iload 4, 2) := by decide +kernel
theorem dL_isRope_382 : decode cL_isRope 382 = .ok (.ifCond .gt 9, 3) := by decide +kernel
theorem dL_isRope_385 : decode cL_isRope 385 = .ok (.iload 6, 2) := by decide +kernel
theorem dL_isRope_387 : decode cL_isRope 387 = .ok (.iconst 1, 1) := by decide +kernel
theorem dL_isRope_388 : decode cL_isRope 388 = .ok (.if_icmp .ne 17, 3) := by decide +kernel
theorem dL_isRope_391 : decode cL_isRope 391 = .ok (.aload_n 0, 1) := by decide +kernel
theorem dL_isRope_392 : decode cL_isRope 392 = .ok (.iload_n 1, 1) := by decide +kernel
theorem dL_isRope_393 : decode cL_isRope 393 = .ok (.iload_n 1, 1) := by decide +kernel
theorem dL_isRope_394 : decode cL_isRope 394 = .ok (.invokevirtual 58, 3) := by decide +kernel
theorem dL_isRope_397 : decode cL_isRope 397 = .ok (.iconst 1, 1) := by decide +kernel
theorem dL_isRope_398 : decode cL_isRope 398 = .ok (.if_icmp .ne 7, 3) := by decide +kernel
theorem dL_isRope_401 : decode cL_isRope 401 = .ok (.iconst 1, 1) := by decide +kernel
theorem dL_isRope_402 : decode cL_isRope 402 = .ok (.goto 4, 3) := by decide +kernel
theorem dL_isRope_405 : decode cL_isRope 405 = .ok (.iconst 0, 1) := by decide +kernel
theorem dL_isRope_406 : decode cL_isRope 406 = .ok (.ireturn, 1) := by decide +kernel
theorem dL_arePhases_0 : decode cL_arePhases 0 = .ok (.iconst 0, 1) := by decide +kernel
theorem dL_arePhases_1 : decode cL_arePhases 1 = .ok (.istore_n 3, 1) := by decide +kernel
theorem dL_arePhases_2 : decode cL_arePhases 2 = .ok (.iconst (-1), 1) := by decide +kernel
theorem dL_arePhases_3 : decode cL_arePhases 3 = .ok (.istore 4, 2) := by decide +kernel
theorem dL_arePhases_5 : decode cL_arePhases 5 = .ok (.aload_n 0, 1) := by decide +kernel
theorem dL_arePhases_6 : decode cL_arePhases 6 = .ok (.iload_n 2, 1) := by decide +kernel
theorem dL_arePhases_7 : decode cL_arePhases 7 = .ok (.invokevirtual 27, 3) := by decide +kernel
theorem dL_arePhases_10 : decode cL_arePhases 10 = .ok (.iconst 1, 1) := by decide +kernel
theorem dL_arePhases_11 : decode cL_arePhases 11 = .ok (.isub, 1) := by decide +kernel
theorem dL_arePhases_12 : decode cL_arePhases 12 = .ok (.istore 5, 2) := by decide +kernel
theorem dL_arePhases_14 : decode cL_arePhases 14 = .ok (.iload 5, 2) := by decide +kernel
theorem dL_arePhases_16 : decode cL_arePhases 16 = .ok (.ifCond .lt 54, 3) := by decide +kernel
theorem dL_arePhases_19 : decode cL_arePhases 19 = .ok (.aload_n 0, 1) := by decide +kernel
theorem dL_arePhases_20 : decode cL_arePhases 20 = .ok (.iload_n 1, 1) := by decide +kernel
theorem dL_arePhases_21 : decode cL_arePhases 21 = .ok (.iload_n 2, 1) := by decide +kernel
theorem dL_arePhases_22 : decode cL_arePhases 22 = .ok (.iload 5, 2) := by decide +kernel
theorem dL_arePhases_24 : decode cL_arePhases 24 = .ok (.invokevirtual 67, 3) := by decide +kernel
theorem dL_arePhases_27 : decode cL_arePhases 27 = .ok (.ifCond .ne 7, 3) := by decide +kernel
theorem dL_arePhases_30 : decode cL_arePhases 30 = .ok (.iconst 1, 1) := by decide +kernel
theorem dL_arePhases_31 : decode cL_arePhases 31 = .ok (.goto 4, 3) := by decide +kernel
theorem dL_arePhases_34 : decode cL_arePhases 34 = .ok (.iconst 0, 1) := by decide +kernel
theorem dL_arePhases_35 : decode cL_arePhases 35 = .ok (.istore 6, 2) := by decide +kernel
theorem dL_arePhases_37 : decode cL_arePhases 37 = .ok (.iload_n 3, 1) := by decide +kernel
theorem dL_arePhases_38 : decode cL_arePhases 38 = .ok (.iload 6, 2) := by decide +kernel
theorem dL_arePhases_40 : decode cL_arePhases 40 = .ok (.ifCond .eq 7, 3) := by decide +kernel
theorem dL_arePhases_43 : decode cL_arePhases 43 = .ok (.iconst 1, 1) := by decide +kernel
theorem dL_arePhases_44 : decode cL_arePhases 44 = .ok (.goto 4, 3) := by decide +kernel
theorem dL_arePhases_47 : decode cL_arePhases 47 = .ok (.iconst 0, 1) := by decide +kernel
theorem dL_arePhases_48 : decode cL_arePhases 48 = .ok (.iadd, 1) := by decide +kernel
theorem dL_arePhases_49 : decode cL_arePhases 49 = .ok (.istore_n 3, 1) := by decide +kernel
theorem dL_arePhases_50 : decode cL_arePhases 50 = .ok (.iload 6, 2) := by decide +kernel
theorem dL_arePhases_52 : decode cL_arePhases 52 = .ok (.ifCond .eq 8, 3) := by decide +kernel
theorem dL_arePhases_55 : decode cL_arePhases 55 = .ok (.iload 5, 2) := by decide +kernel
theorem dL_arePhases_57 : decode cL_arePhases 57 = .ok (.goto 5, 3) := by decide +kernel
theorem dL_arePhases_60 : decode cL_arePhases 60 = .ok (.iload 4, 2) := by decide +kernel
theorem dL_arePhases_62 : decode cL_arePhases 62 = .ok (.istore 4, 2) := by decide +kernel
theorem dL_arePhases_64 : decode cL_arePhases 64 = .ok (.iinc 5 (-1), 3) := by decide +kernel
theorem dL_arePhases_67 : decode cL_arePhases 67 = .ok (.goto (-53), 3) := by decide +kernel
theorem dL_arePhases_70 : decode cL_arePhases 70 = .ok (.aload_n 0, 1) := by decide +kernel
theorem dL_arePhases_71 : decode cL_arePhases 71 = .ok (.iload_n 1, 1) := by decide +kernel
theorem dL_arePhases_72 : decode cL_arePhases 72 = .ok (.iload_n 2, 1) := by decide +kernel
theorem dL_arePhases_73 : decode cL_arePhases 73 = .ok (.iconst 0, 1) := by decide +kernel
theorem dL_arePhases_74 : decode cL_arePhases 74 = .ok (.invokevirtual 89, 3) := by decide +kernel
theorem dL_arePhases_77 : decode cL_arePhases 77 = .ok (.iload_n 3, 1) := by decide +kernel
theorem dL_arePhases_78 : decode cL_arePhases 78 = .ok (.if_icmp .ne 31, 3) := by decide +kernel
theorem dL_arePhases_81 : decode cL_arePhases 81 = .ok (.aload_n 0, 1) := by decide +kernel
theorem dL_arePhases_82 : decode cL_arePhases 82 = .ok (.iload_n 1, 1) := by decide +kernel
theorem dL_arePhases_83 : decode cL_arePhases 83 = .ok (.iload_n 2, 1) := by decide +kernel
theorem dL_arePhases_84 : decode cL_arePhases 84 = .ok (.iconst 1, 1) := by decide +kernel
theorem dL_arePhases_85 : decode cL_arePhases 85 = .ok (.invokevirtual 89, 3) := by decide +kernel
theorem dL_arePhases_88 : decode cL_arePhases 88 = .ok (.iload 4, 2) := by decide +kernel
theorem dL_arePhases_90 : decode cL_arePhases 90 = .ok (.if_icmp .ne 19, 3) := by decide +kernel
theorem dL_arePhases_93 : decode cL_arePhases 93 = .ok (.aload_n 0, 1) := by decide +kernel
theorem dL_arePhases_94 : decode cL_arePhases 94 = .ok (.iload_n 1, 1) := by decide +kernel
theorem dL_arePhases_95 : decode cL_arePhases 95 = .ok (.iload_n 2, 1) := by decide +kernel
theorem dL_arePhases_96 : decode cL_arePhases 96 = .ok (.iconst 2, 1) := by decide +kernel
theorem dL_arePhases_97 : decode cL_arePhases 97 = .ok (.invokevirtual 89, 3) := by decide +kernel
theorem dL_arePhases_100 : decode cL_arePhases 100 = .ok (.iload 4, 2) := by decide +kernel
theorem dL_arePhases_102 : decode cL_arePhases 102 = .ok (.if_icmp .ne 7, 3) := by decide +kernel
theorem dL_arePhases_105 : decode cL_arePhases 105 = .ok (.iconst 1, 1) := by decide +kernel
theorem dL_arePhases_106 : decode cL_arePhases 106 = .ok (.goto 4, 3) := by decide +kernel
theorem dL_arePhases_109 : decode cL_arePhases 109 = .ok (.iconst 0, 1) := by decide +kernel
theorem dL_arePhases_110 : decode cL_arePhases 110 = .ok (.ireturn, 1) := by decide +kernel
theorem dL_meets_0 : decode cL_meets 0 = .ok (.iload_n 1, 1) := by decide +kernel
theorem dL_meets_1 : decode cL_meets 1 = .ok (.bipush 8, 2) := by decide +kernel
theorem dL_meets_3 : decode cL_meets 3 = .ok (.invokestatic 15, 3) := by decide +kernel
theorem dL_meets_6 : decode cL_meets 6 = .ok (.istore_n 2, 1) := by decide +kernel
theorem dL_meets_7 : decode cL_meets 7 = .ok (.iload_n 1, 1) := by decide +kernel
theorem dL_meets_8 : decode cL_meets 8 = .ok (.iconst 3, 1) := by decide +kernel
theorem dL_meets_9 : decode cL_meets 9 = .ok (.ishr, 1) := by decide +kernel
theorem dL_meets_10 : decode cL_meets 10 = .ok (.bipush 8, 2) := by decide +kernel
theorem dL_meets_12 : decode cL_meets 12 = .ok (.invokestatic 15, 3) := by decide +kernel
theorem dL_meets_15 : decode cL_meets 15 = .ok (.istore_n 3, 1) := by decide +kernel
theorem dL_meets_16 : decode cL_meets 16 = .ok (.iload_n 1, 1) := by decide +kernel
theorem dL_meets_17 : decode cL_meets 17 = .ok (.bipush 6, 2) := by decide +kernel
theorem dL_meets_19 : decode cL_meets 19 = .ok (.ishr, 1) := by decide +kernel
theorem dL_meets_20 : decode cL_meets 20 = .ok (.aload_n 0, 1) := by decide +kernel
theorem dL_meets_21 : decode cL_meets 21 = .ok (.iload_n 2, 1) := by decide +kernel
theorem dL_meets_22 : decode cL_meets 22 = .ok (.invokevirtual 27, 3) := by decide +kernel
theorem dL_meets_25 : decode cL_meets 25 = .ok (.invokestatic 15, 3) := by decide +kernel
theorem dL_meets_28 : decode cL_meets 28 = .ok (.istore 4, 2) := by decide +kernel
theorem dL_meets_30 : decode cL_meets 30 = .ok (.iload_n 1, 1) := by decide +kernel
theorem dL_meets_31 : decode cL_meets 31 = .ok (.bipush 11, 2) := by decide +kernel
theorem dL_meets_33 : decode cL_meets 33 = .ok (.ishr, 1) := by decide +kernel
theorem dL_meets_34 : decode cL_meets 34 = .ok (.aload_n 0, 1) := by decide +kernel
theorem dL_meets_35 : decode cL_meets 35 = .ok (.iload_n 3, 1) := by decide +kernel
theorem dL_meets_36 : decode cL_meets 36 = .ok (.invokevirtual 27, 3) := by decide +kernel
theorem dL_meets_39 : decode cL_meets 39 = .ok (.invokestatic 15, 3) := by decide +kernel
theorem dL_meets_42 : decode cL_meets 42 = .ok (.istore 5, 2) := by decide +kernel
theorem dL_meets_44 : decode cL_meets 44 = .ok (.aload_n 0, 1) := by decide +kernel
theorem dL_meets_45 : decode cL_meets 45 = .ok (.iload_n 2, 1) := by decide +kernel
theorem dL_meets_46 : decode cL_meets 46 = .ok (.iload 4, 2) := by decide +kernel
theorem dL_meets_48 : decode cL_meets 48 = .ok (.iload_n 3, 1) := by decide +kernel
theorem dL_meets_49 : decode cL_meets 49 = .ok (.iload 5, 2) := by decide +kernel
theorem dL_meets_51 : decode cL_meets 51 = .ok (.invokevirtual 95, 3) := by decide +kernel
theorem dL_meets_54 : decode cL_meets 54 = .ok (.istore 6, 2) := by decide +kernel
theorem dL_meets_56 : decode cL_meets 56 = .ok (.iconst (-1), 1) := by decide +kernel
theorem dL_meets_57 : decode cL_meets 57 = .ok (.istore 7, 2) := by decide +kernel
theorem dL_meets_59 : decode cL_meets 59 = .ok (.sipush 799, 3) := by decide +kernel
theorem dL_meets_62 : decode cL_meets 62 = .ok (.istore 8, 2) := by decide +kernel
theorem dL_meets_64 : decode cL_meets 64 = .ok (.iload 8, 2) := by decide +kernel
theorem dL_meets_66 : decode cL_meets 66 = .ok (.ifCond .lt 60, 3) := by decide +kernel
theorem dL_meets_69 : decode cL_meets 69 = .ok (.iload 8, 2) := by decide +kernel
theorem dL_meets_71 : decode cL_meets 71 = .ok (.iload 4, 2) := by decide +kernel
theorem dL_meets_73 : decode cL_meets 73 = .ok (.if_icmp .lt 43, 3) := by decide +kernel
theorem dL_meets_76 : decode cL_meets 76 = .ok (.iload 8, 2) := by decide +kernel
theorem dL_meets_78 : decode cL_meets 78 = .ok (.iload 5, 2) := by decide +kernel
theorem dL_meets_80 : decode cL_meets 80 = .ok (.if_icmp .lt 36, 3) := by decide +kernel
theorem dL_meets_83 : decode cL_meets 83 = .ok (.iload 8, 2) := by decide +kernel
theorem dL_meets_85 : decode cL_meets 85 = .ok (.iload 4, 2) := by decide +kernel
theorem dL_meets_87 : decode cL_meets 87 = .ok (.isub, 1) := by decide +kernel
theorem dL_meets_88 : decode cL_meets 88 = .ok (.aload_n 0, 1) := by decide +kernel
theorem dL_meets_89 : decode cL_meets 89 = .ok (.iload_n 2, 1) := by decide +kernel
theorem dL_meets_90 : decode cL_meets 90 = .ok (.invokevirtual 27, 3) := by decide +kernel
theorem dL_meets_93 : decode cL_meets 93 = .ok (.irem, 1) := by decide +kernel
theorem dL_meets_94 : decode cL_meets 94 = .ok (.ifCond .ne 22, 3) := by decide +kernel
theorem dL_meets_97 : decode cL_meets 97 = .ok (.iload 8, 2) := by decide +kernel
theorem dL_meets_99 : decode cL_meets 99 = .ok (.iload 5, 2) := by decide +kernel
theorem dL_meets_101 : decode cL_meets 101 = .ok (.isub, 1) := by decide +kernel
theorem dL_meets_102 : decode cL_meets 102 = .ok (.aload_n 0, 1) := by decide +kernel
theorem dL_meets_103 : decode cL_meets 103 = .ok (.iload_n 3, 1) := by decide +kernel
theorem dL_meets_104 : decode cL_meets 104 = .ok (.invokevirtual 27, 3) := by decide +kernel
theorem dL_meets_107 : decode cL_meets 107 = .ok (.irem, 1) := by decide +kernel
theorem dL_meets_108 : decode cL_meets 108 = .ok (.ifCond .ne 8, 3) := by decide +kernel
theorem dL_meets_111 : decode cL_meets 111 = .ok (.iload 8, 2) := by decide +kernel
theorem dL_meets_113 : decode cL_meets 113 = .ok (.goto 5, 3) := by decide +kernel
theorem dL_meets_116 : decode cL_meets 116 = .ok (.iload 7, 2) := by decide +kernel
theorem dL_meets_118 : decode cL_meets 118 = .ok (.istore 7, 2) := by decide +kernel
theorem dL_meets_120 : decode cL_meets 120 = .ok (.iinc 8 (-1), 3) := by decide +kernel
theorem dL_meets_123 : decode cL_meets 123 = .ok (.goto (-59), 3) := by decide +kernel
theorem dL_meets_126 : decode cL_meets 126 = .ok (.iload 6, 2) := by decide +kernel
theorem dL_meets_128 : decode cL_meets 128 = .ok (.iload 7, 2) := by decide +kernel
theorem dL_meets_130 : decode cL_meets 130 = .ok (.if_icmp .ne 37, 3) := by decide +kernel
theorem dL_meets_133 : decode cL_meets 133 = .ok (.aload_n 0, 1) := by decide +kernel
theorem dL_meets_134 : decode cL_meets 134 = .ok (.iload_n 2, 1) := by decide +kernel
theorem dL_meets_135 : decode cL_meets 135 = .ok (.iload 4, 2) := by decide +kernel
theorem dL_meets_137 : decode cL_meets 137 = .ok (.iload_n 3, 1) := by decide +kernel
theorem dL_meets_138 : decode cL_meets 138 = .ok (.iload 5, 2) := by decide +kernel
theorem dL_meets_140 : decode cL_meets 140 = .ok (.invokevirtual 99, 3) := by decide +kernel
theorem dL_meets_143 : decode cL_meets 143 = .ok (.iload 7, 2) := by decide +kernel
theorem dL_meets_145 : decode cL_meets 145 = .ok (.if_icmp .ne 22, 3) := by decide +kernel
theorem dL_meets_148 : decode cL_meets 148 = .ok (.aload_n 0, 1) := by decide +kernel
theorem dL_meets_149 : decode cL_meets 149 = .ok (.iload_n 3, 1) := by decide +kernel
theorem dL_meets_150 : decode cL_meets 150 = .ok (.iload 5, 2) := by decide +kernel
theorem dL_meets_152 : decode cL_meets 152 = .ok (.iload_n 2, 1) := by decide +kernel
theorem dL_meets_153 : decode cL_meets 153 = .ok (.iload 4, 2) := by decide +kernel
theorem dL_meets_155 : decode cL_meets 155 = .ok (.invokevirtual 95, 3) := by decide +kernel
theorem dL_meets_158 : decode cL_meets 158 = .ok (.iload 7, 2) := by decide +kernel
theorem dL_meets_160 : decode cL_meets 160 = .ok (.if_icmp .ne 7, 3) := by decide +kernel
theorem dL_meets_163 : decode cL_meets 163 = .ok (.iconst 1, 1) := by decide +kernel
theorem dL_meets_164 : decode cL_meets 164 = .ok (.goto 4, 3) := by decide +kernel
theorem dL_meets_167 : decode cL_meets 167 = .ok (.iconst 0, 1) := by decide +kernel
theorem dL_meets_168 : decode cL_meets 168 = .ok (.ireturn, 1) := by decide +kernel
theorem dL_holds_0 : decode cL_holds 0 = .ok (.iconst 0, 1) := by decide +kernel
theorem dL_holds_1 : decode cL_holds 1 = .ok (.istore_n 1, 1) := by decide +kernel
theorem dL_holds_2 : decode cL_holds 2 = .ok (.iconst 0, 1) := by decide +kernel
theorem dL_holds_3 : decode cL_holds 3 = .ok (.istore_n 2, 1) := by decide +kernel
theorem dL_holds_4 : decode cL_holds 4 = .ok (.iconst 1, 1) := by decide +kernel
theorem dL_holds_5 : decode cL_holds 5 = .ok (.istore_n 3, 1) := by decide +kernel
theorem dL_holds_6 : decode cL_holds 6 = .ok (.iconst 0, 1) := by decide +kernel
theorem dL_holds_7 : decode cL_holds 7 = .ok (.istore 4, 2) := by decide +kernel
theorem dL_holds_9 : decode cL_holds 9 = .ok (.iload 4, 2) := by decide +kernel
theorem dL_holds_11 : decode cL_holds 11 = .ok (.aload_n 0, 1) := by decide +kernel
theorem dL_holds_12 : decode cL_holds 12 = .ok (.iconst 0, 1) := by decide +kernel
theorem dL_holds_13 : decode cL_holds 13 = .ok (.invokevirtual 9, 3) := by decide +kernel
theorem dL_holds_16 : decode cL_holds 16 = .ok (.if_icmp .ge 40, 3) := by decide +kernel
theorem dL_holds_19 : decode cL_holds 19 = .ok (.iload_n 3, 1) := by decide +kernel
theorem dL_holds_20 : decode cL_holds 20 = .ok (.ifCond .eq 36, 3) := by decide +kernel
theorem dL_holds_23 : decode cL_holds 23 = .ok (.aload_n 0, 1) := by decide +kernel
theorem dL_holds_24 : decode cL_holds 24 = .ok (.iload 4, 2) := by decide +kernel
theorem dL_holds_26 : decode cL_holds 26 = .ok (.invokestatic 102, 3) := by decide +kernel
theorem dL_holds_29 : decode cL_holds 29 = .ok (.istore_n 3, 1) := by decide +kernel
theorem dL_holds_30 : decode cL_holds 30 = .ok (.iload_n 1, 1) := by decide +kernel
theorem dL_holds_31 : decode cL_holds 31 = .ok (.aload_n 0, 1) := by decide +kernel
theorem dL_holds_32 : decode cL_holds 32 = .ok (.iload 4, 2) := by decide +kernel
theorem dL_holds_34 : decode cL_holds 34 = .ok (.iconst 0, 1) := by decide +kernel
theorem dL_holds_35 : decode cL_holds 35 = .ok (.invokevirtual 24, 3) := by decide +kernel
theorem dL_holds_38 : decode cL_holds 38 = .ok (.iadd, 1) := by decide +kernel
theorem dL_holds_39 : decode cL_holds 39 = .ok (.istore_n 1, 1) := by decide +kernel
theorem dL_holds_40 : decode cL_holds 40 = .ok (.iload_n 2, 1) := by decide +kernel
theorem dL_holds_41 : decode cL_holds 41 = .ok (.aload_n 0, 1) := by decide +kernel
theorem dL_holds_42 : decode cL_holds 42 = .ok (.iload 4, 2) := by decide +kernel
theorem dL_holds_44 : decode cL_holds 44 = .ok (.iconst 2, 1) := by decide +kernel
theorem dL_holds_45 : decode cL_holds 45 = .ok (.invokevirtual 24, 3) := by decide +kernel
theorem dL_holds_48 : decode cL_holds 48 = .ok (.iadd, 1) := by decide +kernel
theorem dL_holds_49 : decode cL_holds 49 = .ok (.istore_n 2, 1) := by decide +kernel
theorem dL_holds_50 : decode cL_holds 50 = .ok (.iinc 4 1, 3) := by decide +kernel
theorem dL_holds_53 : decode cL_holds 53 = .ok (.goto (-44), 3) := by decide +kernel
theorem dL_holds_56 : decode cL_holds 56 = .ok (.iload_n 3, 1) := by decide +kernel
theorem dL_holds_57 : decode cL_holds 57 = .ok (.ifCond .eq 48, 3) := by decide +kernel
theorem dL_holds_60 : decode cL_holds 60 = .ok (.iload_n 1, 1) := by decide +kernel
theorem dL_holds_61 : decode cL_holds 61 = .ok (.aload_n 0, 1) := by decide +kernel
theorem dL_holds_62 : decode cL_holds 62 = .ok (.iconst 1, 1) := by decide +kernel
theorem dL_holds_63 : decode cL_holds 63 = .ok (.invokevirtual 9, 3) := by decide +kernel
theorem dL_holds_66 : decode cL_holds 66 = .ok (.if_icmp .ne 39, 3) := by decide +kernel
theorem dL_holds_69 : decode cL_holds 69 = .ok (.iload_n 2, 1) := by decide +kernel
theorem dL_holds_70 : decode cL_holds 70 = .ok (.aload_n 0, 1) := by decide +kernel
theorem dL_holds_71 : decode cL_holds 71 = .ok (.iconst 2, 1) := by decide +kernel
theorem dL_holds_72 : decode cL_holds 72 = .ok (.invokevirtual 9, 3) := by decide +kernel
theorem dL_holds_75 : decode cL_holds 75 = .ok (.if_icmp .ne 30, 3) := by decide +kernel
theorem dL_holds_78 : decode cL_holds 78 = .ok (.aload_n 0, 1) := by decide +kernel
theorem dL_holds_79 : decode cL_holds 79 = .ok (.invokevirtual 105, 3) := by decide +kernel
theorem dL_holds_82 : decode cL_holds 82 = .ok (.iload_n 1, 1) := by decide +kernel
theorem dL_holds_83 : decode cL_holds 83 = .ok (.ifCond .ne 7, 3) := by decide +kernel
theorem dL_holds_86 : decode cL_holds 86 = .ok (.dconst 1, 1) := by decide +kernel
theorem dL_holds_87 : decode cL_holds 87 = .ok (.goto 10, 3) := by decide +kernel
theorem dL_holds_90 : decode cL_holds 90 = .ok (.iload_n 1, 1) := by decide +kernel
theorem dL_holds_91 : decode cL_holds 91 = .ok (.iload_n 2, 1) := by decide +kernel
theorem dL_holds_92 : decode cL_holds 92 = .ok (.isub, 1) := by decide +kernel
theorem dL_holds_93 : decode cL_holds 93 = .ok (.i2d, 1) := by decide +kernel
theorem dL_holds_94 : decode cL_holds 94 = .ok (.iload_n 1, 1) := by decide +kernel
theorem dL_holds_95 : decode cL_holds 95 = .ok (.i2d, 1) := by decide +kernel
theorem dL_holds_96 : decode cL_holds 96 = .ok (.ddiv, 1) := by decide +kernel
theorem dL_holds_97 : decode cL_holds 97 = .ok (.dcmp .l, 1) := by decide +kernel
theorem dL_holds_98 : decode cL_holds 98 = .ok (.ifCond .ne 7, 3) := by decide +kernel
theorem dL_holds_101 : decode cL_holds 101 = .ok (.iconst 1, 1) := by decide +kernel
theorem dL_holds_102 : decode cL_holds 102 = .ok (.goto 4, 3) := by decide +kernel
theorem dL_holds_105 : decode cL_holds 105 = .ok (.iconst 0, 1) := by decide +kernel
theorem dL_holds_106 : decode cL_holds 106 = .ok (.ireturn, 1) := by decide +kernel
theorem dL_law_0 : decode cL_law 0 = .ok (.new 10, 3) := by decide +kernel
theorem dL_law_3 : decode cL_law 3 = .ok (.dup, 1) := by decide +kernel
theorem dL_law_4 : decode cL_law 4 = .ok (.invokespecial 109, 3) := by decide +kernel
theorem dL_law_7 : decode cL_law 7 = .ok (.astore_n 1, 1) := by decide +kernel
theorem dL_law_8 : decode cL_law 8 = .ok (.aload_n 1, 1) := by decide +kernel
theorem dL_law_9 : decode cL_law 9 = .ok (.invokestatic 110, 3) := by decide +kernel
theorem dL_law_12 : decode cL_law 12 = .ok (.ifCond .eq 16, 3) := by decide +kernel
theorem dL_law_15 : decode cL_law 15 = .ok (.aload_n 1, 1) := by decide +kernel
theorem dL_law_16 : decode cL_law 16 = .ok (.bipush 7, 2) := by decide +kernel
theorem dL_law_18 : decode cL_law 18 = .ok (.invokevirtual 9, 3) := by decide +kernel
theorem dL_law_21 : decode cL_law 21 = .ok (.ifCond .ne 7, 3) := by decide +kernel
theorem dL_law_24 : decode cL_law 24 = .ok (.iconst 1, 1) := by decide +kernel
theorem dL_law_25 : decode cL_law 25 = .ok (.goto 4, 3) := by decide +kernel
theorem dL_law_28 : decode cL_law 28 = .ok (.iconst 0, 1) := by decide +kernel
theorem dL_law_29 : decode cL_law 29 = .ok (.istore_n 2, 1) := by decide +kernel
theorem dL_law_30 : decode cL_law 30 = .ok (.aload_n 0, 1) := by decide +kernel
theorem dL_law_31 : decode cL_law 31 = .ok (.arraylength, 1) := by decide +kernel
theorem dL_law_32 : decode cL_law 32 = .ok (.iconst 2, 1) := by decide +kernel
theorem dL_law_33 : decode cL_law 33 = .ok (.idiv, 1) := by decide +kernel
theorem dL_law_34 : decode cL_law 34 = .ok (.bipush 36, 2) := by decide +kernel
theorem dL_law_36 : decode cL_law 36 = .ok (.if_icmp .le 8, 3) := by decide +kernel
theorem dL_law_39 : decode cL_law 39 = .ok (.bipush 36, 2) := by decide +kernel
theorem dL_law_41 : decode cL_law 41 = .ok (.goto 7, 3) := by decide +kernel
theorem dL_law_44 : decode cL_law 44 = .ok (.aload_n 0, 1) := by decide +kernel
theorem dL_law_45 : decode cL_law 45 = .ok (.arraylength, 1) := by decide +kernel
theorem dL_law_46 : decode cL_law 46 = .ok (.iconst 2, 1) := by decide +kernel
theorem dL_law_47 : decode cL_law 47 = .ok (.idiv, 1) := by decide +kernel
theorem dL_law_48 : decode cL_law 48 = .ok (.istore_n 3, 1) := by decide +kernel
theorem dL_law_49 : decode cL_law 49 = .ok (.iconst 0, 1) := by decide +kernel
theorem dL_law_50 : decode cL_law 50 = .ok (.istore 4, 2) := by decide +kernel
theorem dL_law_52 : decode cL_law 52 = .ok (.iload 4, 2) := by decide +kernel
theorem dL_law_54 : decode cL_law 54 = .ok (.iload_n 3, 1) := by decide +kernel
theorem dL_law_55 : decode cL_law 55 = .ok (.if_icmp .ge 153, 3) := by decide +kernel
theorem dL_law_58 : decode cL_law 58 = .ok (.iload_n 2, 1) := by decide +kernel
theorem dL_law_59 : decode cL_law 59 = .ok (.ifCond .eq 149, 3) := by decide +kernel
theorem dL_law_62 : decode cL_law 62 = .ok (.aload_n 1, 1) := by decide +kernel
theorem dL_law_63 : decode cL_law 63 = .ok (.iconst 0, 1) := by decide +kernel
theorem dL_law_64 : decode cL_law 64 = .ok (.invokevirtual 9, 3) := by decide +kernel
theorem dL_law_67 : decode cL_law 67 = .ok (.istore 5, 2) := by decide +kernel
theorem dL_law_69 : decode cL_law 69 = .ok (.aload_n 1, 1) := by decide +kernel
theorem dL_law_70 : decode cL_law 70 = .ok (.iconst 2, 1) := by decide +kernel
theorem dL_law_71 : decode cL_law 71 = .ok (.invokevirtual 9, 3) := by decide +kernel
theorem dL_law_74 : decode cL_law 74 = .ok (.istore 6, 2) := by decide +kernel
theorem dL_law_76 : decode cL_law 76 = .ok (.aload_n 1, 1) := by decide +kernel
theorem dL_law_77 : decode cL_law 77 = .ok (.invokevirtual 114, 3) := by decide +kernel
theorem dL_law_80 : decode cL_law 80 = .ok (.iload 5, 2) := by decide +kernel
theorem dL_law_82 : decode cL_law 82 = .ok (.if_icmp .ne 56, 3) := by decide +kernel
theorem dL_law_85 : decode cL_law 85 = .ok (.aload_n 1, 1) := by decide +kernel
theorem dL_law_86 : decode cL_law 86 = .ok (.aload_n 0, 1) := by decide +kernel
theorem dL_law_87 : decode cL_law 87 = .ok (.iconst 2, 1) := by decide +kernel
theorem dL_law_88 : decode cL_law 88 = .ok (.iload 4, 2) := by decide +kernel
theorem dL_law_90 : decode cL_law 90 = .ok (.imul, 1) := by decide +kernel
theorem dL_law_91 : decode cL_law 91 = .ok (.invokestatic 117, 3) := by decide +kernel
theorem dL_law_94 : decode cL_law 94 = .ok (.aload_n 0, 1) := by decide +kernel
theorem dL_law_95 : decode cL_law 95 = .ok (.iconst 2, 1) := by decide +kernel
theorem dL_law_96 : decode cL_law 96 = .ok (.iload 4, 2) := by decide +kernel
theorem dL_law_98 : decode cL_law 98 = .ok (.imul, 1) := by decide +kernel
theorem dL_law_99 : decode cL_law 99 = .ok (.iconst 1, 1) := by decide +kernel
theorem dL_law_100 : decode cL_law 100 = .ok (.iadd, 1) := by decide +kernel
theorem dL_law_101 : decode cL_law 101 = .ok (.invokestatic 117, 3) := by decide +kernel
theorem dL_law_104 : decode cL_law 104 = .ok (.invokestatic 121, 3) := by decide +kernel
theorem dL_law_107 : decode cL_law 107 = .ok (.ifCond .eq 31, 3) := by decide +kernel
theorem dL_law_110 : decode cL_law 110 = .ok (.aload_n 1, 1) := by decide +kernel
theorem dL_law_111 : decode cL_law 111 = .ok (.invokestatic 110, 3) := by decide +kernel
theorem dL_law_114 : decode cL_law 114 = .ok (.ifCond .eq 24, 3) := by decide +kernel
theorem dL_law_117 : decode cL_law 117 = .ok (.aload_n 1, 1) := by decide +kernel
theorem dL_law_118 : decode cL_law 118 = .ok (.aload_n 0, 1) := by decide +kernel
theorem dL_law_119 : decode cL_law 119 = .ok (.iconst 2, 1) := by decide +kernel
theorem dL_law_120 : decode cL_law 120 = .ok (.iload 4, 2) := by decide +kernel
theorem dL_law_122 : decode cL_law 122 = .ok (.imul, 1) := by decide +kernel
theorem dL_law_123 : decode cL_law 123 = .ok (.iconst 1, 1) := by decide +kernel
theorem dL_law_124 : decode cL_law 124 = .ok (.iadd, 1) := by decide +kernel
theorem dL_law_125 : decode cL_law 125 = .ok (.invokestatic 117, 3) := by decide +kernel
theorem dL_law_128 : decode cL_law 128 = .ok (.invokestatic 124, 3) := by decide +kernel
theorem dL_law_131 : decode cL_law 131 = .ok (.ifCond .eq 7, 3) := by decide +kernel
theorem dL_law_134 : decode cL_law 134 = .ok (.iconst 1, 1) := by decide +kernel
theorem dL_law_135 : decode cL_law 135 = .ok (.goto 4, 3) := by decide +kernel
theorem dL_law_138 : decode cL_law 138 = .ok (.iconst 0, 1) := by decide +kernel
theorem dL_law_139 : decode cL_law 139 = .ok (.istore_n 2, 1) := by decide +kernel
theorem dL_law_140 : decode cL_law 140 = .ok (.iload_n 2, 1) := by decide +kernel
theorem dL_law_141 : decode cL_law 141 = .ok (.ifCond .eq 61, 3) := by decide +kernel
theorem dL_law_144 : decode cL_law 144 = .ok (.iload 4, 2) := by decide +kernel
theorem dL_law_146 : decode cL_law 146 = .ok (.bipush 6, 2) := by decide +kernel
theorem dL_law_148 : decode cL_law 148 = .ok (.irem, 1) := by decide +kernel
theorem dL_law_149 : decode cL_law 149 = .ok (.iconst 5, 1) := by decide +kernel
theorem dL_law_150 : decode cL_law 150 = .ok (.if_icmp .ne 52, 3) := by decide +kernel
theorem dL_law_153 : decode cL_law 153 = .ok (.aload_n 1, 1) := by decide +kernel
theorem dL_law_154 : decode cL_law 154 = .ok (.iconst 2, 1) := by decide +kernel
theorem dL_law_155 : decode cL_law 155 = .ok (.invokevirtual 9, 3) := by decide +kernel
theorem dL_law_158 : decode cL_law 158 = .ok (.istore 7, 2) := by decide +kernel
theorem dL_law_160 : decode cL_law 160 = .ok (.aload_n 1, 1) := by decide +kernel
theorem dL_law_161 : decode cL_law 161 = .ok (.invokevirtual 127, 3) := by decide +kernel
theorem dL_law_164 : decode cL_law 164 = .ok (.iload 5, 2) := by decide +kernel
theorem dL_law_166 : decode cL_law 166 = .ok (.if_icmp .ne 34, 3) := by decide +kernel
theorem dL_law_169 : decode cL_law 169 = .ok (.aload_n 1, 1) := by decide +kernel
theorem dL_law_170 : decode cL_law 170 = .ok (.iconst 2, 1) := by decide +kernel
theorem dL_law_171 : decode cL_law 171 = .ok (.invokevirtual 9, 3) := by decide +kernel
theorem dL_law_174 : decode cL_law 174 = .ok (.iload 6, 2) := by decide +kernel
theorem dL_law_176 : decode cL_law 176 = .ok (.if_icmp .ne 24, 3) := by decide +kernel
theorem dL_law_179 : decode cL_law 179 = .ok (.aload_n 1, 1) := by decide +kernel
theorem dL_law_180 : decode cL_law 180 = .ok (.invokevirtual 79, 3) := by decide +kernel
theorem dL_law_183 : decode cL_law 183 = .ok (.ifCond .lt 17, 3) := by decide +kernel
theorem dL_law_186 : decode cL_law 186 = .ok (.aload_n 1, 1) := by decide +kernel
theorem dL_law_187 : decode cL_law 187 = .ok (.iconst 2, 1) := by decide +kernel
theorem dL_law_188 : decode cL_law 188 = .ok (.invokevirtual 9, 3) := by decide +kernel
theorem dL_law_191 : decode cL_law 191 = .ok (.iload 7, 2) := by decide +kernel
theorem dL_law_193 : decode cL_law 193 = .ok (.if_icmp .ne 7, 3) := by decide +kernel
theorem dL_law_196 : decode cL_law 196 = .ok (.iconst 1, 1) := by decide +kernel
theorem dL_law_197 : decode cL_law 197 = .ok (.goto 4, 3) := by decide +kernel
theorem dL_law_200 : decode cL_law 200 = .ok (.iconst 0, 1) := by decide +kernel
theorem dL_law_201 : decode cL_law 201 = .ok (.istore_n 2, 1) := by decide +kernel
theorem dL_law_202 : decode cL_law 202 = .ok (.iinc 4 1, 3) := by decide +kernel
theorem dL_law_205 : decode cL_law 205 = .ok (.goto (-153), 3) := by decide +kernel
theorem dL_law_208 : decode cL_law 208 = .ok (.iload_n 2, 1) := by decide +kernel
theorem dL_law_209 : decode cL_law 209 = .ok (.ireturn, 1) := by decide +kernel
