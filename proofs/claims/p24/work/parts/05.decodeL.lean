theorem dL_draw_0 : decode cL_draw 0 = .ok (.iload_n 1, 1) := by decide +kernel
theorem dL_draw_1 : decode cL_draw 1 = .ok (.aload_n 0, 1) := by decide +kernel
theorem dL_draw_2 : decode cL_draw 2 = .ok (.arraylength, 1) := by decide +kernel
theorem dL_draw_3 : decode cL_draw 3 = .ok (.if_icmp .ge 12, 3) := by decide +kernel
theorem dL_draw_6 : decode cL_draw 6 = .ok (.aload_n 0, 1) := by decide +kernel
theorem dL_draw_7 : decode cL_draw 7 = .ok (.iload_n 1, 1) := by decide +kernel
theorem dL_draw_8 : decode cL_draw 8 = .ok (.iaload, 1) := by decide +kernel
theorem dL_draw_9 : decode cL_draw 9 = .ok (.ldc 7, 2) := by decide +kernel
theorem dL_draw_11 : decode cL_draw 11 = .ok (.iand, 1) := by decide +kernel
theorem dL_draw_12 : decode cL_draw 12 = .ok (.goto 12, 3) := by decide +kernel
theorem dL_draw_15 : decode cL_draw 15 = .ok (.ldc 8, 2) := by decide +kernel
theorem dL_draw_17 : decode cL_draw 17 = .ok (.iload_n 1, 1) := by decide +kernel
theorem dL_draw_18 : decode cL_draw 18 = .ok (.iconst 2, 1) := by decide +kernel
theorem dL_draw_19 : decode cL_draw 19 = .ok (.iadd, 1) := by decide +kernel
theorem dL_draw_20 : decode cL_draw 20 = .ok (.imul, 1) := by decide +kernel
theorem dL_draw_21 : decode cL_draw 21 = .ok (.ldc 9, 2) := by decide +kernel
theorem dL_draw_23 : decode cL_draw 23 = .ok (.irem, 1) := by decide +kernel
theorem dL_draw_24 : decode cL_draw 24 = .ok (.ireturn, 1) := by decide +kernel
theorem dL_step_0 : decode cL_step 0 = .ok (.iload_n 3, 1) := by decide +kernel
theorem dL_step_1 : decode cL_step 1 = .ok (.bipush 6, 2) := by decide +kernel
theorem dL_step_3 : decode cL_step 3 = .ok (.irem, 1) := by decide +kernel
theorem dL_step_4 : decode cL_step 4 = .ok (.istore 5, 2) := by decide +kernel
theorem dL_step_6 : decode cL_step 6 = .ok (.iload 4, 2) := by decide +kernel
theorem dL_step_8 : decode cL_step 8 = .ok (.bipush 6, 2) := by decide +kernel
theorem dL_step_10 : decode cL_step 10 = .ok (.irem, 1) := by decide +kernel
theorem dL_step_11 : decode cL_step 11 = .ok (.istore 6, 2) := by decide +kernel
theorem dL_step_13 : decode cL_step 13 = .ok (.aload_n 1, 1) := by decide +kernel
theorem dL_step_14 : decode cL_step 14 = .ok (.iconst 1, 1) := by decide +kernel
theorem dL_step_15 : decode cL_step 15 = .ok (.iaload, 1) := by decide +kernel
theorem dL_step_16 : decode cL_step 16 = .ok (.ifCond .ne 7, 3) := by decide +kernel
theorem dL_step_19 : decode cL_step 19 = .ok (.iconst 0, 1) := by decide +kernel
theorem dL_step_20 : decode cL_step 20 = .ok (.goto 9, 3) := by decide +kernel
theorem dL_step_23 : decode cL_step 23 = .ok (.iload 4, 2) := by decide +kernel
theorem dL_step_25 : decode cL_step 25 = .ok (.aload_n 1, 1) := by decide +kernel
theorem dL_step_26 : decode cL_step 26 = .ok (.iconst 1, 1) := by decide +kernel
theorem dL_step_27 : decode cL_step 27 = .ok (.iaload, 1) := by decide +kernel
theorem dL_step_28 : decode cL_step 28 = .ok (.irem, 1) := by decide +kernel
theorem dL_step_29 : decode cL_step 29 = .ok (.istore 7, 2) := by decide +kernel
theorem dL_step_31 : decode cL_step 31 = .ok (.iload_n 3, 1) := by decide +kernel
theorem dL_step_32 : decode cL_step 32 = .ok (.iconst 4, 1) := by decide +kernel
theorem dL_step_33 : decode cL_step 33 = .ok (.irem, 1) := by decide +kernel
theorem dL_step_34 : decode cL_step 34 = .ok (.istore 8, 2) := by decide +kernel
theorem dL_step_36 : decode cL_step 36 = .ok (.iload_n 2, 1) := by decide +kernel
theorem dL_step_37 : decode cL_step 37 = .ok (.bipush 13, 2) := by decide +kernel
theorem dL_step_39 : decode cL_step 39 = .ok (.irem, 1) := by decide +kernel
theorem dL_step_40 : decode cL_step 40 = .ok (.tableswitch 418 0 11 #[64, 64, 64, 74, 229, 229, 229, 268, 268, 292, 327, 365], 64) := by decide +kernel
theorem dL_step_104 : decode cL_step 104 = .ok (.aload_n 0, 1) := by decide +kernel
theorem dL_step_105 : decode cL_step 105 = .ok (.aload_n 1, 1) := by decide +kernel
theorem dL_step_106 : decode cL_step 106 = .ok (.iload 5, 2) := by decide +kernel
theorem dL_step_108 : decode cL_step 108 = .ok (.iload 6, 2) := by decide +kernel
theorem dL_step_110 : decode cL_step 110 = .ok (.invokestatic 10, 3) := by decide +kernel
theorem dL_step_113 : decode cL_step 113 = .ok (.ireturn, 1) := by decide +kernel
theorem dL_step_114 : decode cL_step 114 = .ok (.aload_n 1, 1) := by decide +kernel
theorem dL_step_115 : decode cL_step 115 = .ok (.iconst 2, 1) := by decide +kernel
theorem dL_step_116 : decode cL_step 116 = .ok (.iload 5, 2) := by decide +kernel
theorem dL_step_118 : decode cL_step 118 = .ok (.iadd, 1) := by decide +kernel
theorem dL_step_119 : decode cL_step 119 = .ok (.iaload, 1) := by decide +kernel
theorem dL_step_120 : decode cL_step 120 = .ok (.iload 6, 2) := by decide +kernel
theorem dL_step_122 : decode cL_step 122 = .ok (.ishr, 1) := by decide +kernel
theorem dL_step_123 : decode cL_step 123 = .ok (.iconst 1, 1) := by decide +kernel
theorem dL_step_124 : decode cL_step 124 = .ok (.iand, 1) := by decide +kernel
theorem dL_step_125 : decode cL_step 125 = .ok (.ifCond .ne 34, 3) := by decide +kernel
theorem dL_step_128 : decode cL_step 128 = .ok (.aload_n 0, 1) := by decide +kernel
theorem dL_step_129 : decode cL_step 129 = .ok (.iload 5, 2) := by decide +kernel
theorem dL_step_131 : decode cL_step 131 = .ok (.invokevirtual 16, 3) := by decide +kernel
theorem dL_step_134 : decode cL_step 134 = .ok (.iload 6, 2) := by decide +kernel
theorem dL_step_136 : decode cL_step 136 = .ok (.ishr, 1) := by decide +kernel
theorem dL_step_137 : decode cL_step 137 = .ok (.iconst 1, 1) := by decide +kernel
theorem dL_step_138 : decode cL_step 138 = .ok (.iand, 1) := by decide +kernel
theorem dL_step_139 : decode cL_step 139 = .ok (.aload_n 0, 1) := by decide +kernel
theorem dL_step_140 : decode cL_step 140 = .ok (.iload 6, 2) := by decide +kernel
theorem dL_step_142 : decode cL_step 142 = .ok (.invokevirtual 16, 3) := by decide +kernel
theorem dL_step_145 : decode cL_step 145 = .ok (.iload 5, 2) := by decide +kernel
theorem dL_step_147 : decode cL_step 147 = .ok (.ishr, 1) := by decide +kernel
theorem dL_step_148 : decode cL_step 148 = .ok (.iconst 1, 1) := by decide +kernel
theorem dL_step_149 : decode cL_step 149 = .ok (.iand, 1) := by decide +kernel
theorem dL_step_150 : decode cL_step 150 = .ok (.if_icmp .ne 7, 3) := by decide +kernel
theorem dL_step_153 : decode cL_step 153 = .ok (.iconst 1, 1) := by decide +kernel
theorem dL_step_154 : decode cL_step 154 = .ok (.goto 4, 3) := by decide +kernel
theorem dL_step_157 : decode cL_step 157 = .ok (.iconst 0, 1) := by decide +kernel
theorem dL_step_158 : decode cL_step 158 = .ok (.ireturn, 1) := by decide +kernel
theorem dL_step_159 : decode cL_step 159 = .ok (.aload_n 0, 1) := by decide +kernel
theorem dL_step_160 : decode cL_step 160 = .ok (.invokevirtual 22, 3) := by decide +kernel
theorem dL_step_163 : decode cL_step 163 = .ok (.istore 9, 2) := by decide +kernel
theorem dL_step_165 : decode cL_step 165 = .ok (.aload_n 1, 1) := by decide +kernel
theorem dL_step_166 : decode cL_step 166 = .ok (.iconst 0, 1) := by decide +kernel
theorem dL_step_167 : decode cL_step 167 = .ok (.dup2, 1) := by decide +kernel
theorem dL_step_168 : decode cL_step 168 = .ok (.iaload, 1) := by decide +kernel
theorem dL_step_169 : decode cL_step 169 = .ok (.iconst 1, 1) := by decide +kernel
theorem dL_step_170 : decode cL_step 170 = .ok (.iadd, 1) := by decide +kernel
theorem dL_step_171 : decode cL_step 171 = .ok (.iastore, 1) := by decide +kernel
theorem dL_step_172 : decode cL_step 172 = .ok (.aload_n 1, 1) := by decide +kernel
theorem dL_step_173 : decode cL_step 173 = .ok (.iconst 2, 1) := by decide +kernel
theorem dL_step_174 : decode cL_step 174 = .ok (.iload 5, 2) := by decide +kernel
theorem dL_step_176 : decode cL_step 176 = .ok (.iadd, 1) := by decide +kernel
theorem dL_step_177 : decode cL_step 177 = .ok (.dup2, 1) := by decide +kernel
theorem dL_step_178 : decode cL_step 178 = .ok (.iaload, 1) := by decide +kernel
theorem dL_step_179 : decode cL_step 179 = .ok (.iconst 1, 1) := by decide +kernel
theorem dL_step_180 : decode cL_step 180 = .ok (.iload 6, 2) := by decide +kernel
theorem dL_step_182 : decode cL_step 182 = .ok (.ishl, 1) := by decide +kernel
theorem dL_step_183 : decode cL_step 183 = .ok (.iconst (-1), 1) := by decide +kernel
theorem dL_step_184 : decode cL_step 184 = .ok (.ixor, 1) := by decide +kernel
theorem dL_step_185 : decode cL_step 185 = .ok (.iand, 1) := by decide +kernel
theorem dL_step_186 : decode cL_step 186 = .ok (.iastore, 1) := by decide +kernel
theorem dL_step_187 : decode cL_step 187 = .ok (.aload_n 1, 1) := by decide +kernel
theorem dL_step_188 : decode cL_step 188 = .ok (.iconst 2, 1) := by decide +kernel
theorem dL_step_189 : decode cL_step 189 = .ok (.iload 6, 2) := by decide +kernel
theorem dL_step_191 : decode cL_step 191 = .ok (.iadd, 1) := by decide +kernel
theorem dL_step_192 : decode cL_step 192 = .ok (.dup2, 1) := by decide +kernel
theorem dL_step_193 : decode cL_step 193 = .ok (.iaload, 1) := by decide +kernel
theorem dL_step_194 : decode cL_step 194 = .ok (.iconst 1, 1) := by decide +kernel
theorem dL_step_195 : decode cL_step 195 = .ok (.iload 5, 2) := by decide +kernel
theorem dL_step_197 : decode cL_step 197 = .ok (.ishl, 1) := by decide +kernel
theorem dL_step_198 : decode cL_step 198 = .ok (.iconst (-1), 1) := by decide +kernel
theorem dL_step_199 : decode cL_step 199 = .ok (.ixor, 1) := by decide +kernel
theorem dL_step_200 : decode cL_step 200 = .ok (.iand, 1) := by decide +kernel
theorem dL_step_201 : decode cL_step 201 = .ok (.iastore, 1) := by decide +kernel
theorem dL_step_202 : decode cL_step 202 = .ok (.aload_n 0, 1) := by decide +kernel
theorem dL_step_203 : decode cL_step 203 = .ok (.iload 5, 2) := by decide +kernel
theorem dL_step_205 : decode cL_step 205 = .ok (.iload 6, 2) := by decide +kernel
theorem dL_step_207 : decode cL_step 207 = .ok (.invokevirtual 26, 3) := by decide +kernel
theorem dL_step_210 : decode cL_step 210 = .ok (.istore 10, 2) := by decide +kernel
theorem dL_step_212 : decode cL_step 212 = .ok (.iload 10, 2) := by decide +kernel
theorem dL_step_214 : decode cL_step 214 = .ok (.ifCond .lt 53, 3) := by decide +kernel
theorem dL_step_217 : decode cL_step 217 = .ok (.aload_n 0, 1) := by decide +kernel
theorem dL_step_218 : decode cL_step 218 = .ok (.invokevirtual 22, 3) := by decide +kernel
theorem dL_step_221 : decode cL_step 221 = .ok (.iload 9, 2) := by decide +kernel
theorem dL_step_223 : decode cL_step 223 = .ok (.iload 10, 2) := by decide +kernel
theorem dL_step_225 : decode cL_step 225 = .ok (.isub, 1) := by decide +kernel
theorem dL_step_226 : decode cL_step 226 = .ok (.if_icmp .ne 41, 3) := by decide +kernel
theorem dL_step_229 : decode cL_step 229 = .ok (.aload_n 0, 1) := by decide +kernel
theorem dL_step_230 : decode cL_step 230 = .ok (.iload 5, 2) := by decide +kernel
theorem dL_step_232 : decode cL_step 232 = .ok (.invokevirtual 16, 3) := by decide +kernel
theorem dL_step_235 : decode cL_step 235 = .ok (.iload 6, 2) := by decide +kernel
theorem dL_step_237 : decode cL_step 237 = .ok (.ishr, 1) := by decide +kernel
theorem dL_step_238 : decode cL_step 238 = .ok (.iconst 1, 1) := by decide +kernel
theorem dL_step_239 : decode cL_step 239 = .ok (.iand, 1) := by decide +kernel
theorem dL_step_240 : decode cL_step 240 = .ok (.ifCond .ne 27, 3) := by decide +kernel
theorem dL_step_243 : decode cL_step 243 = .ok (.aload_n 0, 1) := by decide +kernel
theorem dL_step_244 : decode cL_step 244 = .ok (.iload 5, 2) := by decide +kernel
theorem dL_step_246 : decode cL_step 246 = .ok (.invokevirtual 30, 3) := by decide +kernel
theorem dL_step_249 : decode cL_step 249 = .ok (.aload_n 1, 1) := by decide +kernel
theorem dL_step_250 : decode cL_step 250 = .ok (.aload_n 0, 1) := by decide +kernel
theorem dL_step_251 : decode cL_step 251 = .ok (.iload 6, 2) := by decide +kernel
theorem dL_step_253 : decode cL_step 253 = .ok (.invokevirtual 16, 3) := by decide +kernel
theorem dL_step_256 : decode cL_step 256 = .ok (.invokestatic 33, 3) := by decide +kernel
theorem dL_step_259 : decode cL_step 259 = .ok (.iand, 1) := by decide +kernel
theorem dL_step_260 : decode cL_step 260 = .ok (.ifCond .ne 7, 3) := by decide +kernel
theorem dL_step_263 : decode cL_step 263 = .ok (.iconst 1, 1) := by decide +kernel
theorem dL_step_264 : decode cL_step 264 = .ok (.goto 4, 3) := by decide +kernel
theorem dL_step_267 : decode cL_step 267 = .ok (.iconst 0, 1) := by decide +kernel
theorem dL_step_268 : decode cL_step 268 = .ok (.ireturn, 1) := by decide +kernel
theorem dL_step_269 : decode cL_step 269 = .ok (.aload_n 0, 1) := by decide +kernel
theorem dL_step_270 : decode cL_step 270 = .ok (.aload_n 1, 1) := by decide +kernel
theorem dL_step_271 : decode cL_step 271 = .ok (.iload 5, 2) := by decide +kernel
theorem dL_step_273 : decode cL_step 273 = .ok (.iload_n 3, 1) := by decide +kernel
theorem dL_step_274 : decode cL_step 274 = .ok (.bipush 6, 2) := by decide +kernel
theorem dL_step_276 : decode cL_step 276 = .ok (.idiv, 1) := by decide +kernel
theorem dL_step_277 : decode cL_step 277 = .ok (.iload 4, 2) := by decide +kernel
theorem dL_step_279 : decode cL_step 279 = .ok (.iconst 3, 1) := by decide +kernel
theorem dL_step_280 : decode cL_step 280 = .ok (.irem, 1) := by decide +kernel
theorem dL_step_281 : decode cL_step 281 = .ok (.ifCond .ne 8, 3) := by decide +kernel
theorem dL_step_284 : decode cL_step 284 = .ok (.bipush 26, 2) := by decide +kernel
theorem dL_step_286 : decode cL_step 286 = .ok (.goto 5, 3) := by decide +kernel
theorem dL_step_289 : decode cL_step 289 = .ok (.bipush 6, 2) := by decide +kernel
theorem dL_step_291 : decode cL_step 291 = .ok (.irem, 1) := by decide +kernel
theorem dL_step_292 : decode cL_step 292 = .ok (.iload 4, 2) := by decide +kernel
theorem dL_step_294 : decode cL_step 294 = .ok (.iconst 2, 1) := by decide +kernel
theorem dL_step_295 : decode cL_step 295 = .ok (.irem, 1) := by decide +kernel
theorem dL_step_296 : decode cL_step 296 = .ok (.ifCond .ne 7, 3) := by decide +kernel
theorem dL_step_299 : decode cL_step 299 = .ok (.iconst 1, 1) := by decide +kernel
theorem dL_step_300 : decode cL_step 300 = .ok (.goto 4, 3) := by decide +kernel
theorem dL_step_303 : decode cL_step 303 = .ok (.iconst 0, 1) := by decide +kernel
theorem dL_step_304 : decode cL_step 304 = .ok (.invokestatic 37, 3) := by decide +kernel
theorem dL_step_307 : decode cL_step 307 = .ok (.ireturn, 1) := by decide +kernel
theorem dL_step_308 : decode cL_step 308 = .ok (.aload_n 1, 1) := by decide +kernel
theorem dL_step_309 : decode cL_step 309 = .ok (.iconst 1, 1) := by decide +kernel
theorem dL_step_310 : decode cL_step 310 = .ok (.iaload, 1) := by decide +kernel
theorem dL_step_311 : decode cL_step 311 = .ok (.ifCond .eq 15, 3) := by decide +kernel
theorem dL_step_314 : decode cL_step 314 = .ok (.aload_n 0, 1) := by decide +kernel
theorem dL_step_315 : decode cL_step 315 = .ok (.aload_n 1, 1) := by decide +kernel
theorem dL_step_316 : decode cL_step 316 = .ok (.iload 7, 2) := by decide +kernel
theorem dL_step_318 : decode cL_step 318 = .ok (.iload 8, 2) := by decide +kernel
theorem dL_step_320 : decode cL_step 320 = .ok (.invokestatic 41, 3) := by decide +kernel
theorem dL_step_323 : decode cL_step 323 = .ok (.ifCond .eq 7, 3) := by decide +kernel
theorem dL_step_326 : decode cL_step 326 = .ok (.iconst 1, 1) := by decide +kernel
theorem dL_step_327 : decode cL_step 327 = .ok (.goto 4, 3) := by decide +kernel
theorem dL_step_330 : decode cL_step 330 = .ok (.iconst 0, 1) := by decide +kernel
theorem dL_step_331 : decode cL_step 331 = .ok (.ireturn, 1) := by decide +kernel
theorem dL_step_332 : decode cL_step 332 = .ok (.aload_n 1, 1) := by decide +kernel
theorem dL_step_333 : decode cL_step 333 = .ok (.iconst 1, 1) := by decide +kernel
theorem dL_step_334 : decode cL_step 334 = .ok (.iaload, 1) := by decide +kernel
theorem dL_step_335 : decode cL_step 335 = .ok (.ifCond .eq 26, 3) := by decide +kernel
theorem dL_step_338 : decode cL_step 338 = .ok (.aload_n 0, 1) := by decide +kernel
theorem dL_step_339 : decode cL_step 339 = .ok (.aload_n 1, 1) := by decide +kernel
theorem dL_step_340 : decode cL_step 340 = .ok (.iload 7, 2) := by decide +kernel
theorem dL_step_342 : decode cL_step 342 = .ok (.iload 8, 2) := by decide +kernel
theorem dL_step_344 : decode cL_step 344 = .ok (.iload_n 3, 1) := by decide +kernel
theorem dL_step_345 : decode cL_step 345 = .ok (.iconst 3, 1) := by decide +kernel
theorem dL_step_346 : decode cL_step 346 = .ok (.irem, 1) := by decide +kernel
theorem dL_step_347 : decode cL_step 347 = .ok (.ifCond .ne 7, 3) := by decide +kernel
theorem dL_step_350 : decode cL_step 350 = .ok (.iconst 1, 1) := by decide +kernel
theorem dL_step_351 : decode cL_step 351 = .ok (.goto 4, 3) := by decide +kernel
theorem dL_step_354 : decode cL_step 354 = .ok (.iconst 0, 1) := by decide +kernel
theorem dL_step_355 : decode cL_step 355 = .ok (.invokestatic 44, 3) := by decide +kernel
theorem dL_step_358 : decode cL_step 358 = .ok (.ifCond .eq 7, 3) := by decide +kernel
theorem dL_step_361 : decode cL_step 361 = .ok (.iconst 1, 1) := by decide +kernel
theorem dL_step_362 : decode cL_step 362 = .ok (.goto 4, 3) := by decide +kernel
theorem dL_step_365 : decode cL_step 365 = .ok (.iconst 0, 1) := by decide +kernel
theorem dL_step_366 : decode cL_step 366 = .ok (.ireturn, 1) := by decide +kernel
theorem dL_step_367 : decode cL_step 367 = .ok (.aload_n 1, 1) := by decide +kernel
theorem dL_step_368 : decode cL_step 368 = .ok (.iconst 1, 1) := by decide +kernel
theorem dL_step_369 : decode cL_step 369 = .ok (.iaload, 1) := by decide +kernel
theorem dL_step_370 : decode cL_step 370 = .ok (.ifCond .eq 29, 3) := by decide +kernel
theorem dL_step_373 : decode cL_step 373 = .ok (.aload_n 0, 1) := by decide +kernel
theorem dL_step_374 : decode cL_step 374 = .ok (.aload_n 1, 1) := by decide +kernel
theorem dL_step_375 : decode cL_step 375 = .ok (.iload 7, 2) := by decide +kernel
theorem dL_step_377 : decode cL_step 377 = .ok (.iload 8, 2) := by decide +kernel
theorem dL_step_379 : decode cL_step 379 = .ok (.iload_n 3, 1) := by decide +kernel
theorem dL_step_380 : decode cL_step 380 = .ok (.iconst 4, 1) := by decide +kernel
theorem dL_step_381 : decode cL_step 381 = .ok (.idiv, 1) := by decide +kernel
theorem dL_step_382 : decode cL_step 382 = .ok (.bipush 16, 2) := by decide +kernel
theorem dL_step_384 : decode cL_step 384 = .ok (.irem, 1) := by decide +kernel
theorem dL_step_385 : decode cL_step 385 = .ok (.iload 4, 2) := by decide +kernel
theorem dL_step_387 : decode cL_step 387 = .ok (.bipush 20, 2) := by decide +kernel
theorem dL_step_389 : decode cL_step 389 = .ok (.idiv, 1) := by decide +kernel
theorem dL_step_390 : decode cL_step 390 = .ok (.bipush 64, 2) := by decide +kernel
theorem dL_step_392 : decode cL_step 392 = .ok (.irem, 1) := by decide +kernel
theorem dL_step_393 : decode cL_step 393 = .ok (.invokestatic 47, 3) := by decide +kernel
theorem dL_step_396 : decode cL_step 396 = .ok (.ifCond .eq 7, 3) := by decide +kernel
theorem dL_step_399 : decode cL_step 399 = .ok (.iconst 1, 1) := by decide +kernel
theorem dL_step_400 : decode cL_step 400 = .ok (.goto 4, 3) := by decide +kernel
theorem dL_step_403 : decode cL_step 403 = .ok (.iconst 0, 1) := by decide +kernel
theorem dL_step_404 : decode cL_step 404 = .ok (.ireturn, 1) := by decide +kernel
theorem dL_step_405 : decode cL_step 405 = .ok (.aload_n 1, 1) := by decide +kernel
theorem dL_step_406 : decode cL_step 406 = .ok (.iconst 0, 1) := by decide +kernel
theorem dL_step_407 : decode cL_step 407 = .ok (.dup2, 1) := by decide +kernel
theorem dL_step_408 : decode cL_step 408 = .ok (.iaload, 1) := by decide +kernel
theorem dL_step_409 : decode cL_step 409 = .ok (.iconst 1, 1) := by decide +kernel
theorem dL_step_410 : decode cL_step 410 = .ok (.iadd, 1) := by decide +kernel
theorem dL_step_411 : decode cL_step 411 = .ok (.iastore, 1) := by decide +kernel
theorem dL_step_412 : decode cL_step 412 = .ok (.aload_n 0, 1) := by decide +kernel
theorem dL_step_413 : decode cL_step 413 = .ok (.invokevirtual 22, 3) := by decide +kernel
theorem dL_step_416 : decode cL_step 416 = .ok (.istore 11, 2) := by decide +kernel
theorem dL_step_418 : decode cL_step 418 = .ok (.aload_n 0, 1) := by decide +kernel
theorem dL_step_419 : decode cL_step 419 = .ok (.invokevirtual 51, 3) := by decide +kernel
theorem dL_step_422 : decode cL_step 422 = .ok (.iload 11, 2) := by decide +kernel
theorem dL_step_424 : decode cL_step 424 = .ok (.if_icmp .lt 32, 3) := by decide +kernel
theorem dL_step_427 : decode cL_step 427 = .ok (.aload_n 0, 1) := by decide +kernel
theorem dL_step_428 : decode cL_step 428 = .ok (.invokevirtual 22, 3) := by decide +kernel
theorem dL_step_431 : decode cL_step 431 = .ok (.ifCond .ne 25, 3) := by decide +kernel
theorem dL_step_434 : decode cL_step 434 = .ok (.aload_n 0, 1) := by decide +kernel
theorem dL_step_435 : decode cL_step 435 = .ok (.invokevirtual 54, 3) := by decide +kernel
theorem dL_step_438 : decode cL_step 438 = .ok (.aload_n 1, 1) := by decide +kernel
theorem dL_step_439 : decode cL_step 439 = .ok (.iconst 0, 1) := by decide +kernel
theorem dL_step_440 : decode cL_step 440 = .ok (.iaload, 1) := by decide +kernel
theorem dL_step_441 : decode cL_step 441 = .ok (.if_icmp .ne 15, 3) := by decide +kernel
theorem dL_step_444 : decode cL_step 444 = .ok (.aload_n 0, 1) := by decide +kernel
theorem dL_step_445 : decode cL_step 445 = .ok (.aload_n 1, 1) := by decide +kernel
theorem dL_step_446 : decode cL_step 446 = .ok (.invokestatic 57, 3) := by decide +kernel
theorem dL_step_449 : decode cL_step 449 = .ok (.ifCond .eq 7, 3) := by decide +kernel
theorem dL_step_452 : decode cL_step 452 = .ok (.iconst 1, 1) := by decide +kernel
theorem dL_step_453 : decode cL_step 453 = .ok (.goto 4, 3) := by decide +kernel
theorem dL_step_456 : decode cL_step 456 = .ok (.iconst 0, 1) := by decide +kernel
theorem dL_step_457 : decode cL_step 457 = .ok (.ireturn, 1) := by decide +kernel
theorem dL_step_458 : decode cL_step 458 = .ok (.aload_n 0, 1) := by decide +kernel
theorem dL_step_459 : decode cL_step 459 = .ok (.invokevirtual 22, 3) := by decide +kernel
theorem dL_step_462 : decode cL_step 462 = .ok (.ifCond .lt 26, 3) := by decide +kernel
theorem dL_step_465 : decode cL_step 465 = .ok (.aload_n 0, 1) := by decide +kernel
theorem dL_step_466 : decode cL_step 466 = .ok (.iload 5, 2) := by decide +kernel
theorem dL_step_468 : decode cL_step 468 = .ok (.iload 6, 2) := by decide +kernel
theorem dL_step_470 : decode cL_step 470 = .ok (.invokevirtual 61, 3) := by decide +kernel
theorem dL_step_473 : decode cL_step 473 = .ok (.aload_n 0, 1) := by decide +kernel
theorem dL_step_474 : decode cL_step 474 = .ok (.iload 6, 2) := by decide +kernel
theorem dL_step_476 : decode cL_step 476 = .ok (.iload 5, 2) := by decide +kernel
theorem dL_step_478 : decode cL_step 478 = .ok (.invokevirtual 61, 3) := by decide +kernel
theorem dL_step_481 : decode cL_step 481 = .ok (.if_icmp .ne 7, 3) := by decide +kernel
theorem dL_step_484 : decode cL_step 484 = .ok (.iconst 1, 1) := by decide +kernel
theorem dL_step_485 : decode cL_step 485 = .ok (.goto 4, 3) := by decide +kernel
theorem dL_step_488 : decode cL_step 488 = .ok (.iconst 0, 1) := by decide +kernel
theorem dL_step_489 : decode cL_step 489 = .ok (.ireturn, 1) := by decide +kernel
theorem dL_homesIn_0 : decode cL_homesIn 0 = .ok (.iconst 0, 1) := by decide +kernel
theorem dL_homesIn_1 : decode cL_homesIn 1 = .ok (.istore_n 2, 1) := by decide +kernel
theorem dL_homesIn_2 : decode cL_homesIn 2 = .ok (.iconst 0, 1) := by decide +kernel
theorem dL_homesIn_3 : decode cL_homesIn 3 = .ok (.istore_n 3, 1) := by decide +kernel
theorem dL_homesIn_4 : decode cL_homesIn 4 = .ok (.iload_n 3, 1) := by decide +kernel
theorem dL_homesIn_5 : decode cL_homesIn 5 = .ok (.aload_n 0, 1) := by decide +kernel
theorem dL_homesIn_6 : decode cL_homesIn 6 = .ok (.iconst 1, 1) := by decide +kernel
theorem dL_homesIn_7 : decode cL_homesIn 7 = .ok (.iaload, 1) := by decide +kernel
theorem dL_homesIn_8 : decode cL_homesIn 8 = .ok (.if_icmp .ge 24, 3) := by decide +kernel
theorem dL_homesIn_11 : decode cL_homesIn 11 = .ok (.iload_n 2, 1) := by decide +kernel
theorem dL_homesIn_12 : decode cL_homesIn 12 = .ok (.iload_n 1, 1) := by decide +kernel
theorem dL_homesIn_13 : decode cL_homesIn 13 = .ok (.aload_n 0, 1) := by decide +kernel
theorem dL_homesIn_14 : decode cL_homesIn 14 = .ok (.bipush 28, 2) := by decide +kernel
theorem dL_homesIn_16 : decode cL_homesIn 16 = .ok (.iload_n 3, 1) := by decide +kernel
theorem dL_homesIn_17 : decode cL_homesIn 17 = .ok (.iadd, 1) := by decide +kernel
theorem dL_homesIn_18 : decode cL_homesIn 18 = .ok (.iaload, 1) := by decide +kernel
theorem dL_homesIn_19 : decode cL_homesIn 19 = .ok (.ishr, 1) := by decide +kernel
theorem dL_homesIn_20 : decode cL_homesIn 20 = .ok (.iconst 1, 1) := by decide +kernel
theorem dL_homesIn_21 : decode cL_homesIn 21 = .ok (.iand, 1) := by decide +kernel
theorem dL_homesIn_22 : decode cL_homesIn 22 = .ok (.iload_n 3, 1) := by decide +kernel
theorem dL_homesIn_23 : decode cL_homesIn 23 = .ok (.ishl, 1) := by decide +kernel
theorem dL_homesIn_24 : decode cL_homesIn 24 = .ok (.ior, 1) := by decide +kernel
theorem dL_homesIn_25 : decode cL_homesIn 25 = .ok (.istore_n 2, 1) := by decide +kernel
theorem dL_homesIn_26 : decode cL_homesIn 26 = .ok (.iinc 3 1, 3) := by decide +kernel
theorem dL_homesIn_29 : decode cL_homesIn 29 = .ok (.goto (-25), 3) := by decide +kernel
theorem dL_homesIn_32 : decode cL_homesIn 32 = .ok (.iload_n 2, 1) := by decide +kernel
theorem dL_homesIn_33 : decode cL_homesIn 33 = .ok (.ireturn, 1) := by decide +kernel
theorem dL_links_0 : decode cL_links 0 = .ok (.aload_n 0, 1) := by decide +kernel
theorem dL_links_1 : decode cL_links 1 = .ok (.iload_n 2, 1) := by decide +kernel
theorem dL_links_2 : decode cL_links 2 = .ok (.invokevirtual 16, 3) := by decide +kernel
theorem dL_links_5 : decode cL_links 5 = .ok (.iload_n 3, 1) := by decide +kernel
theorem dL_links_6 : decode cL_links 6 = .ok (.ishr, 1) := by decide +kernel
theorem dL_links_7 : decode cL_links 7 = .ok (.iconst 1, 1) := by decide +kernel
theorem dL_links_8 : decode cL_links 8 = .ok (.iand, 1) := by decide +kernel
theorem dL_links_9 : decode cL_links 9 = .ok (.iconst 1, 1) := by decide +kernel
theorem dL_links_10 : decode cL_links 10 = .ok (.if_icmp .ne 22, 3) := by decide +kernel
theorem dL_links_13 : decode cL_links 13 = .ok (.aload_n 0, 1) := by decide +kernel
theorem dL_links_14 : decode cL_links 14 = .ok (.iload_n 2, 1) := by decide +kernel
theorem dL_links_15 : decode cL_links 15 = .ok (.invokevirtual 16, 3) := by decide +kernel
theorem dL_links_18 : decode cL_links 18 = .ok (.aload_n 0, 1) := by decide +kernel
theorem dL_links_19 : decode cL_links 19 = .ok (.iload_n 3, 1) := by decide +kernel
theorem dL_links_20 : decode cL_links 20 = .ok (.invokevirtual 16, 3) := by decide +kernel
theorem dL_links_23 : decode cL_links 23 = .ok (.if_icmp .ne 7, 3) := by decide +kernel
theorem dL_links_26 : decode cL_links 26 = .ok (.iconst 1, 1) := by decide +kernel
theorem dL_links_27 : decode cL_links 27 = .ok (.goto 4, 3) := by decide +kernel
theorem dL_links_30 : decode cL_links 30 = .ok (.iconst 0, 1) := by decide +kernel
theorem dL_links_31 : decode cL_links 31 = .ok (.ireturn, 1) := by decide +kernel
theorem dL_links_32 : decode cL_links 32 = .ok (.aload_n 0, 1) := by decide +kernel
theorem dL_links_33 : decode cL_links 33 = .ok (.iload_n 2, 1) := by decide +kernel
theorem dL_links_34 : decode cL_links 34 = .ok (.invokevirtual 30, 3) := by decide +kernel
theorem dL_links_37 : decode cL_links 37 = .ok (.invokestatic 65, 3) := by decide +kernel
theorem dL_links_40 : decode cL_links 40 = .ok (.aload_n 0, 1) := by decide +kernel
theorem dL_links_41 : decode cL_links 41 = .ok (.iload_n 3, 1) := by decide +kernel
theorem dL_links_42 : decode cL_links 42 = .ok (.invokevirtual 30, 3) := by decide +kernel
theorem dL_links_45 : decode cL_links 45 = .ok (.invokestatic 65, 3) := by decide +kernel
theorem dL_links_48 : decode cL_links 48 = .ok (.iadd, 1) := by decide +kernel
theorem dL_links_49 : decode cL_links 49 = .ok (.istore 4, 2) := by decide +kernel
theorem dL_links_51 : decode cL_links 51 = .ok (.aload_n 0, 1) := by decide +kernel
theorem dL_links_52 : decode cL_links 52 = .ok (.invokevirtual 22, 3) := by decide +kernel
theorem dL_links_55 : decode cL_links 55 = .ok (.istore 5, 2) := by decide +kernel
theorem dL_links_57 : decode cL_links 57 = .ok (.iconst 0, 1) := by decide +kernel
theorem dL_links_58 : decode cL_links 58 = .ok (.istore 6, 2) := by decide +kernel
theorem dL_links_60 : decode cL_links 60 = .ok (.iload 6, 2) := by decide +kernel
theorem dL_links_62 : decode cL_links 62 = .ok (.iconst 4, 1) := by decide +kernel
theorem dL_links_63 : decode cL_links 63 = .ok (.if_icmp .ge 47, 3) := by decide +kernel
theorem dL_links_66 : decode cL_links 66 = .ok (.iload 4, 2) := by decide +kernel
theorem dL_links_68 : decode cL_links 68 = .ok (.aload_n 0, 1) := by decide +kernel
theorem dL_links_69 : decode cL_links 69 = .ok (.iload_n 2, 1) := by decide +kernel
theorem dL_links_70 : decode cL_links 70 = .ok (.iload 6, 2) := by decide +kernel
theorem dL_links_72 : decode cL_links 72 = .ok (.invokevirtual 68, 3) := by decide +kernel
theorem dL_links_75 : decode cL_links 75 = .ok (.iconst (-1), 1) := by decide +kernel
theorem dL_links_76 : decode cL_links 76 = .ok (.if_icmp .ne 7, 3) := by decide +kernel
theorem dL_links_79 : decode cL_links 79 = .ok (.iconst 0, 1) := by decide +kernel
theorem dL_links_80 : decode cL_links 80 = .ok (.goto 4, 3) := by decide +kernel
theorem dL_links_83 : decode cL_links 83 = .ok (.iconst 1, 1) := by decide +kernel
theorem dL_links_84 : decode cL_links 84 = .ok (.aload_n 0, 1) := by decide +kernel
theorem dL_links_85 : decode cL_links 85 = .ok (.iload_n 3, 1) := by decide +kernel
theorem dL_links_86 : decode cL_links 86 = .ok (.iload 6, 2) := by decide +kernel
theorem dL_links_88 : decode cL_links 88 = .ok (.invokevirtual 68, 3) := by decide +kernel
theorem dL_links_91 : decode cL_links 91 = .ok (.iconst (-1), 1) := by decide +kernel
theorem dL_links_92 : decode cL_links 92 = .ok (.if_icmp .ne 7, 3) := by decide +kernel
theorem dL_links_95 : decode cL_links 95 = .ok (.iconst 0, 1) := by decide +kernel
theorem dL_links_96 : decode cL_links 96 = .ok (.goto 4, 3) := by decide +kernel
theorem dL_links_99 : decode cL_links 99 = .ok (.iconst 1, 1) := by decide +kernel
theorem dL_links_100 : decode cL_links 100 = .ok (.iadd, 1) := by decide +kernel
theorem dL_links_101 : decode cL_links 101 = .ok (.iadd, 1) := by decide +kernel
theorem dL_links_102 : decode cL_links 102 = .ok (.istore 4, 2) := by decide +kernel
theorem dL_links_104 : decode cL_links 104 = .ok (.iinc 6 1, 3) := by decide +kernel
theorem dL_links_107 : decode cL_links 107 = .ok (.goto (-47), 3) := by decide +kernel
theorem dL_links_110 : decode cL_links 110 = .ok (.aload_n 0, 1) := by decide +kernel
theorem dL_links_111 : decode cL_links 111 = .ok (.iload_n 2, 1) := by decide +kernel
theorem dL_links_112 : decode cL_links 112 = .ok (.invokevirtual 16, 3) := by decide +kernel
theorem dL_links_115 : decode cL_links 115 = .ok (.aload_n 0, 1) := by decide +kernel
theorem dL_links_116 : decode cL_links 116 = .ok (.iload_n 3, 1) := by decide +kernel
theorem dL_links_117 : decode cL_links 117 = .ok (.invokevirtual 16, 3) := by decide +kernel
theorem dL_links_120 : decode cL_links 120 = .ok (.ior, 1) := by decide +kernel
theorem dL_links_121 : decode cL_links 121 = .ok (.istore 6, 2) := by decide +kernel
theorem dL_links_123 : decode cL_links 123 = .ok (.aload_n 1, 1) := by decide +kernel
theorem dL_links_124 : decode cL_links 124 = .ok (.iconst 0, 1) := by decide +kernel
theorem dL_links_125 : decode cL_links 125 = .ok (.dup2, 1) := by decide +kernel
theorem dL_links_126 : decode cL_links 126 = .ok (.iaload, 1) := by decide +kernel
theorem dL_links_127 : decode cL_links 127 = .ok (.iconst 1, 1) := by decide +kernel
theorem dL_links_128 : decode cL_links 128 = .ok (.iadd, 1) := by decide +kernel
theorem dL_links_129 : decode cL_links 129 = .ok (.iastore, 1) := by decide +kernel
theorem dL_links_130 : decode cL_links 130 = .ok (.aload_n 1, 1) := by decide +kernel
theorem dL_links_131 : decode cL_links 131 = .ok (.iconst 2, 1) := by decide +kernel
theorem dL_links_132 : decode cL_links 132 = .ok (.iload_n 2, 1) := by decide +kernel
theorem dL_links_133 : decode cL_links 133 = .ok (.iadd, 1) := by decide +kernel
theorem dL_links_134 : decode cL_links 134 = .ok (.dup2, 1) := by decide +kernel
theorem dL_links_135 : decode cL_links 135 = .ok (.iaload, 1) := by decide +kernel
theorem dL_links_136 : decode cL_links 136 = .ok (.iconst 1, 1) := by decide +kernel
theorem dL_links_137 : decode cL_links 137 = .ok (.iload_n 3, 1) := by decide +kernel
theorem dL_links_138 : decode cL_links 138 = .ok (.ishl, 1) := by decide +kernel
theorem dL_links_139 : decode cL_links 139 = .ok (.ior, 1) := by decide +kernel
theorem dL_links_140 : decode cL_links 140 = .ok (.iastore, 1) := by decide +kernel
theorem dL_links_141 : decode cL_links 141 = .ok (.aload_n 1, 1) := by decide +kernel
theorem dL_links_142 : decode cL_links 142 = .ok (.iconst 2, 1) := by decide +kernel
theorem dL_links_143 : decode cL_links 143 = .ok (.iload_n 3, 1) := by decide +kernel
theorem dL_links_144 : decode cL_links 144 = .ok (.iadd, 1) := by decide +kernel
theorem dL_links_145 : decode cL_links 145 = .ok (.dup2, 1) := by decide +kernel
theorem dL_links_146 : decode cL_links 146 = .ok (.iaload, 1) := by decide +kernel
theorem dL_links_147 : decode cL_links 147 = .ok (.iconst 1, 1) := by decide +kernel
theorem dL_links_148 : decode cL_links 148 = .ok (.iload_n 2, 1) := by decide +kernel
theorem dL_links_149 : decode cL_links 149 = .ok (.ishl, 1) := by decide +kernel
theorem dL_links_150 : decode cL_links 150 = .ok (.ior, 1) := by decide +kernel
theorem dL_links_151 : decode cL_links 151 = .ok (.iastore, 1) := by decide +kernel
theorem dL_links_152 : decode cL_links 152 = .ok (.aload_n 0, 1) := by decide +kernel
theorem dL_links_153 : decode cL_links 153 = .ok (.iload_n 2, 1) := by decide +kernel
theorem dL_links_154 : decode cL_links 154 = .ok (.iload_n 3, 1) := by decide +kernel
theorem dL_links_155 : decode cL_links 155 = .ok (.invokevirtual 71, 3) := by decide +kernel
theorem dL_links_158 : decode cL_links 158 = .ok (.iload 4, 2) := by decide +kernel
theorem dL_links_160 : decode cL_links 160 = .ok (.if_icmp .ne 39, 3) := by decide +kernel
theorem dL_links_163 : decode cL_links 163 = .ok (.aload_n 0, 1) := by decide +kernel
theorem dL_links_164 : decode cL_links 164 = .ok (.invokevirtual 22, 3) := by decide +kernel
theorem dL_links_167 : decode cL_links 167 = .ok (.iload 5, 2) := by decide +kernel
theorem dL_links_169 : decode cL_links 169 = .ok (.iload 4, 2) := by decide +kernel
theorem dL_links_171 : decode cL_links 171 = .ok (.iadd, 1) := by decide +kernel
theorem dL_links_172 : decode cL_links 172 = .ok (.if_icmp .ne 27, 3) := by decide +kernel
theorem dL_links_175 : decode cL_links 175 = .ok (.aload_n 0, 1) := by decide +kernel
theorem dL_links_176 : decode cL_links 176 = .ok (.iload_n 2, 1) := by decide +kernel
theorem dL_links_177 : decode cL_links 177 = .ok (.invokevirtual 16, 3) := by decide +kernel
theorem dL_links_180 : decode cL_links 180 = .ok (.iload 6, 2) := by decide +kernel
theorem dL_links_182 : decode cL_links 182 = .ok (.if_icmp .ne 17, 3) := by decide +kernel
theorem dL_links_185 : decode cL_links 185 = .ok (.aload_n 0, 1) := by decide +kernel
theorem dL_links_186 : decode cL_links 186 = .ok (.iload_n 3, 1) := by decide +kernel
theorem dL_links_187 : decode cL_links 187 = .ok (.invokevirtual 16, 3) := by decide +kernel
theorem dL_links_190 : decode cL_links 190 = .ok (.iload 6, 2) := by decide +kernel
theorem dL_links_192 : decode cL_links 192 = .ok (.if_icmp .ne 7, 3) := by decide +kernel
theorem dL_links_195 : decode cL_links 195 = .ok (.iconst 1, 1) := by decide +kernel
theorem dL_links_196 : decode cL_links 196 = .ok (.goto 4, 3) := by decide +kernel
theorem dL_links_199 : decode cL_links 199 = .ok (.iconst 0, 1) := by decide +kernel
theorem dL_links_200 : decode cL_links 200 = .ok (.ireturn, 1) := by decide +kernel
theorem dL_count_0 : decode cL_count 0 = .ok (.iconst 0, 1) := by decide +kernel
theorem dL_count_1 : decode cL_count 1 = .ok (.istore_n 1, 1) := by decide +kernel
theorem dL_count_2 : decode cL_count 2 = .ok (.iconst 0, 1) := by decide +kernel
theorem dL_count_3 : decode cL_count 3 = .ok (.istore_n 2, 1) := by decide +kernel
theorem dL_count_4 : decode cL_count 4 = .ok (.iload_n 2, 1) := by decide +kernel
theorem dL_count_5 : decode cL_count 5 = .ok (.bipush 20, 2) := by decide +kernel
theorem dL_count_7 : decode cL_count 7 = .ok (.if_icmp .ge 17, 3) := by decide +kernel
theorem dL_count_10 : decode cL_count 10 = .ok (.iload_n 1, 1) := by decide +kernel
theorem dL_count_11 : decode cL_count 11 = .ok (.iload_n 0, 1) := by decide +kernel
theorem dL_count_12 : decode cL_count 12 = .ok (.iload_n 2, 1) := by decide +kernel
theorem dL_count_13 : decode cL_count 13 = .ok (.ishr, 1) := by decide +kernel
theorem dL_count_14 : decode cL_count 14 = .ok (.iconst 1, 1) := by decide +kernel
theorem dL_count_15 : decode cL_count 15 = .ok (.iand, 1) := by decide +kernel
theorem dL_count_16 : decode cL_count 16 = .ok (.iadd, 1) := by decide +kernel
theorem dL_count_17 : decode cL_count 17 = .ok (.istore_n 1, 1) := by decide +kernel
theorem dL_count_18 : decode cL_count 18 = .ok (.iinc 2 1, 3) := by decide +kernel
theorem dL_count_21 : decode cL_count 21 = .ok (.goto (-17), 3) := by decide +kernel
theorem dL_count_24 : decode cL_count 24 = .ok (.iload_n 1, 1) := by decide +kernel
theorem dL_count_25 : decode cL_count 25 = .ok (.ireturn, 1) := by decide +kernel
theorem dL_signs_0 : decode cL_signs 0 = .ok (.aload_n 1, 1) := by decide +kernel
theorem dL_signs_1 : decode cL_signs 1 = .ok (.iconst 1, 1) := by decide +kernel
theorem dL_signs_2 : decode cL_signs 2 = .ok (.iaload, 1) := by decide +kernel
theorem dL_signs_3 : decode cL_signs 3 = .ok (.bipush 20, 2) := by decide +kernel
theorem dL_signs_5 : decode cL_signs 5 = .ok (.if_icmp .ge 7, 3) := by decide +kernel
theorem dL_signs_8 : decode cL_signs 8 = .ok (.iconst 1, 1) := by decide +kernel
theorem dL_signs_9 : decode cL_signs 9 = .ok (.goto 4, 3) := by decide +kernel
theorem dL_signs_12 : decode cL_signs 12 = .ok (.iconst 0, 1) := by decide +kernel
theorem dL_signs_13 : decode cL_signs 13 = .ok (.istore 5, 2) := by decide +kernel
theorem dL_signs_15 : decode cL_signs 15 = .ok (.iconst 0, 1) := by decide +kernel
theorem dL_signs_16 : decode cL_signs 16 = .ok (.istore 6, 2) := by decide +kernel
theorem dL_signs_18 : decode cL_signs 18 = .ok (.iload 6, 2) := by decide +kernel
theorem dL_signs_20 : decode cL_signs 20 = .ok (.aload_n 1, 1) := by decide +kernel
theorem dL_signs_21 : decode cL_signs 21 = .ok (.iconst 1, 1) := by decide +kernel
theorem dL_signs_22 : decode cL_signs 22 = .ok (.iaload, 1) := by decide +kernel
theorem dL_signs_23 : decode cL_signs 23 = .ok (.if_icmp .ge 45, 3) := by decide +kernel
theorem dL_signs_26 : decode cL_signs 26 = .ok (.iload 5, 2) := by decide +kernel
theorem dL_signs_28 : decode cL_signs 28 = .ok (.ifCond .eq 31, 3) := by decide +kernel
theorem dL_signs_31 : decode cL_signs 31 = .ok (.aload_n 0, 1) := by decide +kernel
theorem dL_signs_32 : decode cL_signs 32 = .ok (.iload_n 2, 1) := by decide +kernel
theorem dL_signs_33 : decode cL_signs 33 = .ok (.invokevirtual 30, 3) := by decide +kernel
theorem dL_signs_36 : decode cL_signs 36 = .ok (.iload 6, 2) := by decide +kernel
theorem dL_signs_38 : decode cL_signs 38 = .ok (.ishr, 1) := by decide +kernel
theorem dL_signs_39 : decode cL_signs 39 = .ok (.iconst 1, 1) := by decide +kernel
theorem dL_signs_40 : decode cL_signs 40 = .ok (.iand, 1) := by decide +kernel
theorem dL_signs_41 : decode cL_signs 41 = .ok (.ifCond .eq 14, 3) := by decide +kernel
theorem dL_signs_44 : decode cL_signs 44 = .ok (.aload_n 1, 1) := by decide +kernel
theorem dL_signs_45 : decode cL_signs 45 = .ok (.bipush 8, 2) := by decide +kernel
theorem dL_signs_47 : decode cL_signs 47 = .ok (.iload 6, 2) := by decide +kernel
theorem dL_signs_49 : decode cL_signs 49 = .ok (.iadd, 1) := by decide +kernel
theorem dL_signs_50 : decode cL_signs 50 = .ok (.iaload, 1) := by decide +kernel
theorem dL_signs_51 : decode cL_signs 51 = .ok (.iload_n 3, 1) := by decide +kernel
theorem dL_signs_52 : decode cL_signs 52 = .ok (.if_icmp .eq 7, 3) := by decide +kernel
theorem dL_signs_55 : decode cL_signs 55 = .ok (.iconst 1, 1) := by decide +kernel
theorem dL_signs_56 : decode cL_signs 56 = .ok (.goto 4, 3) := by decide +kernel
theorem dL_signs_59 : decode cL_signs 59 = .ok (.iconst 0, 1) := by decide +kernel
theorem dL_signs_60 : decode cL_signs 60 = .ok (.istore 5, 2) := by decide +kernel
theorem dL_signs_62 : decode cL_signs 62 = .ok (.iinc 6 1, 3) := by decide +kernel
theorem dL_signs_65 : decode cL_signs 65 = .ok (.goto (-47), 3) := by decide +kernel
theorem dL_signs_68 : decode cL_signs 68 = .ok (.iload 5, 2) := by decide +kernel
theorem dL_signs_70 : decode cL_signs 70 = .ok (.ifCond .ne 19, 3) := by decide +kernel
theorem dL_signs_73 : decode cL_signs 73 = .ok (.aload_n 0, 1) := by decide +kernel
theorem dL_signs_74 : decode cL_signs 74 = .ok (.invokevirtual 74, 3) := by decide +kernel
theorem dL_signs_77 : decode cL_signs 77 = .ok (.aload_n 1, 1) := by decide +kernel
theorem dL_signs_78 : decode cL_signs 78 = .ok (.iconst 1, 1) := by decide +kernel
theorem dL_signs_79 : decode cL_signs 79 = .ok (.iaload, 1) := by decide +kernel
theorem dL_signs_80 : decode cL_signs 80 = .ok (.if_icmp .ne 7, 3) := by decide +kernel
theorem dL_signs_83 : decode cL_signs 83 = .ok (.iconst 1, 1) := by decide +kernel
theorem dL_signs_84 : decode cL_signs 84 = .ok (.goto 4, 3) := by decide +kernel
theorem dL_signs_87 : decode cL_signs 87 = .ok (.iconst 0, 1) := by decide +kernel
theorem dL_signs_88 : decode cL_signs 88 = .ok (.ireturn, 1) := by decide +kernel
theorem dL_signs_89 : decode cL_signs 89 = .ok (.aload_n 1, 1) := by decide +kernel
theorem dL_signs_90 : decode cL_signs 90 = .ok (.iconst 1, 1) := by decide +kernel
theorem dL_signs_91 : decode cL_signs 91 = .ok (.iaload, 1) := by decide +kernel
theorem dL_signs_92 : decode cL_signs 92 = .ok (.istore 6, 2) := by decide +kernel
theorem dL_signs_94 : decode cL_signs 94 = .ok (.aload_n 0, 1) := by decide +kernel
theorem dL_signs_95 : decode cL_signs 95 = .ok (.invokevirtual 22, 3) := by decide +kernel
theorem dL_signs_98 : decode cL_signs 98 = .ok (.istore 7, 2) := by decide +kernel
theorem dL_signs_100 : decode cL_signs 100 = .ok (.aload_n 1, 1) := by decide +kernel
theorem dL_signs_101 : decode cL_signs 101 = .ok (.bipush 8, 2) := by decide +kernel
theorem dL_signs_103 : decode cL_signs 103 = .ok (.iload 6, 2) := by decide +kernel
theorem dL_signs_105 : decode cL_signs 105 = .ok (.iadd, 1) := by decide +kernel
theorem dL_signs_106 : decode cL_signs 106 = .ok (.iload_n 3, 1) := by decide +kernel
theorem dL_signs_107 : decode cL_signs 107 = .ok (.iastore, 1) := by decide +kernel
theorem dL_signs_108 : decode cL_signs 108 = .ok (.aload_n 1, 1) := by decide +kernel
theorem dL_signs_109 : decode cL_signs 109 = .ok (.bipush 28, 2) := by decide +kernel
theorem dL_signs_111 : decode cL_signs 111 = .ok (.iload 6, 2) := by decide +kernel
theorem dL_signs_113 : decode cL_signs 113 = .ok (.iadd, 1) := by decide +kernel
theorem dL_signs_114 : decode cL_signs 114 = .ok (.iload_n 2, 1) := by decide +kernel
theorem dL_signs_115 : decode cL_signs 115 = .ok (.iastore, 1) := by decide +kernel
theorem dL_signs_116 : decode cL_signs 116 = .ok (.aload_n 1, 1) := by decide +kernel
theorem dL_signs_117 : decode cL_signs 117 = .ok (.iconst 0, 1) := by decide +kernel
theorem dL_signs_118 : decode cL_signs 118 = .ok (.dup2, 1) := by decide +kernel
theorem dL_signs_119 : decode cL_signs 119 = .ok (.iaload, 1) := by decide +kernel
theorem dL_signs_120 : decode cL_signs 120 = .ok (.iconst 1, 1) := by decide +kernel
theorem dL_signs_121 : decode cL_signs 121 = .ok (.iadd, 1) := by decide +kernel
theorem dL_signs_122 : decode cL_signs 122 = .ok (.iastore, 1) := by decide +kernel
theorem dL_signs_123 : decode cL_signs 123 = .ok (.aload_n 1, 1) := by decide +kernel
theorem dL_signs_124 : decode cL_signs 124 = .ok (.iconst 1, 1) := by decide +kernel
theorem dL_signs_125 : decode cL_signs 125 = .ok (.dup2, 1) := by decide +kernel
theorem dL_signs_126 : decode cL_signs 126 = .ok (.iaload, 1) := by decide +kernel
theorem dL_signs_127 : decode cL_signs 127 = .ok (.iconst 1, 1) := by decide +kernel
theorem dL_signs_128 : decode cL_signs 128 = .ok (.iadd, 1) := by decide +kernel
theorem dL_signs_129 : decode cL_signs 129 = .ok (.iastore, 1) := by decide +kernel
theorem dL_signs_130 : decode cL_signs 130 = .ok (.aload_n 0, 1) := by decide +kernel
theorem dL_signs_131 : decode cL_signs 131 = .ok (.iload_n 2, 1) := by decide +kernel
theorem dL_signs_132 : decode cL_signs 132 = .ok (.iload 4, 2) := by decide +kernel
theorem dL_signs_134 : decode cL_signs 134 = .ok (.ifCond .eq 8, 3) := by decide +kernel
theorem dL_signs_137 : decode cL_signs 137 = .ok (.bipush 97, 2) := by decide +kernel
theorem dL_signs_139 : decode cL_signs 139 = .ok (.goto 5, 3) := by decide +kernel
theorem dL_signs_142 : decode cL_signs 142 = .ok (.bipush 65, 2) := by decide +kernel
theorem dL_signs_144 : decode cL_signs 144 = .ok (.iload_n 3, 1) := by decide +kernel
theorem dL_signs_145 : decode cL_signs 145 = .ok (.iadd, 1) := by decide +kernel
theorem dL_signs_146 : decode cL_signs 146 = .ok (.i2c, 1) := by decide +kernel
theorem dL_signs_147 : decode cL_signs 147 = .ok (.invokevirtual 77, 3) := by decide +kernel
theorem dL_signs_150 : decode cL_signs 150 = .ok (.iload 6, 2) := by decide +kernel
theorem dL_signs_152 : decode cL_signs 152 = .ok (.if_icmp .ne 50, 3) := by decide +kernel
theorem dL_signs_155 : decode cL_signs 155 = .ok (.aload_n 0, 1) := by decide +kernel
theorem dL_signs_156 : decode cL_signs 156 = .ok (.invokevirtual 74, 3) := by decide +kernel
theorem dL_signs_159 : decode cL_signs 159 = .ok (.iload 6, 2) := by decide +kernel
theorem dL_signs_161 : decode cL_signs 161 = .ok (.iconst 1, 1) := by decide +kernel
theorem dL_signs_162 : decode cL_signs 162 = .ok (.iadd, 1) := by decide +kernel
theorem dL_signs_163 : decode cL_signs 163 = .ok (.if_icmp .ne 39, 3) := by decide +kernel
theorem dL_signs_166 : decode cL_signs 166 = .ok (.aload_n 0, 1) := by decide +kernel
theorem dL_signs_167 : decode cL_signs 167 = .ok (.iload_n 2, 1) := by decide +kernel
theorem dL_signs_168 : decode cL_signs 168 = .ok (.invokevirtual 30, 3) := by decide +kernel
theorem dL_signs_171 : decode cL_signs 171 = .ok (.iload 6, 2) := by decide +kernel
theorem dL_signs_173 : decode cL_signs 173 = .ok (.ishr, 1) := by decide +kernel
theorem dL_signs_174 : decode cL_signs 174 = .ok (.iconst 1, 1) := by decide +kernel
theorem dL_signs_175 : decode cL_signs 175 = .ok (.iand, 1) := by decide +kernel
theorem dL_signs_176 : decode cL_signs 176 = .ok (.iconst 1, 1) := by decide +kernel
theorem dL_signs_177 : decode cL_signs 177 = .ok (.if_icmp .ne 25, 3) := by decide +kernel
theorem dL_signs_180 : decode cL_signs 180 = .ok (.aload_n 0, 1) := by decide +kernel
theorem dL_signs_181 : decode cL_signs 181 = .ok (.invokevirtual 22, 3) := by decide +kernel
theorem dL_signs_184 : decode cL_signs 184 = .ok (.iload 7, 2) := by decide +kernel
theorem dL_signs_186 : decode cL_signs 186 = .ok (.aload_n 1, 1) := by decide +kernel
theorem dL_signs_187 : decode cL_signs 187 = .ok (.iconst 2, 1) := by decide +kernel
theorem dL_signs_188 : decode cL_signs 188 = .ok (.iload_n 2, 1) := by decide +kernel
theorem dL_signs_189 : decode cL_signs 189 = .ok (.iadd, 1) := by decide +kernel
theorem dL_signs_190 : decode cL_signs 190 = .ok (.iaload, 1) := by decide +kernel
theorem dL_signs_191 : decode cL_signs 191 = .ok (.invokestatic 65, 3) := by decide +kernel
theorem dL_signs_194 : decode cL_signs 194 = .ok (.iadd, 1) := by decide +kernel
theorem dL_signs_195 : decode cL_signs 195 = .ok (.if_icmp .ne 7, 3) := by decide +kernel
theorem dL_signs_198 : decode cL_signs 198 = .ok (.iconst 1, 1) := by decide +kernel
theorem dL_signs_199 : decode cL_signs 199 = .ok (.goto 4, 3) := by decide +kernel
theorem dL_signs_202 : decode cL_signs 202 = .ok (.iconst 0, 1) := by decide +kernel
theorem dL_signs_203 : decode cL_signs 203 = .ok (.istore 8, 2) := by decide +kernel
theorem dL_signs_205 : decode cL_signs 205 = .ok (.iload 8, 2) := by decide +kernel
theorem dL_signs_207 : decode cL_signs 207 = .ok (.ifCond .eq 29, 3) := by decide +kernel
theorem dL_signs_210 : decode cL_signs 210 = .ok (.aload_n 1, 1) := by decide +kernel
theorem dL_signs_211 : decode cL_signs 211 = .ok (.iconst 2, 1) := by decide +kernel
theorem dL_signs_212 : decode cL_signs 212 = .ok (.iload_n 2, 1) := by decide +kernel
theorem dL_signs_213 : decode cL_signs 213 = .ok (.iadd, 1) := by decide +kernel
theorem dL_signs_214 : decode cL_signs 214 = .ok (.iaload, 1) := by decide +kernel
theorem dL_signs_215 : decode cL_signs 215 = .ok (.ifCond .eq 17, 3) := by decide +kernel
theorem dL_signs_218 : decode cL_signs 218 = .ok (.iload 4, 2) := by decide +kernel
theorem dL_signs_220 : decode cL_signs 220 = .ok (.ifCond .ne 12, 3) := by decide +kernel
theorem dL_signs_223 : decode cL_signs 223 = .ok (.aload_n 0, 1) := by decide +kernel
theorem dL_signs_224 : decode cL_signs 224 = .ok (.aload_n 1, 1) := by decide +kernel
theorem dL_signs_225 : decode cL_signs 225 = .ok (.iload_n 2, 1) := by decide +kernel
theorem dL_signs_226 : decode cL_signs 226 = .ok (.invokestatic 81, 3) := by decide +kernel
theorem dL_signs_229 : decode cL_signs 229 = .ok (.ifCond .eq 7, 3) := by decide +kernel
theorem dL_signs_232 : decode cL_signs 232 = .ok (.iconst 1, 1) := by decide +kernel
theorem dL_signs_233 : decode cL_signs 233 = .ok (.goto 4, 3) := by decide +kernel
theorem dL_signs_236 : decode cL_signs 236 = .ok (.iconst 0, 1) := by decide +kernel
theorem dL_signs_237 : decode cL_signs 237 = .ok (.ireturn, 1) := by decide +kernel
theorem dL_delivers_0 : decode cL_delivers 0 = .ok (.iconst 0, 1) := by decide +kernel
theorem dL_delivers_1 : decode cL_delivers 1 = .ok (.istore_n 3, 1) := by decide +kernel
theorem dL_delivers_2 : decode cL_delivers 2 = .ok (.aload_n 1, 1) := by decide +kernel
theorem dL_delivers_3 : decode cL_delivers 3 = .ok (.iconst 2, 1) := by decide +kernel
theorem dL_delivers_4 : decode cL_delivers 4 = .ok (.iload_n 2, 1) := by decide +kernel
theorem dL_delivers_5 : decode cL_delivers 5 = .ok (.iadd, 1) := by decide +kernel
theorem dL_delivers_6 : decode cL_delivers 6 = .ok (.iaload, 1) := by decide +kernel
theorem dL_delivers_7 : decode cL_delivers 7 = .ok (.iload_n 3, 1) := by decide +kernel
theorem dL_delivers_8 : decode cL_delivers 8 = .ok (.ishr, 1) := by decide +kernel
theorem dL_delivers_9 : decode cL_delivers 9 = .ok (.iconst 1, 1) := by decide +kernel
theorem dL_delivers_10 : decode cL_delivers 10 = .ok (.iand, 1) := by decide +kernel
theorem dL_delivers_11 : decode cL_delivers 11 = .ok (.ifCond .ne 9, 3) := by decide +kernel
theorem dL_delivers_14 : decode cL_delivers 14 = .ok (.iinc 3 1, 3) := by decide +kernel
theorem dL_delivers_17 : decode cL_delivers 17 = .ok (.goto (-15), 3) := by decide +kernel
theorem dL_delivers_20 : decode cL_delivers 20 = .ok (.aload_n 0, 1) := by decide +kernel
theorem dL_delivers_21 : decode cL_delivers 21 = .ok (.invokevirtual 22, 3) := by decide +kernel
theorem dL_delivers_24 : decode cL_delivers 24 = .ok (.istore 4, 2) := by decide +kernel
theorem dL_delivers_26 : decode cL_delivers 26 = .ok (.aload_n 1, 1) := by decide +kernel
theorem dL_delivers_27 : decode cL_delivers 27 = .ok (.iconst 0, 1) := by decide +kernel
theorem dL_delivers_28 : decode cL_delivers 28 = .ok (.dup2, 1) := by decide +kernel
theorem dL_delivers_29 : decode cL_delivers 29 = .ok (.iaload, 1) := by decide +kernel
theorem dL_delivers_30 : decode cL_delivers 30 = .ok (.iconst 1, 1) := by decide +kernel
theorem dL_delivers_31 : decode cL_delivers 31 = .ok (.iadd, 1) := by decide +kernel
theorem dL_delivers_32 : decode cL_delivers 32 = .ok (.iastore, 1) := by decide +kernel
theorem dL_delivers_33 : decode cL_delivers 33 = .ok (.aload_n 0, 1) := by decide +kernel
theorem dL_delivers_34 : decode cL_delivers 34 = .ok (.iload_n 2, 1) := by decide +kernel
theorem dL_delivers_35 : decode cL_delivers 35 = .ok (.iload_n 3, 1) := by decide +kernel
theorem dL_delivers_36 : decode cL_delivers 36 = .ok (.invokevirtual 85, 3) := by decide +kernel
theorem dL_delivers_39 : decode cL_delivers 39 = .ok (.iload 4, 2) := by decide +kernel
theorem dL_delivers_41 : decode cL_delivers 41 = .ok (.iconst 1, 1) := by decide +kernel
theorem dL_delivers_42 : decode cL_delivers 42 = .ok (.isub, 1) := by decide +kernel
theorem dL_delivers_43 : decode cL_delivers 43 = .ok (.if_icmp .lt 18, 3) := by decide +kernel
theorem dL_delivers_46 : decode cL_delivers 46 = .ok (.aload_n 0, 1) := by decide +kernel
theorem dL_delivers_47 : decode cL_delivers 47 = .ok (.invokevirtual 22, 3) := by decide +kernel
theorem dL_delivers_50 : decode cL_delivers 50 = .ok (.iload 4, 2) := by decide +kernel
theorem dL_delivers_52 : decode cL_delivers 52 = .ok (.iconst 1, 1) := by decide +kernel
theorem dL_delivers_53 : decode cL_delivers 53 = .ok (.isub, 1) := by decide +kernel
theorem dL_delivers_54 : decode cL_delivers 54 = .ok (.if_icmp .lt 7, 3) := by decide +kernel
theorem dL_delivers_57 : decode cL_delivers 57 = .ok (.iconst 1, 1) := by decide +kernel
theorem dL_delivers_58 : decode cL_delivers 58 = .ok (.goto 4, 3) := by decide +kernel
theorem dL_delivers_61 : decode cL_delivers 61 = .ok (.iconst 0, 1) := by decide +kernel
theorem dL_delivers_62 : decode cL_delivers 62 = .ok (.ireturn, 1) := by decide +kernel
theorem dL_isThere_0 : decode cL_isThere 0 = .ok (.aload_n 0, 1) := by decide +kernel
theorem dL_isThere_1 : decode cL_isThere 1 = .ok (.aload_n 1, 1) := by decide +kernel
theorem dL_isThere_2 : decode cL_isThere 2 = .ok (.bipush 28, 2) := by decide +kernel
theorem dL_isThere_4 : decode cL_isThere 4 = .ok (.iload_n 2, 1) := by decide +kernel
theorem dL_isThere_5 : decode cL_isThere 5 = .ok (.iadd, 1) := by decide +kernel
theorem dL_isThere_6 : decode cL_isThere 6 = .ok (.iaload, 1) := by decide +kernel
theorem dL_isThere_7 : decode cL_isThere 7 = .ok (.invokevirtual 30, 3) := by decide +kernel
theorem dL_isThere_10 : decode cL_isThere 10 = .ok (.iload_n 2, 1) := by decide +kernel
theorem dL_isThere_11 : decode cL_isThere 11 = .ok (.ishr, 1) := by decide +kernel
theorem dL_isThere_12 : decode cL_isThere 12 = .ok (.iconst 1, 1) := by decide +kernel
theorem dL_isThere_13 : decode cL_isThere 13 = .ok (.iand, 1) := by decide +kernel
theorem dL_isThere_14 : decode cL_isThere 14 = .ok (.iconst 1, 1) := by decide +kernel
theorem dL_isThere_15 : decode cL_isThere 15 = .ok (.if_icmp .ne 7, 3) := by decide +kernel
theorem dL_isThere_18 : decode cL_isThere 18 = .ok (.iconst 1, 1) := by decide +kernel
theorem dL_isThere_19 : decode cL_isThere 19 = .ok (.goto 4, 3) := by decide +kernel
theorem dL_isThere_22 : decode cL_isThere 22 = .ok (.iconst 0, 1) := by decide +kernel
theorem dL_isThere_23 : decode cL_isThere 23 = .ok (.ireturn, 1) := by decide +kernel
theorem dL_joins_0 : decode cL_joins 0 = .ok (.aload_n 1, 1) := by decide +kernel
theorem dL_joins_1 : decode cL_joins 1 = .ok (.bipush 28, 2) := by decide +kernel
theorem dL_joins_3 : decode cL_joins 3 = .ok (.iload_n 2, 1) := by decide +kernel
theorem dL_joins_4 : decode cL_joins 4 = .ok (.iadd, 1) := by decide +kernel
theorem dL_joins_5 : decode cL_joins 5 = .ok (.iaload, 1) := by decide +kernel
theorem dL_joins_6 : decode cL_joins 6 = .ok (.istore 4, 2) := by decide +kernel
theorem dL_joins_8 : decode cL_joins 8 = .ok (.aload_n 0, 1) := by decide +kernel
theorem dL_joins_9 : decode cL_joins 9 = .ok (.iload 4, 2) := by decide +kernel
theorem dL_joins_11 : decode cL_joins 11 = .ok (.iload_n 3, 1) := by decide +kernel
theorem dL_joins_12 : decode cL_joins 12 = .ok (.invokevirtual 88, 3) := by decide +kernel
theorem dL_joins_15 : decode cL_joins 15 = .ok (.istore 5, 2) := by decide +kernel
theorem dL_joins_17 : decode cL_joins 17 = .ok (.aload_n 0, 1) := by decide +kernel
theorem dL_joins_18 : decode cL_joins 18 = .ok (.iload 4, 2) := by decide +kernel
theorem dL_joins_20 : decode cL_joins 20 = .ok (.iload_n 3, 1) := by decide +kernel
theorem dL_joins_21 : decode cL_joins 21 = .ok (.invokevirtual 91, 3) := by decide +kernel
theorem dL_joins_24 : decode cL_joins 24 = .ok (.istore 6, 2) := by decide +kernel
theorem dL_joins_26 : decode cL_joins 26 = .ok (.iload 6, 2) := by decide +kernel
theorem dL_joins_28 : decode cL_joins 28 = .ok (.iconst (-1), 1) := by decide +kernel
theorem dL_joins_29 : decode cL_joins 29 = .ok (.if_icmp .eq 22, 3) := by decide +kernel
theorem dL_joins_32 : decode cL_joins 32 = .ok (.iload 6, 2) := by decide +kernel
theorem dL_joins_34 : decode cL_joins 34 = .ok (.aload_n 1, 1) := by decide +kernel
theorem dL_joins_35 : decode cL_joins 35 = .ok (.bipush 8, 2) := by decide +kernel
theorem dL_joins_37 : decode cL_joins 37 = .ok (.iload_n 2, 1) := by decide +kernel
theorem dL_joins_38 : decode cL_joins 38 = .ok (.iadd, 1) := by decide +kernel
theorem dL_joins_39 : decode cL_joins 39 = .ok (.iaload, 1) := by decide +kernel
theorem dL_joins_40 : decode cL_joins 40 = .ok (.ishr, 1) := by decide +kernel
theorem dL_joins_41 : decode cL_joins 41 = .ok (.iconst 1, 1) := by decide +kernel
theorem dL_joins_42 : decode cL_joins 42 = .ok (.iand, 1) := by decide +kernel
theorem dL_joins_43 : decode cL_joins 43 = .ok (.iconst 1, 1) := by decide +kernel
theorem dL_joins_44 : decode cL_joins 44 = .ok (.if_icmp .ne 7, 3) := by decide +kernel
theorem dL_joins_47 : decode cL_joins 47 = .ok (.iconst 1, 1) := by decide +kernel
theorem dL_joins_48 : decode cL_joins 48 = .ok (.goto 4, 3) := by decide +kernel
theorem dL_joins_51 : decode cL_joins 51 = .ok (.iconst 0, 1) := by decide +kernel
theorem dL_joins_52 : decode cL_joins 52 = .ok (.istore 7, 2) := by decide +kernel
theorem dL_joins_54 : decode cL_joins 54 = .ok (.aload_n 0, 1) := by decide +kernel
theorem dL_joins_55 : decode cL_joins 55 = .ok (.aload_n 1, 1) := by decide +kernel
theorem dL_joins_56 : decode cL_joins 56 = .ok (.iload_n 2, 1) := by decide +kernel
theorem dL_joins_57 : decode cL_joins 57 = .ok (.invokestatic 94, 3) := by decide +kernel
theorem dL_joins_60 : decode cL_joins 60 = .ok (.ifCond .eq 18, 3) := by decide +kernel
theorem dL_joins_63 : decode cL_joins 63 = .ok (.iload 7, 2) := by decide +kernel
theorem dL_joins_65 : decode cL_joins 65 = .ok (.ifCond .ne 13, 3) := by decide +kernel
theorem dL_joins_68 : decode cL_joins 68 = .ok (.iload 5, 2) := by decide +kernel
theorem dL_joins_70 : decode cL_joins 70 = .ok (.iload_n 2, 1) := by decide +kernel
theorem dL_joins_71 : decode cL_joins 71 = .ok (.ishr, 1) := by decide +kernel
theorem dL_joins_72 : decode cL_joins 72 = .ok (.iconst 1, 1) := by decide +kernel
theorem dL_joins_73 : decode cL_joins 73 = .ok (.iand, 1) := by decide +kernel
theorem dL_joins_74 : decode cL_joins 74 = .ok (.iconst 1, 1) := by decide +kernel
theorem dL_joins_75 : decode cL_joins 75 = .ok (.if_icmp .ne 20, 3) := by decide +kernel
theorem dL_joins_78 : decode cL_joins 78 = .ok (.aload_n 0, 1) := by decide +kernel
theorem dL_joins_79 : decode cL_joins 79 = .ok (.iload_n 2, 1) := by decide +kernel
theorem dL_joins_80 : decode cL_joins 80 = .ok (.iload_n 3, 1) := by decide +kernel
theorem dL_joins_81 : decode cL_joins 81 = .ok (.invokevirtual 97, 3) := by decide +kernel
theorem dL_joins_84 : decode cL_joins 84 = .ok (.bipush (-5), 2) := by decide +kernel
theorem dL_joins_86 : decode cL_joins 86 = .ok (.if_icmp .lt 7, 3) := by decide +kernel
theorem dL_joins_89 : decode cL_joins 89 = .ok (.iconst 1, 1) := by decide +kernel
theorem dL_joins_90 : decode cL_joins 90 = .ok (.goto 4, 3) := by decide +kernel
theorem dL_joins_93 : decode cL_joins 93 = .ok (.iconst 0, 1) := by decide +kernel
theorem dL_joins_94 : decode cL_joins 94 = .ok (.ireturn, 1) := by decide +kernel
theorem dL_joins_95 : decode cL_joins 95 = .ok (.aload_n 0, 1) := by decide +kernel
theorem dL_joins_96 : decode cL_joins 96 = .ok (.iload 4, 2) := by decide +kernel
theorem dL_joins_98 : decode cL_joins 98 = .ok (.iload_n 3, 1) := by decide +kernel
theorem dL_joins_99 : decode cL_joins 99 = .ok (.invokevirtual 68, 3) := by decide +kernel
theorem dL_joins_102 : decode cL_joins 102 = .ok (.istore 8, 2) := by decide +kernel
theorem dL_joins_104 : decode cL_joins 104 = .ok (.iload 8, 2) := by decide +kernel
theorem dL_joins_106 : decode cL_joins 106 = .ok (.iconst (-1), 1) := by decide +kernel
theorem dL_joins_107 : decode cL_joins 107 = .ok (.if_icmp .ne 9, 3) := by decide +kernel
theorem dL_joins_110 : decode cL_joins 110 = .ok (.aload_n 1, 1) := by decide +kernel
theorem dL_joins_111 : decode cL_joins 111 = .ok (.iconst 0, 1) := by decide +kernel
theorem dL_joins_112 : decode cL_joins 112 = .ok (.iaload, 1) := by decide +kernel
theorem dL_joins_113 : decode cL_joins 113 = .ok (.goto 5, 3) := by decide +kernel
theorem dL_joins_116 : decode cL_joins 116 = .ok (.iload 8, 2) := by decide +kernel
theorem dL_joins_118 : decode cL_joins 118 = .ok (.istore 9, 2) := by decide +kernel
theorem dL_joins_120 : decode cL_joins 120 = .ok (.aload_n 1, 1) := by decide +kernel
theorem dL_joins_121 : decode cL_joins 121 = .ok (.iconst 0, 1) := by decide +kernel
theorem dL_joins_122 : decode cL_joins 122 = .ok (.dup2, 1) := by decide +kernel
theorem dL_joins_123 : decode cL_joins 123 = .ok (.iaload, 1) := by decide +kernel
theorem dL_joins_124 : decode cL_joins 124 = .ok (.iconst 1, 1) := by decide +kernel
theorem dL_joins_125 : decode cL_joins 125 = .ok (.iadd, 1) := by decide +kernel
theorem dL_joins_126 : decode cL_joins 126 = .ok (.iastore, 1) := by decide +kernel
theorem dL_joins_127 : decode cL_joins 127 = .ok (.aload_n 0, 1) := by decide +kernel
theorem dL_joins_128 : decode cL_joins 128 = .ok (.iload_n 2, 1) := by decide +kernel
theorem dL_joins_129 : decode cL_joins 129 = .ok (.iload_n 3, 1) := by decide +kernel
theorem dL_joins_130 : decode cL_joins 130 = .ok (.invokevirtual 100, 3) := by decide +kernel
theorem dL_joins_133 : decode cL_joins 133 = .ok (.iload 5, 2) := by decide +kernel
theorem dL_joins_135 : decode cL_joins 135 = .ok (.invokestatic 65, 3) := by decide +kernel
theorem dL_joins_138 : decode cL_joins 138 = .ok (.iconst 1, 1) := by decide +kernel
theorem dL_joins_139 : decode cL_joins 139 = .ok (.iadd, 1) := by decide +kernel
theorem dL_joins_140 : decode cL_joins 140 = .ok (.if_icmp .ne 61, 3) := by decide +kernel
theorem dL_joins_143 : decode cL_joins 143 = .ok (.aload_n 0, 1) := by decide +kernel
theorem dL_joins_144 : decode cL_joins 144 = .ok (.iload 4, 2) := by decide +kernel
theorem dL_joins_146 : decode cL_joins 146 = .ok (.iload_n 3, 1) := by decide +kernel
theorem dL_joins_147 : decode cL_joins 147 = .ok (.invokevirtual 88, 3) := by decide +kernel
theorem dL_joins_150 : decode cL_joins 150 = .ok (.iload 5, 2) := by decide +kernel
theorem dL_joins_152 : decode cL_joins 152 = .ok (.iconst 1, 1) := by decide +kernel
theorem dL_joins_153 : decode cL_joins 153 = .ok (.iload_n 2, 1) := by decide +kernel
theorem dL_joins_154 : decode cL_joins 154 = .ok (.ishl, 1) := by decide +kernel
theorem dL_joins_155 : decode cL_joins 155 = .ok (.ior, 1) := by decide +kernel
theorem dL_joins_156 : decode cL_joins 156 = .ok (.if_icmp .ne 45, 3) := by decide +kernel
theorem dL_joins_159 : decode cL_joins 159 = .ok (.aload_n 0, 1) := by decide +kernel
theorem dL_joins_160 : decode cL_joins 160 = .ok (.iload 4, 2) := by decide +kernel
theorem dL_joins_162 : decode cL_joins 162 = .ok (.iload_n 3, 1) := by decide +kernel
theorem dL_joins_163 : decode cL_joins 163 = .ok (.invokevirtual 68, 3) := by decide +kernel
theorem dL_joins_166 : decode cL_joins 166 = .ok (.iload 9, 2) := by decide +kernel
theorem dL_joins_168 : decode cL_joins 168 = .ok (.if_icmp .ne 33, 3) := by decide +kernel
theorem dL_joins_171 : decode cL_joins 171 = .ok (.iload 8, 2) := by decide +kernel
theorem dL_joins_173 : decode cL_joins 173 = .ok (.iconst (-1), 1) := by decide +kernel
theorem dL_joins_174 : decode cL_joins 174 = .ok (.if_icmp .ne 23, 3) := by decide +kernel
theorem dL_joins_177 : decode cL_joins 177 = .ok (.aload_n 0, 1) := by decide +kernel
theorem dL_joins_178 : decode cL_joins 178 = .ok (.iload 4, 2) := by decide +kernel
theorem dL_joins_180 : decode cL_joins 180 = .ok (.iload_n 3, 1) := by decide +kernel
theorem dL_joins_181 : decode cL_joins 181 = .ok (.invokevirtual 103, 3) := by decide +kernel
theorem dL_joins_184 : decode cL_joins 184 = .ok (.ifCond .ne 17, 3) := by decide +kernel
theorem dL_joins_187 : decode cL_joins 187 = .ok (.aload_n 0, 1) := by decide +kernel
theorem dL_joins_188 : decode cL_joins 188 = .ok (.iload 4, 2) := by decide +kernel
theorem dL_joins_190 : decode cL_joins 190 = .ok (.iload_n 3, 1) := by decide +kernel
theorem dL_joins_191 : decode cL_joins 191 = .ok (.invokevirtual 91, 3) := by decide +kernel
theorem dL_joins_194 : decode cL_joins 194 = .ok (.ifCond .ne 7, 3) := by decide +kernel
theorem dL_joins_197 : decode cL_joins 197 = .ok (.iconst 1, 1) := by decide +kernel
theorem dL_joins_198 : decode cL_joins 198 = .ok (.goto 4, 3) := by decide +kernel
theorem dL_joins_201 : decode cL_joins 201 = .ok (.iconst 0, 1) := by decide +kernel
theorem dL_joins_202 : decode cL_joins 202 = .ok (.ireturn, 1) := by decide +kernel
theorem dL_leaves_0 : decode cL_leaves 0 = .ok (.aload_n 1, 1) := by decide +kernel
theorem dL_leaves_1 : decode cL_leaves 1 = .ok (.bipush 28, 2) := by decide +kernel
theorem dL_leaves_3 : decode cL_leaves 3 = .ok (.iload_n 2, 1) := by decide +kernel
theorem dL_leaves_4 : decode cL_leaves 4 = .ok (.iadd, 1) := by decide +kernel
theorem dL_leaves_5 : decode cL_leaves 5 = .ok (.iaload, 1) := by decide +kernel
theorem dL_leaves_6 : decode cL_leaves 6 = .ok (.istore 5, 2) := by decide +kernel
theorem dL_leaves_8 : decode cL_leaves 8 = .ok (.aload_n 0, 1) := by decide +kernel
theorem dL_leaves_9 : decode cL_leaves 9 = .ok (.iload 5, 2) := by decide +kernel
theorem dL_leaves_11 : decode cL_leaves 11 = .ok (.iload_n 3, 1) := by decide +kernel
theorem dL_leaves_12 : decode cL_leaves 12 = .ok (.invokevirtual 88, 3) := by decide +kernel
theorem dL_leaves_15 : decode cL_leaves 15 = .ok (.istore 6, 2) := by decide +kernel
theorem dL_leaves_17 : decode cL_leaves 17 = .ok (.aload_n 0, 1) := by decide +kernel
theorem dL_leaves_18 : decode cL_leaves 18 = .ok (.aload_n 1, 1) := by decide +kernel
theorem dL_leaves_19 : decode cL_leaves 19 = .ok (.iload_n 2, 1) := by decide +kernel
theorem dL_leaves_20 : decode cL_leaves 20 = .ok (.invokestatic 94, 3) := by decide +kernel
theorem dL_leaves_23 : decode cL_leaves 23 = .ok (.ifCond .ne 20, 3) := by decide +kernel
theorem dL_leaves_26 : decode cL_leaves 26 = .ok (.aload_n 0, 1) := by decide +kernel
theorem dL_leaves_27 : decode cL_leaves 27 = .ok (.iload_n 2, 1) := by decide +kernel
theorem dL_leaves_28 : decode cL_leaves 28 = .ok (.iload_n 3, 1) := by decide +kernel
theorem dL_leaves_29 : decode cL_leaves 29 = .ok (.invokevirtual 97, 3) := by decide +kernel
theorem dL_leaves_32 : decode cL_leaves 32 = .ok (.bipush (-2), 2) := by decide +kernel
theorem dL_leaves_34 : decode cL_leaves 34 = .ok (.if_icmp .ne 7, 3) := by decide +kernel
theorem dL_leaves_37 : decode cL_leaves 37 = .ok (.iconst 1, 1) := by decide +kernel
theorem dL_leaves_38 : decode cL_leaves 38 = .ok (.goto 4, 3) := by decide +kernel
theorem dL_leaves_41 : decode cL_leaves 41 = .ok (.iconst 0, 1) := by decide +kernel
theorem dL_leaves_42 : decode cL_leaves 42 = .ok (.ireturn, 1) := by decide +kernel
theorem dL_leaves_43 : decode cL_leaves 43 = .ok (.iload 4, 2) := by decide +kernel
theorem dL_leaves_45 : decode cL_leaves 45 = .ok (.ifCond .eq 48, 3) := by decide +kernel
theorem dL_leaves_48 : decode cL_leaves 48 = .ok (.aload_n 1, 1) := by decide +kernel
theorem dL_leaves_49 : decode cL_leaves 49 = .ok (.iconst 0, 1) := by decide +kernel
theorem dL_leaves_50 : decode cL_leaves 50 = .ok (.dup2, 1) := by decide +kernel
theorem dL_leaves_51 : decode cL_leaves 51 = .ok (.iaload, 1) := by decide +kernel
theorem dL_leaves_52 : decode cL_leaves 52 = .ok (.iconst 1, 1) := by decide +kernel
theorem dL_leaves_53 : decode cL_leaves 53 = .ok (.iadd, 1) := by decide +kernel
theorem dL_leaves_54 : decode cL_leaves 54 = .ok (.iastore, 1) := by decide +kernel
theorem dL_leaves_55 : decode cL_leaves 55 = .ok (.aload_n 0, 1) := by decide +kernel
theorem dL_leaves_56 : decode cL_leaves 56 = .ok (.iload_n 2, 1) := by decide +kernel
theorem dL_leaves_57 : decode cL_leaves 57 = .ok (.invokevirtual 106, 3) := by decide +kernel
theorem dL_leaves_60 : decode cL_leaves 60 = .ok (.aload_n 0, 1) := by decide +kernel
theorem dL_leaves_61 : decode cL_leaves 61 = .ok (.aload_n 1, 1) := by decide +kernel
theorem dL_leaves_62 : decode cL_leaves 62 = .ok (.iload_n 2, 1) := by decide +kernel
theorem dL_leaves_63 : decode cL_leaves 63 = .ok (.invokestatic 94, 3) := by decide +kernel
theorem dL_leaves_66 : decode cL_leaves 66 = .ok (.ifCond .ne 25, 3) := by decide +kernel
theorem dL_leaves_69 : decode cL_leaves 69 = .ok (.aload_n 0, 1) := by decide +kernel
theorem dL_leaves_70 : decode cL_leaves 70 = .ok (.iload 5, 2) := by decide +kernel
theorem dL_leaves_72 : decode cL_leaves 72 = .ok (.iload_n 3, 1) := by decide +kernel
theorem dL_leaves_73 : decode cL_leaves 73 = .ok (.invokevirtual 88, 3) := by decide +kernel
theorem dL_leaves_76 : decode cL_leaves 76 = .ok (.iload 6, 2) := by decide +kernel
theorem dL_leaves_78 : decode cL_leaves 78 = .ok (.iconst 1, 1) := by decide +kernel
theorem dL_leaves_79 : decode cL_leaves 79 = .ok (.iload_n 2, 1) := by decide +kernel
theorem dL_leaves_80 : decode cL_leaves 80 = .ok (.ishl, 1) := by decide +kernel
theorem dL_leaves_81 : decode cL_leaves 81 = .ok (.iconst (-1), 1) := by decide +kernel
theorem dL_leaves_82 : decode cL_leaves 82 = .ok (.ixor, 1) := by decide +kernel
theorem dL_leaves_83 : decode cL_leaves 83 = .ok (.iand, 1) := by decide +kernel
theorem dL_leaves_84 : decode cL_leaves 84 = .ok (.if_icmp .ne 7, 3) := by decide +kernel
theorem dL_leaves_87 : decode cL_leaves 87 = .ok (.iconst 1, 1) := by decide +kernel
theorem dL_leaves_88 : decode cL_leaves 88 = .ok (.goto 4, 3) := by decide +kernel
theorem dL_leaves_91 : decode cL_leaves 91 = .ok (.iconst 0, 1) := by decide +kernel
theorem dL_leaves_92 : decode cL_leaves 92 = .ok (.ireturn, 1) := by decide +kernel
theorem dL_leaves_93 : decode cL_leaves 93 = .ok (.iload 6, 2) := by decide +kernel
theorem dL_leaves_95 : decode cL_leaves 95 = .ok (.iload_n 2, 1) := by decide +kernel
theorem dL_leaves_96 : decode cL_leaves 96 = .ok (.ishr, 1) := by decide +kernel
theorem dL_leaves_97 : decode cL_leaves 97 = .ok (.iconst 1, 1) := by decide +kernel
theorem dL_leaves_98 : decode cL_leaves 98 = .ok (.iand, 1) := by decide +kernel
theorem dL_leaves_99 : decode cL_leaves 99 = .ok (.ifCond .ne 20, 3) := by decide +kernel
theorem dL_leaves_102 : decode cL_leaves 102 = .ok (.aload_n 0, 1) := by decide +kernel
theorem dL_leaves_103 : decode cL_leaves 103 = .ok (.iload_n 2, 1) := by decide +kernel
theorem dL_leaves_104 : decode cL_leaves 104 = .ok (.iload_n 3, 1) := by decide +kernel
theorem dL_leaves_105 : decode cL_leaves 105 = .ok (.invokevirtual 97, 3) := by decide +kernel
theorem dL_leaves_108 : decode cL_leaves 108 = .ok (.bipush (-3), 2) := by decide +kernel
theorem dL_leaves_110 : decode cL_leaves 110 = .ok (.if_icmp .ne 7, 3) := by decide +kernel
theorem dL_leaves_113 : decode cL_leaves 113 = .ok (.iconst 1, 1) := by decide +kernel
theorem dL_leaves_114 : decode cL_leaves 114 = .ok (.goto 4, 3) := by decide +kernel
theorem dL_leaves_117 : decode cL_leaves 117 = .ok (.iconst 0, 1) := by decide +kernel
theorem dL_leaves_118 : decode cL_leaves 118 = .ok (.ireturn, 1) := by decide +kernel
theorem dL_leaves_119 : decode cL_leaves 119 = .ok (.aload_n 1, 1) := by decide +kernel
theorem dL_leaves_120 : decode cL_leaves 120 = .ok (.iconst 0, 1) := by decide +kernel
theorem dL_leaves_121 : decode cL_leaves 121 = .ok (.dup2, 1) := by decide +kernel
theorem dL_leaves_122 : decode cL_leaves 122 = .ok (.iaload, 1) := by decide +kernel
theorem dL_leaves_123 : decode cL_leaves 123 = .ok (.iconst 1, 1) := by decide +kernel
theorem dL_leaves_124 : decode cL_leaves 124 = .ok (.iadd, 1) := by decide +kernel
theorem dL_leaves_125 : decode cL_leaves 125 = .ok (.iastore, 1) := by decide +kernel
theorem dL_leaves_126 : decode cL_leaves 126 = .ok (.aload_n 0, 1) := by decide +kernel
theorem dL_leaves_127 : decode cL_leaves 127 = .ok (.iload_n 2, 1) := by decide +kernel
theorem dL_leaves_128 : decode cL_leaves 128 = .ok (.iload_n 3, 1) := by decide +kernel
theorem dL_leaves_129 : decode cL_leaves 129 = .ok (.invokevirtual 110, 3) := by decide +kernel
theorem dL_leaves_132 : decode cL_leaves 132 = .ok (.aload_n 0, 1) := by decide +kernel
theorem dL_leaves_133 : decode cL_leaves 133 = .ok (.iload 5, 2) := by decide +kernel
theorem dL_leaves_135 : decode cL_leaves 135 = .ok (.iload_n 3, 1) := by decide +kernel
theorem dL_leaves_136 : decode cL_leaves 136 = .ok (.invokevirtual 88, 3) := by decide +kernel
theorem dL_leaves_139 : decode cL_leaves 139 = .ok (.iload 6, 2) := by decide +kernel
theorem dL_leaves_141 : decode cL_leaves 141 = .ok (.iconst 1, 1) := by decide +kernel
theorem dL_leaves_142 : decode cL_leaves 142 = .ok (.iload_n 2, 1) := by decide +kernel
theorem dL_leaves_143 : decode cL_leaves 143 = .ok (.ishl, 1) := by decide +kernel
theorem dL_leaves_144 : decode cL_leaves 144 = .ok (.iconst (-1), 1) := by decide +kernel
theorem dL_leaves_145 : decode cL_leaves 145 = .ok (.ixor, 1) := by decide +kernel
theorem dL_leaves_146 : decode cL_leaves 146 = .ok (.iand, 1) := by decide +kernel
theorem dL_leaves_147 : decode cL_leaves 147 = .ok (.if_icmp .ne 39, 3) := by decide +kernel
theorem dL_leaves_150 : decode cL_leaves 150 = .ok (.aload_n 0, 1) := by decide +kernel
theorem dL_leaves_151 : decode cL_leaves 151 = .ok (.iload 5, 2) := by decide +kernel
theorem dL_leaves_153 : decode cL_leaves 153 = .ok (.iload_n 3, 1) := by decide +kernel
theorem dL_leaves_154 : decode cL_leaves 154 = .ok (.invokevirtual 68, 3) := by decide +kernel
theorem dL_leaves_157 : decode cL_leaves 157 = .ok (.iconst (-1), 1) := by decide +kernel
theorem dL_leaves_158 : decode cL_leaves 158 = .ok (.if_icmp .ne 7, 3) := by decide +kernel
theorem dL_leaves_161 : decode cL_leaves 161 = .ok (.iconst 1, 1) := by decide +kernel
theorem dL_leaves_162 : decode cL_leaves 162 = .ok (.goto 4, 3) := by decide +kernel
theorem dL_leaves_165 : decode cL_leaves 165 = .ok (.iconst 0, 1) := by decide +kernel
theorem dL_leaves_166 : decode cL_leaves 166 = .ok (.iload 6, 2) := by decide +kernel
theorem dL_leaves_168 : decode cL_leaves 168 = .ok (.iconst 1, 1) := by decide +kernel
theorem dL_leaves_169 : decode cL_leaves 169 = .ok (.iload_n 2, 1) := by decide +kernel
theorem dL_leaves_170 : decode cL_leaves 170 = .ok (.ishl, 1) := by decide +kernel
theorem dL_leaves_171 : decode cL_leaves 171 = .ok (.if_icmp .ne 7, 3) := by decide +kernel
theorem dL_leaves_174 : decode cL_leaves 174 = .ok (.iconst 1, 1) := by decide +kernel
theorem dL_leaves_175 : decode cL_leaves 175 = .ok (.goto 4, 3) := by decide +kernel
theorem dL_leaves_178 : decode cL_leaves 178 = .ok (.iconst 0, 1) := by decide +kernel
theorem dL_leaves_179 : decode cL_leaves 179 = .ok (.if_icmp .ne 7, 3) := by decide +kernel
theorem dL_leaves_182 : decode cL_leaves 182 = .ok (.iconst 1, 1) := by decide +kernel
theorem dL_leaves_183 : decode cL_leaves 183 = .ok (.goto 4, 3) := by decide +kernel
theorem dL_leaves_186 : decode cL_leaves 186 = .ok (.iconst 0, 1) := by decide +kernel
theorem dL_leaves_187 : decode cL_leaves 187 = .ok (.ireturn, 1) := by decide +kernel
theorem dL_sets_0 : decode cL_sets 0 = .ok (.aload_n 1, 1) := by decide +kernel
theorem dL_sets_1 : decode cL_sets 1 = .ok (.bipush 28, 2) := by decide +kernel
theorem dL_sets_3 : decode cL_sets 3 = .ok (.iload_n 2, 1) := by decide +kernel
theorem dL_sets_4 : decode cL_sets 4 = .ok (.iadd, 1) := by decide +kernel
theorem dL_sets_5 : decode cL_sets 5 = .ok (.iaload, 1) := by decide +kernel
theorem dL_sets_6 : decode cL_sets 6 = .ok (.istore 6, 2) := by decide +kernel
theorem dL_sets_8 : decode cL_sets 8 = .ok (.aload_n 0, 1) := by decide +kernel
theorem dL_sets_9 : decode cL_sets 9 = .ok (.aload_n 1, 1) := by decide +kernel
theorem dL_sets_10 : decode cL_sets 10 = .ok (.iload_n 2, 1) := by decide +kernel
theorem dL_sets_11 : decode cL_sets 11 = .ok (.invokestatic 94, 3) := by decide +kernel
theorem dL_sets_14 : decode cL_sets 14 = .ok (.ifCond .eq 17, 3) := by decide +kernel
theorem dL_sets_17 : decode cL_sets 17 = .ok (.aload_n 0, 1) := by decide +kernel
theorem dL_sets_18 : decode cL_sets 18 = .ok (.iload 6, 2) := by decide +kernel
theorem dL_sets_20 : decode cL_sets 20 = .ok (.iload_n 3, 1) := by decide +kernel
theorem dL_sets_21 : decode cL_sets 21 = .ok (.invokevirtual 88, 3) := by decide +kernel
theorem dL_sets_24 : decode cL_sets 24 = .ok (.iload_n 2, 1) := by decide +kernel
theorem dL_sets_25 : decode cL_sets 25 = .ok (.ishr, 1) := by decide +kernel
theorem dL_sets_26 : decode cL_sets 26 = .ok (.iconst 1, 1) := by decide +kernel
theorem dL_sets_27 : decode cL_sets 27 = .ok (.iand, 1) := by decide +kernel
theorem dL_sets_28 : decode cL_sets 28 = .ok (.ifCond .ne 19, 3) := by decide +kernel
theorem dL_sets_31 : decode cL_sets 31 = .ok (.aload_n 0, 1) := by decide +kernel
theorem dL_sets_32 : decode cL_sets 32 = .ok (.iload_n 2, 1) := by decide +kernel
theorem dL_sets_33 : decode cL_sets 33 = .ok (.iload_n 3, 1) := by decide +kernel
theorem dL_sets_34 : decode cL_sets 34 = .ok (.invokevirtual 97, 3) := by decide +kernel
theorem dL_sets_37 : decode cL_sets 37 = .ok (.iconst (-1), 1) := by decide +kernel
theorem dL_sets_38 : decode cL_sets 38 = .ok (.if_icmp .ge 7, 3) := by decide +kernel
theorem dL_sets_41 : decode cL_sets 41 = .ok (.iconst 1, 1) := by decide +kernel
theorem dL_sets_42 : decode cL_sets 42 = .ok (.goto 4, 3) := by decide +kernel
theorem dL_sets_45 : decode cL_sets 45 = .ok (.iconst 0, 1) := by decide +kernel
theorem dL_sets_46 : decode cL_sets 46 = .ok (.ireturn, 1) := by decide +kernel
theorem dL_sets_47 : decode cL_sets 47 = .ok (.aload_n 0, 1) := by decide +kernel
theorem dL_sets_48 : decode cL_sets 48 = .ok (.iload 6, 2) := by decide +kernel
theorem dL_sets_50 : decode cL_sets 50 = .ok (.iload_n 3, 1) := by decide +kernel
theorem dL_sets_51 : decode cL_sets 51 = .ok (.invokevirtual 103, 3) := by decide +kernel
theorem dL_sets_54 : decode cL_sets 54 = .ok (.istore 7, 2) := by decide +kernel
theorem dL_sets_56 : decode cL_sets 56 = .ok (.aload_n 0, 1) := by decide +kernel
theorem dL_sets_57 : decode cL_sets 57 = .ok (.iload 6, 2) := by decide +kernel
theorem dL_sets_59 : decode cL_sets 59 = .ok (.iload_n 3, 1) := by decide +kernel
theorem dL_sets_60 : decode cL_sets 60 = .ok (.invokevirtual 68, 3) := by decide +kernel
theorem dL_sets_63 : decode cL_sets 63 = .ok (.istore 8, 2) := by decide +kernel
theorem dL_sets_65 : decode cL_sets 65 = .ok (.aload_n 1, 1) := by decide +kernel
theorem dL_sets_66 : decode cL_sets 66 = .ok (.iconst 0, 1) := by decide +kernel
theorem dL_sets_67 : decode cL_sets 67 = .ok (.dup2, 1) := by decide +kernel
theorem dL_sets_68 : decode cL_sets 68 = .ok (.iaload, 1) := by decide +kernel
theorem dL_sets_69 : decode cL_sets 69 = .ok (.iconst 1, 1) := by decide +kernel
theorem dL_sets_70 : decode cL_sets 70 = .ok (.iadd, 1) := by decide +kernel
theorem dL_sets_71 : decode cL_sets 71 = .ok (.iastore, 1) := by decide +kernel
theorem dL_sets_72 : decode cL_sets 72 = .ok (.aload_n 0, 1) := by decide +kernel
theorem dL_sets_73 : decode cL_sets 73 = .ok (.iload_n 2, 1) := by decide +kernel
theorem dL_sets_74 : decode cL_sets 74 = .ok (.iload_n 3, 1) := by decide +kernel
theorem dL_sets_75 : decode cL_sets 75 = .ok (.iload 4, 2) := by decide +kernel
theorem dL_sets_77 : decode cL_sets 77 = .ok (.iload 5, 2) := by decide +kernel
theorem dL_sets_79 : decode cL_sets 79 = .ok (.invokevirtual 114, 3) := by decide +kernel
theorem dL_sets_82 : decode cL_sets 82 = .ok (.iload 7, 2) := by decide +kernel
theorem dL_sets_84 : decode cL_sets 84 = .ok (.if_icmp .ne 43, 3) := by decide +kernel
theorem dL_sets_87 : decode cL_sets 87 = .ok (.aload_n 0, 1) := by decide +kernel
theorem dL_sets_88 : decode cL_sets 88 = .ok (.iload 6, 2) := by decide +kernel
theorem dL_sets_90 : decode cL_sets 90 = .ok (.iload_n 3, 1) := by decide +kernel
theorem dL_sets_91 : decode cL_sets 91 = .ok (.invokevirtual 103, 3) := by decide +kernel
theorem dL_sets_94 : decode cL_sets 94 = .ok (.iload 4, 2) := by decide +kernel
theorem dL_sets_96 : decode cL_sets 96 = .ok (.if_icmp .ne 31, 3) := by decide +kernel
theorem dL_sets_99 : decode cL_sets 99 = .ok (.aload_n 0, 1) := by decide +kernel
theorem dL_sets_100 : decode cL_sets 100 = .ok (.iload 6, 2) := by decide +kernel
theorem dL_sets_102 : decode cL_sets 102 = .ok (.iload_n 3, 1) := by decide +kernel
theorem dL_sets_103 : decode cL_sets 103 = .ok (.invokevirtual 91, 3) := by decide +kernel
theorem dL_sets_106 : decode cL_sets 106 = .ok (.iload 5, 2) := by decide +kernel
theorem dL_sets_108 : decode cL_sets 108 = .ok (.if_icmp .ne 19, 3) := by decide +kernel
theorem dL_sets_111 : decode cL_sets 111 = .ok (.aload_n 0, 1) := by decide +kernel
theorem dL_sets_112 : decode cL_sets 112 = .ok (.iload 6, 2) := by decide +kernel
theorem dL_sets_114 : decode cL_sets 114 = .ok (.iload_n 3, 1) := by decide +kernel
theorem dL_sets_115 : decode cL_sets 115 = .ok (.invokevirtual 68, 3) := by decide +kernel
theorem dL_sets_118 : decode cL_sets 118 = .ok (.iload 8, 2) := by decide +kernel
theorem dL_sets_120 : decode cL_sets 120 = .ok (.if_icmp .ne 7, 3) := by decide +kernel
theorem dL_sets_123 : decode cL_sets 123 = .ok (.iconst 1, 1) := by decide +kernel
theorem dL_sets_124 : decode cL_sets 124 = .ok (.goto 4, 3) := by decide +kernel
theorem dL_sets_127 : decode cL_sets 127 = .ok (.iconst 0, 1) := by decide +kernel
theorem dL_sets_128 : decode cL_sets 128 = .ok (.istore 9, 2) := by decide +kernel
theorem dL_sets_130 : decode cL_sets 130 = .ok (.aload_n 0, 1) := by decide +kernel
theorem dL_sets_131 : decode cL_sets 131 = .ok (.iload_n 2, 1) := by decide +kernel
theorem dL_sets_132 : decode cL_sets 132 = .ok (.iload_n 3, 1) := by decide +kernel
theorem dL_sets_133 : decode cL_sets 133 = .ok (.invokevirtual 97, 3) := by decide +kernel
theorem dL_sets_136 : decode cL_sets 136 = .ok (.istore 10, 2) := by decide +kernel
theorem dL_sets_138 : decode cL_sets 138 = .ok (.iload 5, 2) := by decide +kernel
theorem dL_sets_140 : decode cL_sets 140 = .ok (.aload_n 1, 1) := by decide +kernel
theorem dL_sets_141 : decode cL_sets 141 = .ok (.bipush 8, 2) := by decide +kernel
theorem dL_sets_143 : decode cL_sets 143 = .ok (.iload_n 2, 1) := by decide +kernel
theorem dL_sets_144 : decode cL_sets 144 = .ok (.iadd, 1) := by decide +kernel
theorem dL_sets_145 : decode cL_sets 145 = .ok (.iaload, 1) := by decide +kernel
theorem dL_sets_146 : decode cL_sets 146 = .ok (.ishr, 1) := by decide +kernel
theorem dL_sets_147 : decode cL_sets 147 = .ok (.iconst 1, 1) := by decide +kernel
theorem dL_sets_148 : decode cL_sets 148 = .ok (.iand, 1) := by decide +kernel
theorem dL_sets_149 : decode cL_sets 149 = .ok (.iconst 1, 1) := by decide +kernel
theorem dL_sets_150 : decode cL_sets 150 = .ok (.if_icmp .ne 7, 3) := by decide +kernel
theorem dL_sets_153 : decode cL_sets 153 = .ok (.iconst 1, 1) := by decide +kernel
theorem dL_sets_154 : decode cL_sets 154 = .ok (.goto 4, 3) := by decide +kernel
theorem dL_sets_157 : decode cL_sets 157 = .ok (.iconst 0, 1) := by decide +kernel
theorem dL_sets_158 : decode cL_sets 158 = .ok (.istore 11, 2) := by decide +kernel
theorem dL_sets_160 : decode cL_sets 160 = .ok (.iload 9, 2) := by decide +kernel
theorem dL_sets_162 : decode cL_sets 162 = .ok (.ifCond .eq 56, 3) := by decide +kernel
theorem dL_sets_165 : decode cL_sets 165 = .ok (.iload 11, 2) := by decide +kernel
theorem dL_sets_167 : decode cL_sets 167 = .ok (.iload 10, 2) := by decide +kernel
theorem dL_sets_169 : decode cL_sets 169 = .ok (.bipush (-4), 2) := by decide +kernel
theorem dL_sets_171 : decode cL_sets 171 = .ok (.if_icmp .ne 7, 3) := by decide +kernel
theorem dL_sets_174 : decode cL_sets 174 = .ok (.iconst 1, 1) := by decide +kernel
theorem dL_sets_175 : decode cL_sets 175 = .ok (.goto 4, 3) := by decide +kernel
theorem dL_sets_178 : decode cL_sets 178 = .ok (.iconst 0, 1) := by decide +kernel
theorem dL_sets_179 : decode cL_sets 179 = .ok (.if_icmp .ne 39, 3) := by decide +kernel
theorem dL_sets_182 : decode cL_sets 182 = .ok (.iload 11, 2) := by decide +kernel
theorem dL_sets_184 : decode cL_sets 184 = .ok (.ifCond .ne 30, 3) := by decide +kernel
theorem dL_sets_187 : decode cL_sets 187 = .ok (.iload 4, 2) := by decide +kernel
theorem dL_sets_189 : decode cL_sets 189 = .ok (.iconst 2, 1) := by decide +kernel
theorem dL_sets_190 : decode cL_sets 190 = .ok (.irem, 1) := by decide +kernel
theorem dL_sets_191 : decode cL_sets 191 = .ok (.iconst 1, 1) := by decide +kernel
theorem dL_sets_192 : decode cL_sets 192 = .ok (.if_icmp .eq 22, 3) := by decide +kernel
theorem dL_sets_195 : decode cL_sets 195 = .ok (.iload 10, 2) := by decide +kernel
theorem dL_sets_197 : decode cL_sets 197 = .ok (.ifCond .lt 21, 3) := by decide +kernel
theorem dL_sets_200 : decode cL_sets 200 = .ok (.iload 10, 2) := by decide +kernel
theorem dL_sets_202 : decode cL_sets 202 = .ok (.aload_n 0, 1) := by decide +kernel
theorem dL_sets_203 : decode cL_sets 203 = .ok (.iload 6, 2) := by decide +kernel
theorem dL_sets_205 : decode cL_sets 205 = .ok (.invokevirtual 16, 3) := by decide +kernel
theorem dL_sets_208 : decode cL_sets 208 = .ok (.invokestatic 65, 3) := by decide +kernel
theorem dL_sets_211 : decode cL_sets 211 = .ok (.if_icmp .ge 7, 3) := by decide +kernel
theorem dL_sets_214 : decode cL_sets 214 = .ok (.iconst 1, 1) := by decide +kernel
theorem dL_sets_215 : decode cL_sets 215 = .ok (.goto 4, 3) := by decide +kernel
theorem dL_sets_218 : decode cL_sets 218 = .ok (.iconst 0, 1) := by decide +kernel
theorem dL_sets_219 : decode cL_sets 219 = .ok (.ireturn, 1) := by decide +kernel
theorem dL_areViews_0 : decode cL_areViews 0 = .ok (.aload_n 0, 1) := by decide +kernel
theorem dL_areViews_1 : decode cL_areViews 1 = .ok (.invokevirtual 54, 3) := by decide +kernel
theorem dL_areViews_4 : decode cL_areViews 4 = .ok (.aload_n 1, 1) := by decide +kernel
theorem dL_areViews_5 : decode cL_areViews 5 = .ok (.iconst 0, 1) := by decide +kernel
theorem dL_areViews_6 : decode cL_areViews 6 = .ok (.iaload, 1) := by decide +kernel
theorem dL_areViews_7 : decode cL_areViews 7 = .ok (.if_icmp .ne 17, 3) := by decide +kernel
theorem dL_areViews_10 : decode cL_areViews 10 = .ok (.aload_n 0, 1) := by decide +kernel
theorem dL_areViews_11 : decode cL_areViews 11 = .ok (.invokevirtual 74, 3) := by decide +kernel
theorem dL_areViews_14 : decode cL_areViews 14 = .ok (.aload_n 1, 1) := by decide +kernel
theorem dL_areViews_15 : decode cL_areViews 15 = .ok (.iconst 1, 1) := by decide +kernel
theorem dL_areViews_16 : decode cL_areViews 16 = .ok (.iaload, 1) := by decide +kernel
theorem dL_areViews_17 : decode cL_areViews 17 = .ok (.if_icmp .ne 7, 3) := by decide +kernel
theorem dL_areViews_20 : decode cL_areViews 20 = .ok (.iconst 1, 1) := by decide +kernel
theorem dL_areViews_21 : decode cL_areViews 21 = .ok (.goto 4, 3) := by decide +kernel
theorem dL_areViews_24 : decode cL_areViews 24 = .ok (.iconst 0, 1) := by decide +kernel
theorem dL_areViews_25 : decode cL_areViews 25 = .ok (.istore_n 2, 1) := by decide +kernel
theorem dL_areViews_26 : decode cL_areViews 26 = .ok (.iconst 0, 1) := by decide +kernel
theorem dL_areViews_27 : decode cL_areViews 27 = .ok (.istore_n 3, 1) := by decide +kernel
theorem dL_areViews_28 : decode cL_areViews 28 = .ok (.iload_n 3, 1) := by decide +kernel
theorem dL_areViews_29 : decode cL_areViews 29 = .ok (.bipush 6, 2) := by decide +kernel
theorem dL_areViews_31 : decode cL_areViews 31 = .ok (.if_icmp .ge 272, 3) := by decide +kernel
theorem dL_areViews_34 : decode cL_areViews 34 = .ok (.iload_n 2, 1) := by decide +kernel
theorem dL_areViews_35 : decode cL_areViews 35 = .ok (.ifCond .eq 268, 3) := by decide +kernel
theorem dL_areViews_38 : decode cL_areViews 38 = .ok (.aload_n 0, 1) := by decide +kernel
theorem dL_areViews_39 : decode cL_areViews 39 = .ok (.iload_n 3, 1) := by decide +kernel
theorem dL_areViews_40 : decode cL_areViews 40 = .ok (.invokevirtual 30, 3) := by decide +kernel
theorem dL_areViews_43 : decode cL_areViews 43 = .ok (.istore 4, 2) := by decide +kernel
theorem dL_areViews_45 : decode cL_areViews 45 = .ok (.iconst 0, 1) := by decide +kernel
theorem dL_areViews_46 : decode cL_areViews 46 = .ok (.istore 5, 2) := by decide +kernel
theorem dL_areViews_48 : decode cL_areViews 48 = .ok (.iload 4, 2) := by decide +kernel
theorem dL_areViews_50 : decode cL_areViews 50 = .ok (.aload_n 1, 1) := by decide +kernel
theorem dL_areViews_51 : decode cL_areViews 51 = .ok (.aload_n 0, 1) := by decide +kernel
theorem dL_areViews_52 : decode cL_areViews 52 = .ok (.iload_n 3, 1) := by decide +kernel
theorem dL_areViews_53 : decode cL_areViews 53 = .ok (.invokevirtual 16, 3) := by decide +kernel
theorem dL_areViews_56 : decode cL_areViews 56 = .ok (.invokestatic 33, 3) := by decide +kernel
theorem dL_areViews_59 : decode cL_areViews 59 = .ok (.iconst (-1), 1) := by decide +kernel
theorem dL_areViews_60 : decode cL_areViews 60 = .ok (.ixor, 1) := by decide +kernel
theorem dL_areViews_61 : decode cL_areViews 61 = .ok (.iand, 1) := by decide +kernel
theorem dL_areViews_62 : decode cL_areViews 62 = .ok (.ifCond .ne 29, 3) := by decide +kernel
theorem dL_areViews_65 : decode cL_areViews 65 = .ok (.aload_n 0, 1) := by decide +kernel
theorem dL_areViews_66 : decode cL_areViews 66 = .ok (.iload_n 3, 1) := by decide +kernel
theorem dL_areViews_67 : decode cL_areViews 67 = .ok (.invokevirtual 16, 3) := by decide +kernel
theorem dL_areViews_70 : decode cL_areViews 70 = .ok (.iload_n 3, 1) := by decide +kernel
theorem dL_areViews_71 : decode cL_areViews 71 = .ok (.ishr, 1) := by decide +kernel
theorem dL_areViews_72 : decode cL_areViews 72 = .ok (.iconst 1, 1) := by decide +kernel
theorem dL_areViews_73 : decode cL_areViews 73 = .ok (.iand, 1) := by decide +kernel
theorem dL_areViews_74 : decode cL_areViews 74 = .ok (.iconst 1, 1) := by decide +kernel
theorem dL_areViews_75 : decode cL_areViews 75 = .ok (.if_icmp .ne 16, 3) := by decide +kernel
theorem dL_areViews_78 : decode cL_areViews 78 = .ok (.aload_n 0, 1) := by decide +kernel
theorem dL_areViews_79 : decode cL_areViews 79 = .ok (.iload_n 3, 1) := by decide +kernel
theorem dL_areViews_80 : decode cL_areViews 80 = .ok (.iload_n 3, 1) := by decide +kernel
theorem dL_areViews_81 : decode cL_areViews 81 = .ok (.invokevirtual 61, 3) := by decide +kernel
theorem dL_areViews_84 : decode cL_areViews 84 = .ok (.ifCond .eq 7, 3) := by decide +kernel
theorem dL_areViews_87 : decode cL_areViews 87 = .ok (.iconst 1, 1) := by decide +kernel
theorem dL_areViews_88 : decode cL_areViews 88 = .ok (.goto 4, 3) := by decide +kernel
theorem dL_areViews_91 : decode cL_areViews 91 = .ok (.iconst 0, 1) := by decide +kernel
theorem dL_areViews_92 : decode cL_areViews 92 = .ok (.istore_n 2, 1) := by decide +kernel
theorem dL_areViews_93 : decode cL_areViews 93 = .ok (.iconst 0, 1) := by decide +kernel
theorem dL_areViews_94 : decode cL_areViews 94 = .ok (.istore 6, 2) := by decide +kernel
theorem dL_areViews_96 : decode cL_areViews 96 = .ok (.iload 6, 2) := by decide +kernel
theorem dL_areViews_98 : decode cL_areViews 98 = .ok (.aload_n 1, 1) := by decide +kernel
theorem dL_areViews_99 : decode cL_areViews 99 = .ok (.iconst 1, 1) := by decide +kernel
theorem dL_areViews_100 : decode cL_areViews 100 = .ok (.iaload, 1) := by decide +kernel
theorem dL_areViews_101 : decode cL_areViews 101 = .ok (.if_icmp .ge 59, 3) := by decide +kernel
theorem dL_areViews_104 : decode cL_areViews 104 = .ok (.iload_n 2, 1) := by decide +kernel
theorem dL_areViews_105 : decode cL_areViews 105 = .ok (.ifCond .eq 55, 3) := by decide +kernel
theorem dL_areViews_108 : decode cL_areViews 108 = .ok (.iload 4, 2) := by decide +kernel
theorem dL_areViews_110 : decode cL_areViews 110 = .ok (.iload 6, 2) := by decide +kernel
theorem dL_areViews_112 : decode cL_areViews 112 = .ok (.ishr, 1) := by decide +kernel
theorem dL_areViews_113 : decode cL_areViews 113 = .ok (.iconst 1, 1) := by decide +kernel
theorem dL_areViews_114 : decode cL_areViews 114 = .ok (.iand, 1) := by decide +kernel
theorem dL_areViews_115 : decode cL_areViews 115 = .ok (.iconst 1, 1) := by decide +kernel
theorem dL_areViews_116 : decode cL_areViews 116 = .ok (.if_icmp .ne 38, 3) := by decide +kernel
theorem dL_areViews_119 : decode cL_areViews 119 = .ok (.iload 5, 2) := by decide +kernel
theorem dL_areViews_121 : decode cL_areViews 121 = .ok (.aload_n 1, 1) := by decide +kernel
theorem dL_areViews_122 : decode cL_areViews 122 = .ok (.bipush 8, 2) := by decide +kernel
theorem dL_areViews_124 : decode cL_areViews 124 = .ok (.iload 6, 2) := by decide +kernel
theorem dL_areViews_126 : decode cL_areViews 126 = .ok (.iadd, 1) := by decide +kernel
theorem dL_areViews_127 : decode cL_areViews 127 = .ok (.iaload, 1) := by decide +kernel
theorem dL_areViews_128 : decode cL_areViews 128 = .ok (.ishr, 1) := by decide +kernel
theorem dL_areViews_129 : decode cL_areViews 129 = .ok (.iconst 1, 1) := by decide +kernel
theorem dL_areViews_130 : decode cL_areViews 130 = .ok (.iand, 1) := by decide +kernel
theorem dL_areViews_131 : decode cL_areViews 131 = .ok (.ifCond .ne 7, 3) := by decide +kernel
theorem dL_areViews_134 : decode cL_areViews 134 = .ok (.iconst 1, 1) := by decide +kernel
theorem dL_areViews_135 : decode cL_areViews 135 = .ok (.goto 4, 3) := by decide +kernel
theorem dL_areViews_138 : decode cL_areViews 138 = .ok (.iconst 0, 1) := by decide +kernel
theorem dL_areViews_139 : decode cL_areViews 139 = .ok (.istore_n 2, 1) := by decide +kernel
theorem dL_areViews_140 : decode cL_areViews 140 = .ok (.iload 5, 2) := by decide +kernel
theorem dL_areViews_142 : decode cL_areViews 142 = .ok (.iconst 1, 1) := by decide +kernel
theorem dL_areViews_143 : decode cL_areViews 143 = .ok (.aload_n 1, 1) := by decide +kernel
theorem dL_areViews_144 : decode cL_areViews 144 = .ok (.bipush 8, 2) := by decide +kernel
theorem dL_areViews_146 : decode cL_areViews 146 = .ok (.iload 6, 2) := by decide +kernel
theorem dL_areViews_148 : decode cL_areViews 148 = .ok (.iadd, 1) := by decide +kernel
theorem dL_areViews_149 : decode cL_areViews 149 = .ok (.iaload, 1) := by decide +kernel
theorem dL_areViews_150 : decode cL_areViews 150 = .ok (.ishl, 1) := by decide +kernel
theorem dL_areViews_151 : decode cL_areViews 151 = .ok (.ior, 1) := by decide +kernel
theorem dL_areViews_152 : decode cL_areViews 152 = .ok (.istore 5, 2) := by decide +kernel
theorem dL_areViews_154 : decode cL_areViews 154 = .ok (.iinc 6 1, 3) := by decide +kernel
theorem dL_areViews_157 : decode cL_areViews 157 = .ok (.goto (-61), 3) := by decide +kernel
theorem dL_areViews_160 : decode cL_areViews 160 = .ok (.iconst 0, 1) := by decide +kernel
theorem dL_areViews_161 : decode cL_areViews 161 = .ok (.istore 6, 2) := by decide +kernel
theorem dL_areViews_163 : decode cL_areViews 163 = .ok (.iload 6, 2) := by decide +kernel
theorem dL_areViews_165 : decode cL_areViews 165 = .ok (.iconst 4, 1) := by decide +kernel
theorem dL_areViews_166 : decode cL_areViews 166 = .ok (.if_icmp .ge 131, 3) := by decide +kernel
theorem dL_areViews_169 : decode cL_areViews 169 = .ok (.iload_n 2, 1) := by decide +kernel
theorem dL_areViews_170 : decode cL_areViews 170 = .ok (.ifCond .eq 127, 3) := by decide +kernel
theorem dL_areViews_173 : decode cL_areViews 173 = .ok (.aload_n 0, 1) := by decide +kernel
theorem dL_areViews_174 : decode cL_areViews 174 = .ok (.iload_n 3, 1) := by decide +kernel
theorem dL_areViews_175 : decode cL_areViews 175 = .ok (.iload 6, 2) := by decide +kernel
theorem dL_areViews_177 : decode cL_areViews 177 = .ok (.invokevirtual 88, 3) := by decide +kernel
theorem dL_areViews_180 : decode cL_areViews 180 = .ok (.istore 7, 2) := by decide +kernel
theorem dL_areViews_182 : decode cL_areViews 182 = .ok (.iload 7, 2) := by decide +kernel
theorem dL_areViews_184 : decode cL_areViews 184 = .ok (.ifCond .eq 7, 3) := by decide +kernel
theorem dL_areViews_187 : decode cL_areViews 187 = .ok (.iconst 1, 1) := by decide +kernel
theorem dL_areViews_188 : decode cL_areViews 188 = .ok (.goto 4, 3) := by decide +kernel
theorem dL_areViews_191 : decode cL_areViews 191 = .ok (.iconst 0, 1) := by decide +kernel
theorem dL_areViews_192 : decode cL_areViews 192 = .ok (.istore 8, 2) := by decide +kernel
theorem dL_areViews_194 : decode cL_areViews 194 = .ok (.iload 7, 2) := by decide +kernel
theorem dL_areViews_196 : decode cL_areViews 196 = .ok (.iload 4, 2) := by decide +kernel
theorem dL_areViews_198 : decode cL_areViews 198 = .ok (.iconst (-1), 1) := by decide +kernel
theorem dL_areViews_199 : decode cL_areViews 199 = .ok (.ixor, 1) := by decide +kernel
theorem dL_areViews_200 : decode cL_areViews 200 = .ok (.iand, 1) := by decide +kernel
theorem dL_areViews_201 : decode cL_areViews 201 = .ok (.ifCond .ne 88, 3) := by decide +kernel
theorem dL_areViews_204 : decode cL_areViews 204 = .ok (.aload_n 0, 1) := by decide +kernel
theorem dL_areViews_205 : decode cL_areViews 205 = .ok (.iload_n 3, 1) := by decide +kernel
theorem dL_areViews_206 : decode cL_areViews 206 = .ok (.iload 6, 2) := by decide +kernel
theorem dL_areViews_208 : decode cL_areViews 208 = .ok (.invokevirtual 68, 3) := by decide +kernel
theorem dL_areViews_211 : decode cL_areViews 211 = .ok (.iconst (-1), 1) := by decide +kernel
theorem dL_areViews_212 : decode cL_areViews 212 = .ok (.if_icmp .eq 7, 3) := by decide +kernel
theorem dL_areViews_215 : decode cL_areViews 215 = .ok (.iconst 1, 1) := by decide +kernel
theorem dL_areViews_216 : decode cL_areViews 216 = .ok (.goto 4, 3) := by decide +kernel
theorem dL_areViews_219 : decode cL_areViews 219 = .ok (.iconst 0, 1) := by decide +kernel
theorem dL_areViews_220 : decode cL_areViews 220 = .ok (.iload 8, 2) := by decide +kernel
theorem dL_areViews_222 : decode cL_areViews 222 = .ok (.if_icmp .ne 67, 3) := by decide +kernel
theorem dL_areViews_225 : decode cL_areViews 225 = .ok (.aload_n 0, 1) := by decide +kernel
theorem dL_areViews_226 : decode cL_areViews 226 = .ok (.iload_n 3, 1) := by decide +kernel
theorem dL_areViews_227 : decode cL_areViews 227 = .ok (.iload 6, 2) := by decide +kernel
theorem dL_areViews_229 : decode cL_areViews 229 = .ok (.invokevirtual 103, 3) := by decide +kernel
theorem dL_areViews_232 : decode cL_areViews 232 = .ok (.iconst (-1), 1) := by decide +kernel
theorem dL_areViews_233 : decode cL_areViews 233 = .ok (.if_icmp .eq 7, 3) := by decide +kernel
theorem dL_areViews_236 : decode cL_areViews 236 = .ok (.iconst 1, 1) := by decide +kernel
theorem dL_areViews_237 : decode cL_areViews 237 = .ok (.goto 4, 3) := by decide +kernel
theorem dL_areViews_240 : decode cL_areViews 240 = .ok (.iconst 0, 1) := by decide +kernel
theorem dL_areViews_241 : decode cL_areViews 241 = .ok (.iload 8, 2) := by decide +kernel
theorem dL_areViews_243 : decode cL_areViews 243 = .ok (.if_icmp .ne 46, 3) := by decide +kernel
theorem dL_areViews_246 : decode cL_areViews 246 = .ok (.aload_n 0, 1) := by decide +kernel
theorem dL_areViews_247 : decode cL_areViews 247 = .ok (.iload_n 3, 1) := by decide +kernel
theorem dL_areViews_248 : decode cL_areViews 248 = .ok (.iload 6, 2) := by decide +kernel
theorem dL_areViews_250 : decode cL_areViews 250 = .ok (.invokevirtual 91, 3) := by decide +kernel
theorem dL_areViews_253 : decode cL_areViews 253 = .ok (.iconst (-1), 1) := by decide +kernel
theorem dL_areViews_254 : decode cL_areViews 254 = .ok (.if_icmp .eq 7, 3) := by decide +kernel
theorem dL_areViews_257 : decode cL_areViews 257 = .ok (.iconst 1, 1) := by decide +kernel
theorem dL_areViews_258 : decode cL_areViews 258 = .ok (.goto 4, 3) := by decide +kernel
theorem dL_areViews_261 : decode cL_areViews 261 = .ok (.iconst 0, 1) := by decide +kernel
theorem dL_areViews_262 : decode cL_areViews 262 = .ok (.iload 8, 2) := by decide +kernel
theorem dL_areViews_264 : decode cL_areViews 264 = .ok (.if_icmp .ne 25, 3) := by decide +kernel
theorem dL_areViews_267 : decode cL_areViews 267 = .ok (.aload_n 0, 1) := by decide +kernel
theorem dL_areViews_268 : decode cL_areViews 268 = .ok (.iload_n 3, 1) := by decide +kernel
theorem dL_areViews_269 : decode cL_areViews 269 = .ok (.iload_n 3, 1) := by decide +kernel
theorem dL_areViews_270 : decode cL_areViews 270 = .ok (.iload 6, 2) := by decide +kernel
theorem dL_areViews_272 : decode cL_areViews 272 = .ok (.invokevirtual 118, 3) := by decide +kernel
theorem dL_areViews_275 : decode cL_areViews 275 = .ok (.aload_n 0, 1) := by decide +kernel
theorem dL_areViews_276 : decode cL_areViews 276 = .ok (.iload_n 3, 1) := by decide +kernel
theorem dL_areViews_277 : decode cL_areViews 277 = .ok (.iload 6, 2) := by decide +kernel
theorem dL_areViews_279 : decode cL_areViews 279 = .ok (.invokevirtual 103, 3) := by decide +kernel
theorem dL_areViews_282 : decode cL_areViews 282 = .ok (.if_icmp .ne 7, 3) := by decide +kernel
theorem dL_areViews_285 : decode cL_areViews 285 = .ok (.iconst 1, 1) := by decide +kernel
theorem dL_areViews_286 : decode cL_areViews 286 = .ok (.goto 4, 3) := by decide +kernel
theorem dL_areViews_289 : decode cL_areViews 289 = .ok (.iconst 0, 1) := by decide +kernel
theorem dL_areViews_290 : decode cL_areViews 290 = .ok (.istore_n 2, 1) := by decide +kernel
theorem dL_areViews_291 : decode cL_areViews 291 = .ok (.iinc 6 1, 3) := by decide +kernel
theorem dL_areViews_294 : decode cL_areViews 294 = .ok (.goto (-131), 3) := by decide +kernel
theorem dL_areViews_297 : decode cL_areViews 297 = .ok (.iinc 3 1, 3) := by decide +kernel
theorem dL_areViews_300 : decode cL_areViews 300 = .ok (.goto (-272), 3) := by decide +kernel
theorem dL_areViews_303 : decode cL_areViews 303 = .ok (.iload_n 2, 1) := by decide +kernel
theorem dL_areViews_304 : decode cL_areViews 304 = .ok (.ireturn, 1) := by decide +kernel
theorem dL_areQuiet_0 : decode cL_areQuiet 0 = .ok (.iconst 1, 1) := by decide +kernel
theorem dL_areQuiet_1 : decode cL_areQuiet 1 = .ok (.istore_n 2, 1) := by decide +kernel
theorem dL_areQuiet_2 : decode cL_areQuiet 2 = .ok (.iconst 0, 1) := by decide +kernel
theorem dL_areQuiet_3 : decode cL_areQuiet 3 = .ok (.istore_n 3, 1) := by decide +kernel
theorem dL_areQuiet_4 : decode cL_areQuiet 4 = .ok (.iload_n 3, 1) := by decide +kernel
theorem dL_areQuiet_5 : decode cL_areQuiet 5 = .ok (.aload_n 1, 1) := by decide +kernel
theorem dL_areQuiet_6 : decode cL_areQuiet 6 = .ok (.iconst 1, 1) := by decide +kernel
theorem dL_areQuiet_7 : decode cL_areQuiet 7 = .ok (.iaload, 1) := by decide +kernel
theorem dL_areQuiet_8 : decode cL_areQuiet 8 = .ok (.if_icmp .ge 87, 3) := by decide +kernel
theorem dL_areQuiet_11 : decode cL_areQuiet 11 = .ok (.iload_n 2, 1) := by decide +kernel
theorem dL_areQuiet_12 : decode cL_areQuiet 12 = .ok (.ifCond .eq 83, 3) := by decide +kernel
theorem dL_areQuiet_15 : decode cL_areQuiet 15 = .ok (.aload_n 1, 1) := by decide +kernel
theorem dL_areQuiet_16 : decode cL_areQuiet 16 = .ok (.bipush 28, 2) := by decide +kernel
theorem dL_areQuiet_18 : decode cL_areQuiet 18 = .ok (.iload_n 3, 1) := by decide +kernel
theorem dL_areQuiet_19 : decode cL_areQuiet 19 = .ok (.iadd, 1) := by decide +kernel
theorem dL_areQuiet_20 : decode cL_areQuiet 20 = .ok (.iaload, 1) := by decide +kernel
theorem dL_areQuiet_21 : decode cL_areQuiet 21 = .ok (.istore 4, 2) := by decide +kernel
theorem dL_areQuiet_23 : decode cL_areQuiet 23 = .ok (.iconst 0, 1) := by decide +kernel
theorem dL_areQuiet_24 : decode cL_areQuiet 24 = .ok (.istore 5, 2) := by decide +kernel
theorem dL_areQuiet_26 : decode cL_areQuiet 26 = .ok (.iload 5, 2) := by decide +kernel
theorem dL_areQuiet_28 : decode cL_areQuiet 28 = .ok (.bipush 6, 2) := by decide +kernel
theorem dL_areQuiet_30 : decode cL_areQuiet 30 = .ok (.if_icmp .ge 59, 3) := by decide +kernel
theorem dL_areQuiet_33 : decode cL_areQuiet 33 = .ok (.iload_n 2, 1) := by decide +kernel
theorem dL_areQuiet_34 : decode cL_areQuiet 34 = .ok (.ifCond .eq 55, 3) := by decide +kernel
theorem dL_areQuiet_37 : decode cL_areQuiet 37 = .ok (.aload_n 0, 1) := by decide +kernel
theorem dL_areQuiet_38 : decode cL_areQuiet 38 = .ok (.iload 4, 2) := by decide +kernel
theorem dL_areQuiet_40 : decode cL_areQuiet 40 = .ok (.invokevirtual 16, 3) := by decide +kernel
theorem dL_areQuiet_43 : decode cL_areQuiet 43 = .ok (.iload 5, 2) := by decide +kernel
theorem dL_areQuiet_45 : decode cL_areQuiet 45 = .ok (.ishr, 1) := by decide +kernel
theorem dL_areQuiet_46 : decode cL_areQuiet 46 = .ok (.iconst 1, 1) := by decide +kernel
theorem dL_areQuiet_47 : decode cL_areQuiet 47 = .ok (.iand, 1) := by decide +kernel
theorem dL_areQuiet_48 : decode cL_areQuiet 48 = .ok (.iconst 1, 1) := by decide +kernel
theorem dL_areQuiet_49 : decode cL_areQuiet 49 = .ok (.if_icmp .ne 7, 3) := by decide +kernel
theorem dL_areQuiet_52 : decode cL_areQuiet 52 = .ok (.iconst 1, 1) := by decide +kernel
theorem dL_areQuiet_53 : decode cL_areQuiet 53 = .ok (.goto 4, 3) := by decide +kernel
theorem dL_areQuiet_56 : decode cL_areQuiet 56 = .ok (.iconst 0, 1) := by decide +kernel
theorem dL_areQuiet_57 : decode cL_areQuiet 57 = .ok (.istore 6, 2) := by decide +kernel
theorem dL_areQuiet_59 : decode cL_areQuiet 59 = .ok (.iload 6, 2) := by decide +kernel
theorem dL_areQuiet_61 : decode cL_areQuiet 61 = .ok (.ifCond .ne 16, 3) := by decide +kernel
theorem dL_areQuiet_64 : decode cL_areQuiet 64 = .ok (.aload_n 0, 1) := by decide +kernel
theorem dL_areQuiet_65 : decode cL_areQuiet 65 = .ok (.iload 5, 2) := by decide +kernel
theorem dL_areQuiet_67 : decode cL_areQuiet 67 = .ok (.invokevirtual 30, 3) := by decide +kernel
theorem dL_areQuiet_70 : decode cL_areQuiet 70 = .ok (.iload_n 3, 1) := by decide +kernel
theorem dL_areQuiet_71 : decode cL_areQuiet 71 = .ok (.ishr, 1) := by decide +kernel
theorem dL_areQuiet_72 : decode cL_areQuiet 72 = .ok (.iconst 1, 1) := by decide +kernel
theorem dL_areQuiet_73 : decode cL_areQuiet 73 = .ok (.iand, 1) := by decide +kernel
theorem dL_areQuiet_74 : decode cL_areQuiet 74 = .ok (.ifCond .ne 7, 3) := by decide +kernel
theorem dL_areQuiet_77 : decode cL_areQuiet 77 = .ok (.iconst 1, 1) := by decide +kernel
theorem dL_areQuiet_78 : decode cL_areQuiet 78 = .ok (.goto 4, 3) := by decide +kernel
theorem dL_areQuiet_81 : decode cL_areQuiet 81 = .ok (.iconst 0, 1) := by decide +kernel
theorem dL_areQuiet_82 : decode cL_areQuiet 82 = .ok (.istore_n 2, 1) := by decide +kernel
theorem dL_areQuiet_83 : decode cL_areQuiet 83 = .ok (.iinc 5 1, 3) := by decide +kernel
theorem dL_areQuiet_86 : decode cL_areQuiet 86 = .ok (.goto (-60), 3) := by decide +kernel
theorem dL_areQuiet_89 : decode cL_areQuiet 89 = .ok (.iinc 3 1, 3) := by decide +kernel
theorem dL_areQuiet_92 : decode cL_areQuiet 92 = .ok (.goto (-88), 3) := by decide +kernel
theorem dL_areQuiet_95 : decode cL_areQuiet 95 = .ok (.iload_n 2, 1) := by decide +kernel
theorem dL_areQuiet_96 : decode cL_areQuiet 96 = .ok (.ireturn, 1) := by decide +kernel
theorem dL_law_0 : decode cL_law 0 = .ok (.new 17, 3) := by decide +kernel
theorem dL_law_3 : decode cL_law 3 = .ok (.dup, 1) := by decide +kernel
theorem dL_law_4 : decode cL_law 4 = .ok (.invokespecial 122, 3) := by decide +kernel
theorem dL_law_7 : decode cL_law 7 = .ok (.astore_n 1, 1) := by decide +kernel
theorem dL_law_8 : decode cL_law 8 = .ok (.bipush 48, 2) := by decide +kernel
theorem dL_law_10 : decode cL_law 10 = .ok (.newarray .int, 2) := by decide +kernel
theorem dL_law_12 : decode cL_law 12 = .ok (.astore_n 2, 1) := by decide +kernel
theorem dL_law_13 : decode cL_law 13 = .ok (.aload_n 1, 1) := by decide +kernel
theorem dL_law_14 : decode cL_law 14 = .ok (.invokevirtual 54, 3) := by decide +kernel
theorem dL_law_17 : decode cL_law 17 = .ok (.ifCond .ne 31, 3) := by decide +kernel
theorem dL_law_20 : decode cL_law 20 = .ok (.aload_n 1, 1) := by decide +kernel
theorem dL_law_21 : decode cL_law 21 = .ok (.invokevirtual 74, 3) := by decide +kernel
theorem dL_law_24 : decode cL_law 24 = .ok (.ifCond .ne 24, 3) := by decide +kernel
theorem dL_law_27 : decode cL_law 27 = .ok (.aload_n 1, 1) := by decide +kernel
theorem dL_law_28 : decode cL_law 28 = .ok (.invokevirtual 22, 3) := by decide +kernel
theorem dL_law_31 : decode cL_law 31 = .ok (.ifCond .ne 17, 3) := by decide +kernel
theorem dL_law_34 : decode cL_law 34 = .ok (.aload_n 1, 1) := by decide +kernel
theorem dL_law_35 : decode cL_law 35 = .ok (.iconst 3, 1) := by decide +kernel
theorem dL_law_36 : decode cL_law 36 = .ok (.invokevirtual 16, 3) := by decide +kernel
theorem dL_law_39 : decode cL_law 39 = .ok (.bipush 8, 2) := by decide +kernel
theorem dL_law_41 : decode cL_law 41 = .ok (.if_icmp .ne 7, 3) := by decide +kernel
theorem dL_law_44 : decode cL_law 44 = .ok (.iconst 1, 1) := by decide +kernel
theorem dL_law_45 : decode cL_law 45 = .ok (.goto 4, 3) := by decide +kernel
theorem dL_law_48 : decode cL_law 48 = .ok (.iconst 0, 1) := by decide +kernel
theorem dL_law_49 : decode cL_law 49 = .ok (.istore_n 3, 1) := by decide +kernel
theorem dL_law_50 : decode cL_law 50 = .ok (.aload_n 0, 1) := by decide +kernel
theorem dL_law_51 : decode cL_law 51 = .ok (.arraylength, 1) := by decide +kernel
theorem dL_law_52 : decode cL_law 52 = .ok (.iconst 3, 1) := by decide +kernel
theorem dL_law_53 : decode cL_law 53 = .ok (.idiv, 1) := by decide +kernel
theorem dL_law_54 : decode cL_law 54 = .ok (.bipush 90, 2) := by decide +kernel
theorem dL_law_56 : decode cL_law 56 = .ok (.if_icmp .le 8, 3) := by decide +kernel
theorem dL_law_59 : decode cL_law 59 = .ok (.bipush 90, 2) := by decide +kernel
theorem dL_law_61 : decode cL_law 61 = .ok (.goto 7, 3) := by decide +kernel
theorem dL_law_64 : decode cL_law 64 = .ok (.aload_n 0, 1) := by decide +kernel
theorem dL_law_65 : decode cL_law 65 = .ok (.arraylength, 1) := by decide +kernel
theorem dL_law_66 : decode cL_law 66 = .ok (.iconst 3, 1) := by decide +kernel
theorem dL_law_67 : decode cL_law 67 = .ok (.idiv, 1) := by decide +kernel
theorem dL_law_68 : decode cL_law 68 = .ok (.istore 4, 2) := by decide +kernel
theorem dL_law_70 : decode cL_law 70 = .ok (.iconst 0, 1) := by decide +kernel
theorem dL_law_71 : decode cL_law 71 = .ok (.istore 5, 2) := by decide +kernel
theorem dL_law_73 : decode cL_law 73 = .ok (.iload 5, 2) := by decide +kernel
theorem dL_law_75 : decode cL_law 75 = .ok (.iload 4, 2) := by decide +kernel
theorem dL_law_77 : decode cL_law 77 = .ok (.if_icmp .ge 71, 3) := by decide +kernel
theorem dL_law_80 : decode cL_law 80 = .ok (.iload_n 3, 1) := by decide +kernel
theorem dL_law_81 : decode cL_law 81 = .ok (.ifCond .eq 67, 3) := by decide +kernel
theorem dL_law_84 : decode cL_law 84 = .ok (.aload_n 1, 1) := by decide +kernel
theorem dL_law_85 : decode cL_law 85 = .ok (.aload_n 2, 1) := by decide +kernel
theorem dL_law_86 : decode cL_law 86 = .ok (.aload_n 0, 1) := by decide +kernel
theorem dL_law_87 : decode cL_law 87 = .ok (.iconst 3, 1) := by decide +kernel
theorem dL_law_88 : decode cL_law 88 = .ok (.iload 5, 2) := by decide +kernel
theorem dL_law_90 : decode cL_law 90 = .ok (.imul, 1) := by decide +kernel
theorem dL_law_91 : decode cL_law 91 = .ok (.invokestatic 123, 3) := by decide +kernel
theorem dL_law_94 : decode cL_law 94 = .ok (.aload_n 0, 1) := by decide +kernel
theorem dL_law_95 : decode cL_law 95 = .ok (.iconst 3, 1) := by decide +kernel
theorem dL_law_96 : decode cL_law 96 = .ok (.iload 5, 2) := by decide +kernel
theorem dL_law_98 : decode cL_law 98 = .ok (.imul, 1) := by decide +kernel
theorem dL_law_99 : decode cL_law 99 = .ok (.iconst 1, 1) := by decide +kernel
theorem dL_law_100 : decode cL_law 100 = .ok (.iadd, 1) := by decide +kernel
theorem dL_law_101 : decode cL_law 101 = .ok (.invokestatic 123, 3) := by decide +kernel
theorem dL_law_104 : decode cL_law 104 = .ok (.aload_n 0, 1) := by decide +kernel
theorem dL_law_105 : decode cL_law 105 = .ok (.iconst 3, 1) := by decide +kernel
theorem dL_law_106 : decode cL_law 106 = .ok (.iload 5, 2) := by decide +kernel
theorem dL_law_108 : decode cL_law 108 = .ok (.imul, 1) := by decide +kernel
theorem dL_law_109 : decode cL_law 109 = .ok (.iconst 2, 1) := by decide +kernel
theorem dL_law_110 : decode cL_law 110 = .ok (.iadd, 1) := by decide +kernel
theorem dL_law_111 : decode cL_law 111 = .ok (.invokestatic 123, 3) := by decide +kernel
theorem dL_law_114 : decode cL_law 114 = .ok (.invokestatic 126, 3) := by decide +kernel
theorem dL_law_117 : decode cL_law 117 = .ok (.ifCond .eq 23, 3) := by decide +kernel
theorem dL_law_120 : decode cL_law 120 = .ok (.iload 5, 2) := by decide +kernel
theorem dL_law_122 : decode cL_law 122 = .ok (.iconst 3, 1) := by decide +kernel
theorem dL_law_123 : decode cL_law 123 = .ok (.irem, 1) := by decide +kernel
theorem dL_law_124 : decode cL_law 124 = .ok (.iconst 2, 1) := by decide +kernel
theorem dL_law_125 : decode cL_law 125 = .ok (.if_icmp .lt 11, 3) := by decide +kernel
theorem dL_law_128 : decode cL_law 128 = .ok (.aload_n 1, 1) := by decide +kernel
theorem dL_law_129 : decode cL_law 129 = .ok (.aload_n 2, 1) := by decide +kernel
theorem dL_law_130 : decode cL_law 130 = .ok (.invokestatic 130, 3) := by decide +kernel
theorem dL_law_133 : decode cL_law 133 = .ok (.ifCond .eq 7, 3) := by decide +kernel
theorem dL_law_136 : decode cL_law 136 = .ok (.iconst 1, 1) := by decide +kernel
theorem dL_law_137 : decode cL_law 137 = .ok (.goto 4, 3) := by decide +kernel
theorem dL_law_140 : decode cL_law 140 = .ok (.iconst 0, 1) := by decide +kernel
theorem dL_law_141 : decode cL_law 141 = .ok (.istore_n 3, 1) := by decide +kernel
theorem dL_law_142 : decode cL_law 142 = .ok (.iinc 5 1, 3) := by decide +kernel
theorem dL_law_145 : decode cL_law 145 = .ok (.goto (-72), 3) := by decide +kernel
theorem dL_law_148 : decode cL_law 148 = .ok (.iload_n 3, 1) := by decide +kernel
theorem dL_law_149 : decode cL_law 149 = .ok (.ireturn, 1) := by decide +kernel
