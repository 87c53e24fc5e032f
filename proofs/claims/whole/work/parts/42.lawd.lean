abbrev c_L_law : ByteArray := code
theorem d_L_law_0 : decode c_L_law 0 = .ok (.new 8, 3) := by decide +kernel
theorem d_L_law_3 : decode c_L_law 3 = .ok (.dup, 1) := by decide +kernel
theorem d_L_law_4 : decode c_L_law 4 = .ok (.invokespecial 70, 3) := by decide +kernel
theorem d_L_law_7 : decode c_L_law 7 = .ok (.astore_n 1, 1) := by decide +kernel
theorem d_L_law_8 : decode c_L_law 8 = .ok (.new 71, 3) := by decide +kernel
theorem d_L_law_11 : decode c_L_law 11 = .ok (.dup, 1) := by decide +kernel
theorem d_L_law_12 : decode c_L_law 12 = .ok (.invokespecial 73, 3) := by decide +kernel
theorem d_L_law_15 : decode c_L_law 15 = .ok (.astore_n 2, 1) := by decide +kernel
theorem d_L_law_16 : decode c_L_law 16 = .ok (.iconst 1, 1) := by decide +kernel
theorem d_L_law_17 : decode c_L_law 17 = .ok (.newarray .long, 2) := by decide +kernel
theorem d_L_law_19 : decode c_L_law 19 = .ok (.astore_n 3, 1) := by decide +kernel
theorem d_L_law_20 : decode c_L_law 20 = .ok (.iconst 0, 1) := by decide +kernel
theorem d_L_law_21 : decode c_L_law 21 = .ok (.istore 4, 2) := by decide +kernel
theorem d_L_law_23 : decode c_L_law 23 = .ok (.iload 4, 2) := by decide +kernel
theorem d_L_law_25 : decode c_L_law 25 = .ok (.aload_n 0, 1) := by decide +kernel
theorem d_L_law_26 : decode c_L_law 26 = .ok (.arraylength, 1) := by decide +kernel
theorem d_L_law_27 : decode c_L_law 27 = .ok (.bipush 8, 2) := by decide +kernel
theorem d_L_law_29 : decode c_L_law 29 = .ok (.isub, 1) := by decide +kernel
theorem d_L_law_30 : decode c_L_law 30 = .ok (.if_icmp .gt 1990, 3) := by decide +kernel
theorem d_L_law_33 : decode c_L_law 33 = .ok (.aload_n 0, 1) := by decide +kernel
theorem d_L_law_34 : decode c_L_law 34 = .ok (.iload 4, 2) := by decide +kernel
theorem d_L_law_36 : decode c_L_law 36 = .ok (.iaload, 1) := by decide +kernel
theorem d_L_law_37 : decode c_L_law 37 = .ok (.bipush 31, 2) := by decide +kernel
theorem d_L_law_39 : decode c_L_law 39 = .ok (.iand, 1) := by decide +kernel
theorem d_L_law_124 : decode c_L_law 124 = .ok (.aload_n 1, 1) := by decide +kernel
theorem d_L_law_125 : decode c_L_law 125 = .ok (.invokevirtual 74, 3) := by decide +kernel
theorem d_L_law_128 : decode c_L_law 128 = .ok (.aload_n 2, 1) := by decide +kernel
theorem d_L_law_129 : decode c_L_law 129 = .ok (.invokevirtual 78, 3) := by decide +kernel
theorem d_L_law_132 : decode c_L_law 132 = .ok (.if_icmp .eq 1882, 3) := by decide +kernel
theorem d_L_law_135 : decode c_L_law 135 = .ok (.iconst 0, 1) := by decide +kernel
theorem d_L_law_136 : decode c_L_law 136 = .ok (.ireturn, 1) := by decide +kernel
theorem d_L_law_137 : decode c_L_law 137 = .ok (.aload_n 1, 1) := by decide +kernel
theorem d_L_law_138 : decode c_L_law 138 = .ok (.aload_n 0, 1) := by decide +kernel
theorem d_L_law_139 : decode c_L_law 139 = .ok (.iload 4, 2) := by decide +kernel
theorem d_L_law_141 : decode c_L_law 141 = .ok (.iconst 1, 1) := by decide +kernel
theorem d_L_law_142 : decode c_L_law 142 = .ok (.iadd, 1) := by decide +kernel
theorem d_L_law_143 : decode c_L_law 143 = .ok (.iaload, 1) := by decide +kernel
theorem d_L_law_144 : decode c_L_law 144 = .ok (.aload_n 0, 1) := by decide +kernel
theorem d_L_law_145 : decode c_L_law 145 = .ok (.iload 4, 2) := by decide +kernel
theorem d_L_law_147 : decode c_L_law 147 = .ok (.iconst 2, 1) := by decide +kernel
theorem d_L_law_148 : decode c_L_law 148 = .ok (.iadd, 1) := by decide +kernel
theorem d_L_law_149 : decode c_L_law 149 = .ok (.iaload, 1) := by decide +kernel
theorem d_L_law_150 : decode c_L_law 150 = .ok (.aload_n 0, 1) := by decide +kernel
theorem d_L_law_151 : decode c_L_law 151 = .ok (.iload 4, 2) := by decide +kernel
theorem d_L_law_153 : decode c_L_law 153 = .ok (.iconst 3, 1) := by decide +kernel
theorem d_L_law_154 : decode c_L_law 154 = .ok (.iadd, 1) := by decide +kernel
theorem d_L_law_155 : decode c_L_law 155 = .ok (.iaload, 1) := by decide +kernel
theorem d_L_law_156 : decode c_L_law 156 = .ok (.i2l, 1) := by decide +kernel
theorem d_L_law_157 : decode c_L_law 157 = .ok (.bipush 32, 2) := by decide +kernel
theorem d_L_law_159 : decode c_L_law 159 = .ok (.lshl, 1) := by decide +kernel
theorem d_L_law_160 : decode c_L_law 160 = .ok (.aload_n 0, 1) := by decide +kernel
theorem d_L_law_161 : decode c_L_law 161 = .ok (.iload 4, 2) := by decide +kernel
theorem d_L_law_163 : decode c_L_law 163 = .ok (.iconst 4, 1) := by decide +kernel
theorem d_L_law_164 : decode c_L_law 164 = .ok (.iadd, 1) := by decide +kernel
theorem d_L_law_165 : decode c_L_law 165 = .ok (.iaload, 1) := by decide +kernel
theorem d_L_law_166 : decode c_L_law 166 = .ok (.i2l, 1) := by decide +kernel
theorem d_L_law_167 : decode c_L_law 167 = .ok (.ldc2_w 79, 3) := by decide +kernel
theorem d_L_law_170 : decode c_L_law 170 = .ok (.land, 1) := by decide +kernel
theorem d_L_law_171 : decode c_L_law 171 = .ok (.lor, 1) := by decide +kernel
theorem d_L_law_172 : decode c_L_law 172 = .ok (.aload_n 0, 1) := by decide +kernel
theorem d_L_law_173 : decode c_L_law 173 = .ok (.iload 4, 2) := by decide +kernel
theorem d_L_law_175 : decode c_L_law 175 = .ok (.iconst 5, 1) := by decide +kernel
theorem d_L_law_176 : decode c_L_law 176 = .ok (.iadd, 1) := by decide +kernel
theorem d_L_law_177 : decode c_L_law 177 = .ok (.iaload, 1) := by decide +kernel
theorem d_L_law_178 : decode c_L_law 178 = .ok (.i2l, 1) := by decide +kernel
theorem d_L_law_179 : decode c_L_law 179 = .ok (.bipush 32, 2) := by decide +kernel
theorem d_L_law_181 : decode c_L_law 181 = .ok (.lshl, 1) := by decide +kernel
theorem d_L_law_182 : decode c_L_law 182 = .ok (.aload_n 0, 1) := by decide +kernel
theorem d_L_law_183 : decode c_L_law 183 = .ok (.iload 4, 2) := by decide +kernel
theorem d_L_law_185 : decode c_L_law 185 = .ok (.bipush 6, 2) := by decide +kernel
theorem d_L_law_187 : decode c_L_law 187 = .ok (.iadd, 1) := by decide +kernel
theorem d_L_law_188 : decode c_L_law 188 = .ok (.iaload, 1) := by decide +kernel
theorem d_L_law_189 : decode c_L_law 189 = .ok (.i2l, 1) := by decide +kernel
theorem d_L_law_190 : decode c_L_law 190 = .ok (.ldc2_w 79, 3) := by decide +kernel
theorem d_L_law_193 : decode c_L_law 193 = .ok (.land, 1) := by decide +kernel
theorem d_L_law_194 : decode c_L_law 194 = .ok (.lor, 1) := by decide +kernel
theorem d_L_law_195 : decode c_L_law 195 = .ok (.aload_n 3, 1) := by decide +kernel
theorem d_L_law_196 : decode c_L_law 196 = .ok (.invokestatic 81, 3) := by decide +kernel
theorem d_L_law_199 : decode c_L_law 199 = .ok (.istore 5, 2) := by decide +kernel
theorem d_L_law_201 : decode c_L_law 201 = .ok (.aload_n 2, 1) := by decide +kernel
theorem d_L_law_202 : decode c_L_law 202 = .ok (.aload_n 0, 1) := by decide +kernel
theorem d_L_law_203 : decode c_L_law 203 = .ok (.iload 4, 2) := by decide +kernel
theorem d_L_law_205 : decode c_L_law 205 = .ok (.iconst 1, 1) := by decide +kernel
theorem d_L_law_206 : decode c_L_law 206 = .ok (.iadd, 1) := by decide +kernel
theorem d_L_law_207 : decode c_L_law 207 = .ok (.iaload, 1) := by decide +kernel
theorem d_L_law_208 : decode c_L_law 208 = .ok (.aload_n 0, 1) := by decide +kernel
theorem d_L_law_209 : decode c_L_law 209 = .ok (.iload 4, 2) := by decide +kernel
theorem d_L_law_211 : decode c_L_law 211 = .ok (.iconst 2, 1) := by decide +kernel
theorem d_L_law_212 : decode c_L_law 212 = .ok (.iadd, 1) := by decide +kernel
theorem d_L_law_213 : decode c_L_law 213 = .ok (.iaload, 1) := by decide +kernel
theorem d_L_law_214 : decode c_L_law 214 = .ok (.aload_n 0, 1) := by decide +kernel
theorem d_L_law_215 : decode c_L_law 215 = .ok (.iload 4, 2) := by decide +kernel
theorem d_L_law_217 : decode c_L_law 217 = .ok (.iconst 3, 1) := by decide +kernel
theorem d_L_law_218 : decode c_L_law 218 = .ok (.iadd, 1) := by decide +kernel
theorem d_L_law_219 : decode c_L_law 219 = .ok (.iaload, 1) := by decide +kernel
theorem d_L_law_220 : decode c_L_law 220 = .ok (.i2l, 1) := by decide +kernel
theorem d_L_law_221 : decode c_L_law 221 = .ok (.bipush 32, 2) := by decide +kernel
theorem d_L_law_223 : decode c_L_law 223 = .ok (.lshl, 1) := by decide +kernel
theorem d_L_law_224 : decode c_L_law 224 = .ok (.aload_n 0, 1) := by decide +kernel
theorem d_L_law_225 : decode c_L_law 225 = .ok (.iload 4, 2) := by decide +kernel
theorem d_L_law_227 : decode c_L_law 227 = .ok (.iconst 4, 1) := by decide +kernel
theorem d_L_law_228 : decode c_L_law 228 = .ok (.iadd, 1) := by decide +kernel
theorem d_L_law_229 : decode c_L_law 229 = .ok (.iaload, 1) := by decide +kernel
theorem d_L_law_230 : decode c_L_law 230 = .ok (.i2l, 1) := by decide +kernel
theorem d_L_law_231 : decode c_L_law 231 = .ok (.ldc2_w 79, 3) := by decide +kernel
theorem d_L_law_234 : decode c_L_law 234 = .ok (.land, 1) := by decide +kernel
theorem d_L_law_235 : decode c_L_law 235 = .ok (.lor, 1) := by decide +kernel
theorem d_L_law_236 : decode c_L_law 236 = .ok (.aload_n 0, 1) := by decide +kernel
theorem d_L_law_237 : decode c_L_law 237 = .ok (.iload 4, 2) := by decide +kernel
theorem d_L_law_239 : decode c_L_law 239 = .ok (.iconst 5, 1) := by decide +kernel
theorem d_L_law_240 : decode c_L_law 240 = .ok (.iadd, 1) := by decide +kernel
theorem d_L_law_241 : decode c_L_law 241 = .ok (.iaload, 1) := by decide +kernel
theorem d_L_law_242 : decode c_L_law 242 = .ok (.i2l, 1) := by decide +kernel
theorem d_L_law_243 : decode c_L_law 243 = .ok (.bipush 32, 2) := by decide +kernel
theorem d_L_law_245 : decode c_L_law 245 = .ok (.lshl, 1) := by decide +kernel
theorem d_L_law_246 : decode c_L_law 246 = .ok (.aload_n 0, 1) := by decide +kernel
theorem d_L_law_247 : decode c_L_law 247 = .ok (.iload 4, 2) := by decide +kernel
theorem d_L_law_249 : decode c_L_law 249 = .ok (.bipush 6, 2) := by decide +kernel
theorem d_L_law_251 : decode c_L_law 251 = .ok (.iadd, 1) := by decide +kernel
theorem d_L_law_252 : decode c_L_law 252 = .ok (.iaload, 1) := by decide +kernel
theorem d_L_law_253 : decode c_L_law 253 = .ok (.i2l, 1) := by decide +kernel
theorem d_L_law_254 : decode c_L_law 254 = .ok (.ldc2_w 79, 3) := by decide +kernel
theorem d_L_law_257 : decode c_L_law 257 = .ok (.land, 1) := by decide +kernel
theorem d_L_law_258 : decode c_L_law 258 = .ok (.lor, 1) := by decide +kernel
theorem d_L_law_259 : decode c_L_law 259 = .ok (.invokevirtual 86, 3) := by decide +kernel
theorem d_L_law_262 : decode c_L_law 262 = .ok (.istore 6, 2) := by decide +kernel
theorem d_L_law_264 : decode c_L_law 264 = .ok (.aload_n 2, 1) := by decide +kernel
theorem d_L_law_265 : decode c_L_law 265 = .ok (.invokevirtual 87, 3) := by decide +kernel
theorem d_L_law_268 : decode c_L_law 268 = .ok (.iload 5, 2) := by decide +kernel
theorem d_L_law_270 : decode c_L_law 270 = .ok (.if_icmp .eq 5, 3) := by decide +kernel
theorem d_L_law_273 : decode c_L_law 273 = .ok (.iconst 0, 1) := by decide +kernel
theorem d_L_law_274 : decode c_L_law 274 = .ok (.ireturn, 1) := by decide +kernel
theorem d_L_law_275 : decode c_L_law 275 = .ok (.iload 5, 2) := by decide +kernel
theorem d_L_law_277 : decode c_L_law 277 = .ok (.ifCond .ne 22, 3) := by decide +kernel
theorem d_L_law_280 : decode c_L_law 280 = .ok (.aload_n 3, 1) := by decide +kernel
theorem d_L_law_281 : decode c_L_law 281 = .ok (.iconst 0, 1) := by decide +kernel
theorem d_L_law_282 : decode c_L_law 282 = .ok (.laload, 1) := by decide +kernel
theorem d_L_law_283 : decode c_L_law 283 = .ok (.iload 6, 2) := by decide +kernel
theorem d_L_law_285 : decode c_L_law 285 = .ok (.ifCond .eq 7, 3) := by decide +kernel
theorem d_L_law_288 : decode c_L_law 288 = .ok (.lconst 1, 1) := by decide +kernel
theorem d_L_law_289 : decode c_L_law 289 = .ok (.goto 4, 3) := by decide +kernel
theorem d_L_law_292 : decode c_L_law 292 = .ok (.lconst 0, 1) := by decide +kernel
theorem d_L_law_293 : decode c_L_law 293 = .ok (.lcmp, 1) := by decide +kernel
theorem d_L_law_294 : decode c_L_law 294 = .ok (.ifCond .eq 5, 3) := by decide +kernel
theorem d_L_law_297 : decode c_L_law 297 = .ok (.iconst 0, 1) := by decide +kernel
theorem d_L_law_298 : decode c_L_law 298 = .ok (.ireturn, 1) := by decide +kernel
theorem d_L_law_299 : decode c_L_law 299 = .ok (.goto 1715, 3) := by decide +kernel
theorem d_L_law_302 : decode c_L_law 302 = .ok (.aload_n 1, 1) := by decide +kernel
theorem d_L_law_303 : decode c_L_law 303 = .ok (.aload_n 0, 1) := by decide +kernel
theorem d_L_law_304 : decode c_L_law 304 = .ok (.iload 4, 2) := by decide +kernel
theorem d_L_law_306 : decode c_L_law 306 = .ok (.iconst 1, 1) := by decide +kernel
theorem d_L_law_307 : decode c_L_law 307 = .ok (.iadd, 1) := by decide +kernel
theorem d_L_law_308 : decode c_L_law 308 = .ok (.iaload, 1) := by decide +kernel
theorem d_L_law_309 : decode c_L_law 309 = .ok (.aload_n 0, 1) := by decide +kernel
theorem d_L_law_310 : decode c_L_law 310 = .ok (.iload 4, 2) := by decide +kernel
theorem d_L_law_312 : decode c_L_law 312 = .ok (.iconst 2, 1) := by decide +kernel
theorem d_L_law_313 : decode c_L_law 313 = .ok (.iadd, 1) := by decide +kernel
theorem d_L_law_314 : decode c_L_law 314 = .ok (.iaload, 1) := by decide +kernel
theorem d_L_law_315 : decode c_L_law 315 = .ok (.i2l, 1) := by decide +kernel
theorem d_L_law_316 : decode c_L_law 316 = .ok (.bipush 32, 2) := by decide +kernel
theorem d_L_law_318 : decode c_L_law 318 = .ok (.lshl, 1) := by decide +kernel
theorem d_L_law_319 : decode c_L_law 319 = .ok (.aload_n 0, 1) := by decide +kernel
theorem d_L_law_320 : decode c_L_law 320 = .ok (.iload 4, 2) := by decide +kernel
theorem d_L_law_322 : decode c_L_law 322 = .ok (.iconst 3, 1) := by decide +kernel
theorem d_L_law_323 : decode c_L_law 323 = .ok (.iadd, 1) := by decide +kernel
theorem d_L_law_324 : decode c_L_law 324 = .ok (.iaload, 1) := by decide +kernel
theorem d_L_law_325 : decode c_L_law 325 = .ok (.i2l, 1) := by decide +kernel
theorem d_L_law_326 : decode c_L_law 326 = .ok (.ldc2_w 79, 3) := by decide +kernel
theorem d_L_law_329 : decode c_L_law 329 = .ok (.land, 1) := by decide +kernel
theorem d_L_law_330 : decode c_L_law 330 = .ok (.lor, 1) := by decide +kernel
theorem d_L_law_331 : decode c_L_law 331 = .ok (.aload_n 3, 1) := by decide +kernel
theorem d_L_law_332 : decode c_L_law 332 = .ok (.invokestatic 90, 3) := by decide +kernel
theorem d_L_law_335 : decode c_L_law 335 = .ok (.istore 5, 2) := by decide +kernel
theorem d_L_law_337 : decode c_L_law 337 = .ok (.aload_n 2, 1) := by decide +kernel
theorem d_L_law_338 : decode c_L_law 338 = .ok (.aload_n 0, 1) := by decide +kernel
theorem d_L_law_339 : decode c_L_law 339 = .ok (.iload 4, 2) := by decide +kernel
theorem d_L_law_341 : decode c_L_law 341 = .ok (.iconst 1, 1) := by decide +kernel
theorem d_L_law_342 : decode c_L_law 342 = .ok (.iadd, 1) := by decide +kernel
theorem d_L_law_343 : decode c_L_law 343 = .ok (.iaload, 1) := by decide +kernel
theorem d_L_law_344 : decode c_L_law 344 = .ok (.aload_n 0, 1) := by decide +kernel
theorem d_L_law_345 : decode c_L_law 345 = .ok (.iload 4, 2) := by decide +kernel
theorem d_L_law_347 : decode c_L_law 347 = .ok (.iconst 2, 1) := by decide +kernel
theorem d_L_law_348 : decode c_L_law 348 = .ok (.iadd, 1) := by decide +kernel
theorem d_L_law_349 : decode c_L_law 349 = .ok (.iaload, 1) := by decide +kernel
theorem d_L_law_350 : decode c_L_law 350 = .ok (.i2l, 1) := by decide +kernel
theorem d_L_law_351 : decode c_L_law 351 = .ok (.bipush 32, 2) := by decide +kernel
theorem d_L_law_353 : decode c_L_law 353 = .ok (.lshl, 1) := by decide +kernel
theorem d_L_law_354 : decode c_L_law 354 = .ok (.aload_n 0, 1) := by decide +kernel
theorem d_L_law_355 : decode c_L_law 355 = .ok (.iload 4, 2) := by decide +kernel
theorem d_L_law_357 : decode c_L_law 357 = .ok (.iconst 3, 1) := by decide +kernel
theorem d_L_law_358 : decode c_L_law 358 = .ok (.iadd, 1) := by decide +kernel
theorem d_L_law_359 : decode c_L_law 359 = .ok (.iaload, 1) := by decide +kernel
theorem d_L_law_360 : decode c_L_law 360 = .ok (.i2l, 1) := by decide +kernel
theorem d_L_law_361 : decode c_L_law 361 = .ok (.ldc2_w 79, 3) := by decide +kernel
theorem d_L_law_364 : decode c_L_law 364 = .ok (.land, 1) := by decide +kernel
theorem d_L_law_365 : decode c_L_law 365 = .ok (.lor, 1) := by decide +kernel
theorem d_L_law_366 : decode c_L_law 366 = .ok (.invokevirtual 93, 3) := by decide +kernel
theorem d_L_law_369 : decode c_L_law 369 = .ok (.istore 6, 2) := by decide +kernel
theorem d_L_law_371 : decode c_L_law 371 = .ok (.aload_n 2, 1) := by decide +kernel
theorem d_L_law_372 : decode c_L_law 372 = .ok (.invokevirtual 87, 3) := by decide +kernel
theorem d_L_law_375 : decode c_L_law 375 = .ok (.iload 5, 2) := by decide +kernel
theorem d_L_law_377 : decode c_L_law 377 = .ok (.if_icmp .eq 5, 3) := by decide +kernel
theorem d_L_law_380 : decode c_L_law 380 = .ok (.iconst 0, 1) := by decide +kernel
theorem d_L_law_381 : decode c_L_law 381 = .ok (.ireturn, 1) := by decide +kernel
theorem d_L_law_382 : decode c_L_law 382 = .ok (.iload 5, 2) := by decide +kernel
theorem d_L_law_384 : decode c_L_law 384 = .ok (.ifCond .ne 22, 3) := by decide +kernel
theorem d_L_law_387 : decode c_L_law 387 = .ok (.aload_n 3, 1) := by decide +kernel
theorem d_L_law_388 : decode c_L_law 388 = .ok (.iconst 0, 1) := by decide +kernel
theorem d_L_law_389 : decode c_L_law 389 = .ok (.laload, 1) := by decide +kernel
theorem d_L_law_390 : decode c_L_law 390 = .ok (.iload 6, 2) := by decide +kernel
theorem d_L_law_392 : decode c_L_law 392 = .ok (.ifCond .eq 7, 3) := by decide +kernel
theorem d_L_law_395 : decode c_L_law 395 = .ok (.lconst 1, 1) := by decide +kernel
theorem d_L_law_396 : decode c_L_law 396 = .ok (.goto 4, 3) := by decide +kernel
theorem d_L_law_399 : decode c_L_law 399 = .ok (.lconst 0, 1) := by decide +kernel
theorem d_L_law_400 : decode c_L_law 400 = .ok (.lcmp, 1) := by decide +kernel
theorem d_L_law_401 : decode c_L_law 401 = .ok (.ifCond .eq 5, 3) := by decide +kernel
theorem d_L_law_404 : decode c_L_law 404 = .ok (.iconst 0, 1) := by decide +kernel
theorem d_L_law_405 : decode c_L_law 405 = .ok (.ireturn, 1) := by decide +kernel
theorem d_L_law_406 : decode c_L_law 406 = .ok (.goto 1608, 3) := by decide +kernel
theorem d_L_law_409 : decode c_L_law 409 = .ok (.aload_n 1, 1) := by decide +kernel
theorem d_L_law_410 : decode c_L_law 410 = .ok (.aload_n 0, 1) := by decide +kernel
theorem d_L_law_411 : decode c_L_law 411 = .ok (.iload 4, 2) := by decide +kernel
theorem d_L_law_413 : decode c_L_law 413 = .ok (.iconst 1, 1) := by decide +kernel
theorem d_L_law_414 : decode c_L_law 414 = .ok (.iadd, 1) := by decide +kernel
theorem d_L_law_415 : decode c_L_law 415 = .ok (.iaload, 1) := by decide +kernel
theorem d_L_law_416 : decode c_L_law 416 = .ok (.aload_n 0, 1) := by decide +kernel
theorem d_L_law_417 : decode c_L_law 417 = .ok (.iload 4, 2) := by decide +kernel
theorem d_L_law_419 : decode c_L_law 419 = .ok (.iconst 2, 1) := by decide +kernel
theorem d_L_law_420 : decode c_L_law 420 = .ok (.iadd, 1) := by decide +kernel
theorem d_L_law_421 : decode c_L_law 421 = .ok (.iaload, 1) := by decide +kernel
theorem d_L_law_422 : decode c_L_law 422 = .ok (.i2l, 1) := by decide +kernel
theorem d_L_law_423 : decode c_L_law 423 = .ok (.bipush 32, 2) := by decide +kernel
theorem d_L_law_425 : decode c_L_law 425 = .ok (.lshl, 1) := by decide +kernel
theorem d_L_law_426 : decode c_L_law 426 = .ok (.aload_n 0, 1) := by decide +kernel
theorem d_L_law_427 : decode c_L_law 427 = .ok (.iload 4, 2) := by decide +kernel
theorem d_L_law_429 : decode c_L_law 429 = .ok (.iconst 3, 1) := by decide +kernel
theorem d_L_law_430 : decode c_L_law 430 = .ok (.iadd, 1) := by decide +kernel
theorem d_L_law_431 : decode c_L_law 431 = .ok (.iaload, 1) := by decide +kernel
theorem d_L_law_432 : decode c_L_law 432 = .ok (.i2l, 1) := by decide +kernel
theorem d_L_law_433 : decode c_L_law 433 = .ok (.ldc2_w 79, 3) := by decide +kernel
theorem d_L_law_436 : decode c_L_law 436 = .ok (.land, 1) := by decide +kernel
theorem d_L_law_437 : decode c_L_law 437 = .ok (.lor, 1) := by decide +kernel
theorem d_L_law_438 : decode c_L_law 438 = .ok (.aload_n 0, 1) := by decide +kernel
theorem d_L_law_439 : decode c_L_law 439 = .ok (.iload 4, 2) := by decide +kernel
theorem d_L_law_441 : decode c_L_law 441 = .ok (.iconst 4, 1) := by decide +kernel
theorem d_L_law_442 : decode c_L_law 442 = .ok (.iadd, 1) := by decide +kernel
theorem d_L_law_443 : decode c_L_law 443 = .ok (.iaload, 1) := by decide +kernel
theorem d_L_law_444 : decode c_L_law 444 = .ok (.i2l, 1) := by decide +kernel
theorem d_L_law_445 : decode c_L_law 445 = .ok (.bipush 32, 2) := by decide +kernel
theorem d_L_law_447 : decode c_L_law 447 = .ok (.lshl, 1) := by decide +kernel
theorem d_L_law_448 : decode c_L_law 448 = .ok (.aload_n 0, 1) := by decide +kernel
theorem d_L_law_449 : decode c_L_law 449 = .ok (.iload 4, 2) := by decide +kernel
theorem d_L_law_451 : decode c_L_law 451 = .ok (.iconst 5, 1) := by decide +kernel
theorem d_L_law_452 : decode c_L_law 452 = .ok (.iadd, 1) := by decide +kernel
theorem d_L_law_453 : decode c_L_law 453 = .ok (.iaload, 1) := by decide +kernel
theorem d_L_law_454 : decode c_L_law 454 = .ok (.i2l, 1) := by decide +kernel
theorem d_L_law_455 : decode c_L_law 455 = .ok (.ldc2_w 79, 3) := by decide +kernel
theorem d_L_law_458 : decode c_L_law 458 = .ok (.land, 1) := by decide +kernel
theorem d_L_law_459 : decode c_L_law 459 = .ok (.lor, 1) := by decide +kernel
theorem d_L_law_460 : decode c_L_law 460 = .ok (.aload_n 3, 1) := by decide +kernel
theorem d_L_law_461 : decode c_L_law 461 = .ok (.invokestatic 94, 3) := by decide +kernel
theorem d_L_law_464 : decode c_L_law 464 = .ok (.istore 5, 2) := by decide +kernel
theorem d_L_law_466 : decode c_L_law 466 = .ok (.aload_n 2, 1) := by decide +kernel
theorem d_L_law_467 : decode c_L_law 467 = .ok (.aload_n 0, 1) := by decide +kernel
theorem d_L_law_468 : decode c_L_law 468 = .ok (.iload 4, 2) := by decide +kernel
theorem d_L_law_470 : decode c_L_law 470 = .ok (.iconst 1, 1) := by decide +kernel
theorem d_L_law_471 : decode c_L_law 471 = .ok (.iadd, 1) := by decide +kernel
theorem d_L_law_472 : decode c_L_law 472 = .ok (.iaload, 1) := by decide +kernel
theorem d_L_law_473 : decode c_L_law 473 = .ok (.aload_n 0, 1) := by decide +kernel
theorem d_L_law_474 : decode c_L_law 474 = .ok (.iload 4, 2) := by decide +kernel
theorem d_L_law_476 : decode c_L_law 476 = .ok (.iconst 2, 1) := by decide +kernel
theorem d_L_law_477 : decode c_L_law 477 = .ok (.iadd, 1) := by decide +kernel
theorem d_L_law_478 : decode c_L_law 478 = .ok (.iaload, 1) := by decide +kernel
theorem d_L_law_479 : decode c_L_law 479 = .ok (.i2l, 1) := by decide +kernel
theorem d_L_law_480 : decode c_L_law 480 = .ok (.bipush 32, 2) := by decide +kernel
theorem d_L_law_482 : decode c_L_law 482 = .ok (.lshl, 1) := by decide +kernel
theorem d_L_law_483 : decode c_L_law 483 = .ok (.aload_n 0, 1) := by decide +kernel
theorem d_L_law_484 : decode c_L_law 484 = .ok (.iload 4, 2) := by decide +kernel
theorem d_L_law_486 : decode c_L_law 486 = .ok (.iconst 3, 1) := by decide +kernel
theorem d_L_law_487 : decode c_L_law 487 = .ok (.iadd, 1) := by decide +kernel
theorem d_L_law_488 : decode c_L_law 488 = .ok (.iaload, 1) := by decide +kernel
theorem d_L_law_489 : decode c_L_law 489 = .ok (.i2l, 1) := by decide +kernel
theorem d_L_law_490 : decode c_L_law 490 = .ok (.ldc2_w 79, 3) := by decide +kernel
theorem d_L_law_493 : decode c_L_law 493 = .ok (.land, 1) := by decide +kernel
theorem d_L_law_494 : decode c_L_law 494 = .ok (.lor, 1) := by decide +kernel
theorem d_L_law_495 : decode c_L_law 495 = .ok (.aload_n 0, 1) := by decide +kernel
theorem d_L_law_496 : decode c_L_law 496 = .ok (.iload 4, 2) := by decide +kernel
theorem d_L_law_498 : decode c_L_law 498 = .ok (.iconst 4, 1) := by decide +kernel
theorem d_L_law_499 : decode c_L_law 499 = .ok (.iadd, 1) := by decide +kernel
theorem d_L_law_500 : decode c_L_law 500 = .ok (.iaload, 1) := by decide +kernel
theorem d_L_law_501 : decode c_L_law 501 = .ok (.i2l, 1) := by decide +kernel
theorem d_L_law_502 : decode c_L_law 502 = .ok (.bipush 32, 2) := by decide +kernel
theorem d_L_law_504 : decode c_L_law 504 = .ok (.lshl, 1) := by decide +kernel
theorem d_L_law_505 : decode c_L_law 505 = .ok (.aload_n 0, 1) := by decide +kernel
theorem d_L_law_506 : decode c_L_law 506 = .ok (.iload 4, 2) := by decide +kernel
theorem d_L_law_508 : decode c_L_law 508 = .ok (.iconst 5, 1) := by decide +kernel
theorem d_L_law_509 : decode c_L_law 509 = .ok (.iadd, 1) := by decide +kernel
theorem d_L_law_510 : decode c_L_law 510 = .ok (.iaload, 1) := by decide +kernel
theorem d_L_law_511 : decode c_L_law 511 = .ok (.i2l, 1) := by decide +kernel
theorem d_L_law_512 : decode c_L_law 512 = .ok (.ldc2_w 79, 3) := by decide +kernel
theorem d_L_law_515 : decode c_L_law 515 = .ok (.land, 1) := by decide +kernel
theorem d_L_law_516 : decode c_L_law 516 = .ok (.lor, 1) := by decide +kernel
theorem d_L_law_517 : decode c_L_law 517 = .ok (.invokevirtual 97, 3) := by decide +kernel
theorem d_L_law_520 : decode c_L_law 520 = .ok (.istore 6, 2) := by decide +kernel
theorem d_L_law_522 : decode c_L_law 522 = .ok (.aload_n 2, 1) := by decide +kernel
theorem d_L_law_523 : decode c_L_law 523 = .ok (.invokevirtual 87, 3) := by decide +kernel
theorem d_L_law_526 : decode c_L_law 526 = .ok (.iload 5, 2) := by decide +kernel
theorem d_L_law_528 : decode c_L_law 528 = .ok (.if_icmp .eq 5, 3) := by decide +kernel
theorem d_L_law_531 : decode c_L_law 531 = .ok (.iconst 0, 1) := by decide +kernel
theorem d_L_law_532 : decode c_L_law 532 = .ok (.ireturn, 1) := by decide +kernel
theorem d_L_law_533 : decode c_L_law 533 = .ok (.iload 5, 2) := by decide +kernel
theorem d_L_law_535 : decode c_L_law 535 = .ok (.ifCond .ne 22, 3) := by decide +kernel
theorem d_L_law_538 : decode c_L_law 538 = .ok (.aload_n 3, 1) := by decide +kernel
theorem d_L_law_539 : decode c_L_law 539 = .ok (.iconst 0, 1) := by decide +kernel
theorem d_L_law_540 : decode c_L_law 540 = .ok (.laload, 1) := by decide +kernel
theorem d_L_law_541 : decode c_L_law 541 = .ok (.iload 6, 2) := by decide +kernel
theorem d_L_law_543 : decode c_L_law 543 = .ok (.ifCond .eq 7, 3) := by decide +kernel
theorem d_L_law_546 : decode c_L_law 546 = .ok (.lconst 1, 1) := by decide +kernel
theorem d_L_law_547 : decode c_L_law 547 = .ok (.goto 4, 3) := by decide +kernel
theorem d_L_law_550 : decode c_L_law 550 = .ok (.lconst 0, 1) := by decide +kernel
theorem d_L_law_551 : decode c_L_law 551 = .ok (.lcmp, 1) := by decide +kernel
theorem d_L_law_552 : decode c_L_law 552 = .ok (.ifCond .eq 5, 3) := by decide +kernel
theorem d_L_law_555 : decode c_L_law 555 = .ok (.iconst 0, 1) := by decide +kernel
theorem d_L_law_556 : decode c_L_law 556 = .ok (.ireturn, 1) := by decide +kernel
theorem d_L_law_557 : decode c_L_law 557 = .ok (.goto 1457, 3) := by decide +kernel
theorem d_L_law_560 : decode c_L_law 560 = .ok (.aload_n 1, 1) := by decide +kernel
theorem d_L_law_561 : decode c_L_law 561 = .ok (.aload_n 0, 1) := by decide +kernel
theorem d_L_law_562 : decode c_L_law 562 = .ok (.iload 4, 2) := by decide +kernel
theorem d_L_law_564 : decode c_L_law 564 = .ok (.iconst 1, 1) := by decide +kernel
theorem d_L_law_565 : decode c_L_law 565 = .ok (.iadd, 1) := by decide +kernel
theorem d_L_law_566 : decode c_L_law 566 = .ok (.iaload, 1) := by decide +kernel
theorem d_L_law_567 : decode c_L_law 567 = .ok (.aload_n 0, 1) := by decide +kernel
theorem d_L_law_568 : decode c_L_law 568 = .ok (.iload 4, 2) := by decide +kernel
theorem d_L_law_570 : decode c_L_law 570 = .ok (.iconst 2, 1) := by decide +kernel
theorem d_L_law_571 : decode c_L_law 571 = .ok (.iadd, 1) := by decide +kernel
theorem d_L_law_572 : decode c_L_law 572 = .ok (.iaload, 1) := by decide +kernel
theorem d_L_law_573 : decode c_L_law 573 = .ok (.i2l, 1) := by decide +kernel
theorem d_L_law_574 : decode c_L_law 574 = .ok (.bipush 32, 2) := by decide +kernel
theorem d_L_law_576 : decode c_L_law 576 = .ok (.lshl, 1) := by decide +kernel
theorem d_L_law_577 : decode c_L_law 577 = .ok (.aload_n 0, 1) := by decide +kernel
theorem d_L_law_578 : decode c_L_law 578 = .ok (.iload 4, 2) := by decide +kernel
theorem d_L_law_580 : decode c_L_law 580 = .ok (.iconst 3, 1) := by decide +kernel
theorem d_L_law_581 : decode c_L_law 581 = .ok (.iadd, 1) := by decide +kernel
theorem d_L_law_582 : decode c_L_law 582 = .ok (.iaload, 1) := by decide +kernel
theorem d_L_law_583 : decode c_L_law 583 = .ok (.i2l, 1) := by decide +kernel
theorem d_L_law_584 : decode c_L_law 584 = .ok (.ldc2_w 79, 3) := by decide +kernel
theorem d_L_law_587 : decode c_L_law 587 = .ok (.land, 1) := by decide +kernel
theorem d_L_law_588 : decode c_L_law 588 = .ok (.lor, 1) := by decide +kernel
theorem d_L_law_589 : decode c_L_law 589 = .ok (.aload_n 3, 1) := by decide +kernel
theorem d_L_law_590 : decode c_L_law 590 = .ok (.invokestatic 98, 3) := by decide +kernel
theorem d_L_law_593 : decode c_L_law 593 = .ok (.istore 5, 2) := by decide +kernel
theorem d_L_law_595 : decode c_L_law 595 = .ok (.aload_n 2, 1) := by decide +kernel
theorem d_L_law_596 : decode c_L_law 596 = .ok (.aload_n 0, 1) := by decide +kernel
theorem d_L_law_597 : decode c_L_law 597 = .ok (.iload 4, 2) := by decide +kernel
theorem d_L_law_599 : decode c_L_law 599 = .ok (.iconst 1, 1) := by decide +kernel
theorem d_L_law_600 : decode c_L_law 600 = .ok (.iadd, 1) := by decide +kernel
theorem d_L_law_601 : decode c_L_law 601 = .ok (.iaload, 1) := by decide +kernel
theorem d_L_law_602 : decode c_L_law 602 = .ok (.aload_n 0, 1) := by decide +kernel
theorem d_L_law_603 : decode c_L_law 603 = .ok (.iload 4, 2) := by decide +kernel
theorem d_L_law_605 : decode c_L_law 605 = .ok (.iconst 2, 1) := by decide +kernel
theorem d_L_law_606 : decode c_L_law 606 = .ok (.iadd, 1) := by decide +kernel
theorem d_L_law_607 : decode c_L_law 607 = .ok (.iaload, 1) := by decide +kernel
theorem d_L_law_608 : decode c_L_law 608 = .ok (.i2l, 1) := by decide +kernel
theorem d_L_law_609 : decode c_L_law 609 = .ok (.bipush 32, 2) := by decide +kernel
theorem d_L_law_611 : decode c_L_law 611 = .ok (.lshl, 1) := by decide +kernel
theorem d_L_law_612 : decode c_L_law 612 = .ok (.aload_n 0, 1) := by decide +kernel
theorem d_L_law_613 : decode c_L_law 613 = .ok (.iload 4, 2) := by decide +kernel
theorem d_L_law_615 : decode c_L_law 615 = .ok (.iconst 3, 1) := by decide +kernel
theorem d_L_law_616 : decode c_L_law 616 = .ok (.iadd, 1) := by decide +kernel
theorem d_L_law_617 : decode c_L_law 617 = .ok (.iaload, 1) := by decide +kernel
theorem d_L_law_618 : decode c_L_law 618 = .ok (.i2l, 1) := by decide +kernel
theorem d_L_law_619 : decode c_L_law 619 = .ok (.ldc2_w 79, 3) := by decide +kernel
theorem d_L_law_622 : decode c_L_law 622 = .ok (.land, 1) := by decide +kernel
theorem d_L_law_623 : decode c_L_law 623 = .ok (.lor, 1) := by decide +kernel
theorem d_L_law_624 : decode c_L_law 624 = .ok (.invokevirtual 100, 3) := by decide +kernel
theorem d_L_law_627 : decode c_L_law 627 = .ok (.istore 6, 2) := by decide +kernel
theorem d_L_law_629 : decode c_L_law 629 = .ok (.aload_n 2, 1) := by decide +kernel
theorem d_L_law_630 : decode c_L_law 630 = .ok (.invokevirtual 87, 3) := by decide +kernel
theorem d_L_law_633 : decode c_L_law 633 = .ok (.iload 5, 2) := by decide +kernel
theorem d_L_law_635 : decode c_L_law 635 = .ok (.if_icmp .eq 5, 3) := by decide +kernel
theorem d_L_law_638 : decode c_L_law 638 = .ok (.iconst 0, 1) := by decide +kernel
theorem d_L_law_639 : decode c_L_law 639 = .ok (.ireturn, 1) := by decide +kernel
theorem d_L_law_640 : decode c_L_law 640 = .ok (.iload 5, 2) := by decide +kernel
theorem d_L_law_642 : decode c_L_law 642 = .ok (.ifCond .ne 22, 3) := by decide +kernel
theorem d_L_law_645 : decode c_L_law 645 = .ok (.aload_n 3, 1) := by decide +kernel
theorem d_L_law_646 : decode c_L_law 646 = .ok (.iconst 0, 1) := by decide +kernel
theorem d_L_law_647 : decode c_L_law 647 = .ok (.laload, 1) := by decide +kernel
theorem d_L_law_648 : decode c_L_law 648 = .ok (.iload 6, 2) := by decide +kernel
theorem d_L_law_650 : decode c_L_law 650 = .ok (.ifCond .eq 7, 3) := by decide +kernel
theorem d_L_law_653 : decode c_L_law 653 = .ok (.lconst 1, 1) := by decide +kernel
theorem d_L_law_654 : decode c_L_law 654 = .ok (.goto 4, 3) := by decide +kernel
theorem d_L_law_657 : decode c_L_law 657 = .ok (.lconst 0, 1) := by decide +kernel
theorem d_L_law_658 : decode c_L_law 658 = .ok (.lcmp, 1) := by decide +kernel
theorem d_L_law_659 : decode c_L_law 659 = .ok (.ifCond .eq 5, 3) := by decide +kernel
theorem d_L_law_662 : decode c_L_law 662 = .ok (.iconst 0, 1) := by decide +kernel
theorem d_L_law_663 : decode c_L_law 663 = .ok (.ireturn, 1) := by decide +kernel
theorem d_L_law_664 : decode c_L_law 664 = .ok (.goto 1350, 3) := by decide +kernel
theorem d_L_law_667 : decode c_L_law 667 = .ok (.aload_n 1, 1) := by decide +kernel
theorem d_L_law_668 : decode c_L_law 668 = .ok (.aload_n 0, 1) := by decide +kernel
theorem d_L_law_669 : decode c_L_law 669 = .ok (.iload 4, 2) := by decide +kernel
theorem d_L_law_671 : decode c_L_law 671 = .ok (.iconst 1, 1) := by decide +kernel
theorem d_L_law_672 : decode c_L_law 672 = .ok (.iadd, 1) := by decide +kernel
theorem d_L_law_673 : decode c_L_law 673 = .ok (.iaload, 1) := by decide +kernel
theorem d_L_law_674 : decode c_L_law 674 = .ok (.aload_n 0, 1) := by decide +kernel
theorem d_L_law_675 : decode c_L_law 675 = .ok (.iload 4, 2) := by decide +kernel
theorem d_L_law_677 : decode c_L_law 677 = .ok (.iconst 2, 1) := by decide +kernel
theorem d_L_law_678 : decode c_L_law 678 = .ok (.iadd, 1) := by decide +kernel
theorem d_L_law_679 : decode c_L_law 679 = .ok (.iaload, 1) := by decide +kernel
theorem d_L_law_680 : decode c_L_law 680 = .ok (.i2l, 1) := by decide +kernel
theorem d_L_law_681 : decode c_L_law 681 = .ok (.bipush 32, 2) := by decide +kernel
theorem d_L_law_683 : decode c_L_law 683 = .ok (.lshl, 1) := by decide +kernel
theorem d_L_law_684 : decode c_L_law 684 = .ok (.aload_n 0, 1) := by decide +kernel
theorem d_L_law_685 : decode c_L_law 685 = .ok (.iload 4, 2) := by decide +kernel
theorem d_L_law_687 : decode c_L_law 687 = .ok (.iconst 3, 1) := by decide +kernel
theorem d_L_law_688 : decode c_L_law 688 = .ok (.iadd, 1) := by decide +kernel
theorem d_L_law_689 : decode c_L_law 689 = .ok (.iaload, 1) := by decide +kernel
theorem d_L_law_690 : decode c_L_law 690 = .ok (.i2l, 1) := by decide +kernel
theorem d_L_law_691 : decode c_L_law 691 = .ok (.ldc2_w 79, 3) := by decide +kernel
theorem d_L_law_694 : decode c_L_law 694 = .ok (.land, 1) := by decide +kernel
theorem d_L_law_695 : decode c_L_law 695 = .ok (.lor, 1) := by decide +kernel
theorem d_L_law_696 : decode c_L_law 696 = .ok (.aload_n 3, 1) := by decide +kernel
theorem d_L_law_697 : decode c_L_law 697 = .ok (.invokestatic 101, 3) := by decide +kernel
theorem d_L_law_700 : decode c_L_law 700 = .ok (.istore 5, 2) := by decide +kernel
theorem d_L_law_702 : decode c_L_law 702 = .ok (.aload_n 2, 1) := by decide +kernel
theorem d_L_law_703 : decode c_L_law 703 = .ok (.aload_n 0, 1) := by decide +kernel
theorem d_L_law_704 : decode c_L_law 704 = .ok (.iload 4, 2) := by decide +kernel
theorem d_L_law_706 : decode c_L_law 706 = .ok (.iconst 1, 1) := by decide +kernel
theorem d_L_law_707 : decode c_L_law 707 = .ok (.iadd, 1) := by decide +kernel
theorem d_L_law_708 : decode c_L_law 708 = .ok (.iaload, 1) := by decide +kernel
theorem d_L_law_709 : decode c_L_law 709 = .ok (.aload_n 0, 1) := by decide +kernel
theorem d_L_law_710 : decode c_L_law 710 = .ok (.iload 4, 2) := by decide +kernel
theorem d_L_law_712 : decode c_L_law 712 = .ok (.iconst 2, 1) := by decide +kernel
theorem d_L_law_713 : decode c_L_law 713 = .ok (.iadd, 1) := by decide +kernel
theorem d_L_law_714 : decode c_L_law 714 = .ok (.iaload, 1) := by decide +kernel
theorem d_L_law_715 : decode c_L_law 715 = .ok (.i2l, 1) := by decide +kernel
theorem d_L_law_716 : decode c_L_law 716 = .ok (.bipush 32, 2) := by decide +kernel
theorem d_L_law_718 : decode c_L_law 718 = .ok (.lshl, 1) := by decide +kernel
theorem d_L_law_719 : decode c_L_law 719 = .ok (.aload_n 0, 1) := by decide +kernel
theorem d_L_law_720 : decode c_L_law 720 = .ok (.iload 4, 2) := by decide +kernel
theorem d_L_law_722 : decode c_L_law 722 = .ok (.iconst 3, 1) := by decide +kernel
theorem d_L_law_723 : decode c_L_law 723 = .ok (.iadd, 1) := by decide +kernel
theorem d_L_law_724 : decode c_L_law 724 = .ok (.iaload, 1) := by decide +kernel
theorem d_L_law_725 : decode c_L_law 725 = .ok (.i2l, 1) := by decide +kernel
theorem d_L_law_726 : decode c_L_law 726 = .ok (.ldc2_w 79, 3) := by decide +kernel
theorem d_L_law_729 : decode c_L_law 729 = .ok (.land, 1) := by decide +kernel
theorem d_L_law_730 : decode c_L_law 730 = .ok (.lor, 1) := by decide +kernel
theorem d_L_law_731 : decode c_L_law 731 = .ok (.invokevirtual 103, 3) := by decide +kernel
theorem d_L_law_734 : decode c_L_law 734 = .ok (.istore 6, 2) := by decide +kernel
theorem d_L_law_736 : decode c_L_law 736 = .ok (.aload_n 2, 1) := by decide +kernel
theorem d_L_law_737 : decode c_L_law 737 = .ok (.invokevirtual 87, 3) := by decide +kernel
theorem d_L_law_740 : decode c_L_law 740 = .ok (.iload 5, 2) := by decide +kernel
theorem d_L_law_742 : decode c_L_law 742 = .ok (.if_icmp .eq 5, 3) := by decide +kernel
theorem d_L_law_745 : decode c_L_law 745 = .ok (.iconst 0, 1) := by decide +kernel
theorem d_L_law_746 : decode c_L_law 746 = .ok (.ireturn, 1) := by decide +kernel
theorem d_L_law_747 : decode c_L_law 747 = .ok (.iload 5, 2) := by decide +kernel
theorem d_L_law_749 : decode c_L_law 749 = .ok (.ifCond .ne 22, 3) := by decide +kernel
theorem d_L_law_752 : decode c_L_law 752 = .ok (.aload_n 3, 1) := by decide +kernel
theorem d_L_law_753 : decode c_L_law 753 = .ok (.iconst 0, 1) := by decide +kernel
theorem d_L_law_754 : decode c_L_law 754 = .ok (.laload, 1) := by decide +kernel
theorem d_L_law_755 : decode c_L_law 755 = .ok (.iload 6, 2) := by decide +kernel
theorem d_L_law_757 : decode c_L_law 757 = .ok (.ifCond .eq 7, 3) := by decide +kernel
theorem d_L_law_760 : decode c_L_law 760 = .ok (.lconst 1, 1) := by decide +kernel
theorem d_L_law_761 : decode c_L_law 761 = .ok (.goto 4, 3) := by decide +kernel
theorem d_L_law_764 : decode c_L_law 764 = .ok (.lconst 0, 1) := by decide +kernel
theorem d_L_law_765 : decode c_L_law 765 = .ok (.lcmp, 1) := by decide +kernel
theorem d_L_law_766 : decode c_L_law 766 = .ok (.ifCond .eq 5, 3) := by decide +kernel
theorem d_L_law_769 : decode c_L_law 769 = .ok (.iconst 0, 1) := by decide +kernel
theorem d_L_law_770 : decode c_L_law 770 = .ok (.ireturn, 1) := by decide +kernel
theorem d_L_law_771 : decode c_L_law 771 = .ok (.goto 1243, 3) := by decide +kernel
theorem d_L_law_774 : decode c_L_law 774 = .ok (.aload_n 1, 1) := by decide +kernel
theorem d_L_law_775 : decode c_L_law 775 = .ok (.aload_n 0, 1) := by decide +kernel
theorem d_L_law_776 : decode c_L_law 776 = .ok (.iload 4, 2) := by decide +kernel
theorem d_L_law_778 : decode c_L_law 778 = .ok (.iconst 1, 1) := by decide +kernel
theorem d_L_law_779 : decode c_L_law 779 = .ok (.iadd, 1) := by decide +kernel
theorem d_L_law_780 : decode c_L_law 780 = .ok (.iaload, 1) := by decide +kernel
theorem d_L_law_781 : decode c_L_law 781 = .ok (.i2l, 1) := by decide +kernel
theorem d_L_law_782 : decode c_L_law 782 = .ok (.bipush 32, 2) := by decide +kernel
theorem d_L_law_784 : decode c_L_law 784 = .ok (.lshl, 1) := by decide +kernel
theorem d_L_law_785 : decode c_L_law 785 = .ok (.aload_n 0, 1) := by decide +kernel
theorem d_L_law_786 : decode c_L_law 786 = .ok (.iload 4, 2) := by decide +kernel
theorem d_L_law_788 : decode c_L_law 788 = .ok (.iconst 2, 1) := by decide +kernel
theorem d_L_law_789 : decode c_L_law 789 = .ok (.iadd, 1) := by decide +kernel
theorem d_L_law_790 : decode c_L_law 790 = .ok (.iaload, 1) := by decide +kernel
theorem d_L_law_791 : decode c_L_law 791 = .ok (.i2l, 1) := by decide +kernel
theorem d_L_law_792 : decode c_L_law 792 = .ok (.ldc2_w 79, 3) := by decide +kernel
theorem d_L_law_795 : decode c_L_law 795 = .ok (.land, 1) := by decide +kernel
theorem d_L_law_796 : decode c_L_law 796 = .ok (.lor, 1) := by decide +kernel
theorem d_L_law_797 : decode c_L_law 797 = .ok (.aload_n 0, 1) := by decide +kernel
theorem d_L_law_798 : decode c_L_law 798 = .ok (.iload 4, 2) := by decide +kernel
theorem d_L_law_800 : decode c_L_law 800 = .ok (.iconst 3, 1) := by decide +kernel
theorem d_L_law_801 : decode c_L_law 801 = .ok (.iadd, 1) := by decide +kernel
theorem d_L_law_802 : decode c_L_law 802 = .ok (.iaload, 1) := by decide +kernel
theorem d_L_law_803 : decode c_L_law 803 = .ok (.i2l, 1) := by decide +kernel
theorem d_L_law_804 : decode c_L_law 804 = .ok (.bipush 32, 2) := by decide +kernel
theorem d_L_law_806 : decode c_L_law 806 = .ok (.lshl, 1) := by decide +kernel
theorem d_L_law_807 : decode c_L_law 807 = .ok (.aload_n 0, 1) := by decide +kernel
theorem d_L_law_808 : decode c_L_law 808 = .ok (.iload 4, 2) := by decide +kernel
theorem d_L_law_810 : decode c_L_law 810 = .ok (.iconst 4, 1) := by decide +kernel
theorem d_L_law_811 : decode c_L_law 811 = .ok (.iadd, 1) := by decide +kernel
theorem d_L_law_812 : decode c_L_law 812 = .ok (.iaload, 1) := by decide +kernel
theorem d_L_law_813 : decode c_L_law 813 = .ok (.i2l, 1) := by decide +kernel
theorem d_L_law_814 : decode c_L_law 814 = .ok (.ldc2_w 79, 3) := by decide +kernel
theorem d_L_law_817 : decode c_L_law 817 = .ok (.land, 1) := by decide +kernel
theorem d_L_law_818 : decode c_L_law 818 = .ok (.lor, 1) := by decide +kernel
theorem d_L_law_819 : decode c_L_law 819 = .ok (.aload_n 3, 1) := by decide +kernel
theorem d_L_law_820 : decode c_L_law 820 = .ok (.invokestatic 104, 3) := by decide +kernel
theorem d_L_law_823 : decode c_L_law 823 = .ok (.istore 5, 2) := by decide +kernel
theorem d_L_law_825 : decode c_L_law 825 = .ok (.aload_n 2, 1) := by decide +kernel
theorem d_L_law_826 : decode c_L_law 826 = .ok (.aload_n 0, 1) := by decide +kernel
theorem d_L_law_827 : decode c_L_law 827 = .ok (.iload 4, 2) := by decide +kernel
theorem d_L_law_829 : decode c_L_law 829 = .ok (.iconst 1, 1) := by decide +kernel
theorem d_L_law_830 : decode c_L_law 830 = .ok (.iadd, 1) := by decide +kernel
theorem d_L_law_831 : decode c_L_law 831 = .ok (.iaload, 1) := by decide +kernel
theorem d_L_law_832 : decode c_L_law 832 = .ok (.i2l, 1) := by decide +kernel
theorem d_L_law_833 : decode c_L_law 833 = .ok (.bipush 32, 2) := by decide +kernel
theorem d_L_law_835 : decode c_L_law 835 = .ok (.lshl, 1) := by decide +kernel
theorem d_L_law_836 : decode c_L_law 836 = .ok (.aload_n 0, 1) := by decide +kernel
theorem d_L_law_837 : decode c_L_law 837 = .ok (.iload 4, 2) := by decide +kernel
theorem d_L_law_839 : decode c_L_law 839 = .ok (.iconst 2, 1) := by decide +kernel
theorem d_L_law_840 : decode c_L_law 840 = .ok (.iadd, 1) := by decide +kernel
theorem d_L_law_841 : decode c_L_law 841 = .ok (.iaload, 1) := by decide +kernel
theorem d_L_law_842 : decode c_L_law 842 = .ok (.i2l, 1) := by decide +kernel
theorem d_L_law_843 : decode c_L_law 843 = .ok (.ldc2_w 79, 3) := by decide +kernel
theorem d_L_law_846 : decode c_L_law 846 = .ok (.land, 1) := by decide +kernel
theorem d_L_law_847 : decode c_L_law 847 = .ok (.lor, 1) := by decide +kernel
theorem d_L_law_848 : decode c_L_law 848 = .ok (.aload_n 0, 1) := by decide +kernel
theorem d_L_law_849 : decode c_L_law 849 = .ok (.iload 4, 2) := by decide +kernel
theorem d_L_law_851 : decode c_L_law 851 = .ok (.iconst 3, 1) := by decide +kernel
theorem d_L_law_852 : decode c_L_law 852 = .ok (.iadd, 1) := by decide +kernel
theorem d_L_law_853 : decode c_L_law 853 = .ok (.iaload, 1) := by decide +kernel
theorem d_L_law_854 : decode c_L_law 854 = .ok (.i2l, 1) := by decide +kernel
theorem d_L_law_855 : decode c_L_law 855 = .ok (.bipush 32, 2) := by decide +kernel
theorem d_L_law_857 : decode c_L_law 857 = .ok (.lshl, 1) := by decide +kernel
theorem d_L_law_858 : decode c_L_law 858 = .ok (.aload_n 0, 1) := by decide +kernel
theorem d_L_law_859 : decode c_L_law 859 = .ok (.iload 4, 2) := by decide +kernel
theorem d_L_law_861 : decode c_L_law 861 = .ok (.iconst 4, 1) := by decide +kernel
theorem d_L_law_862 : decode c_L_law 862 = .ok (.iadd, 1) := by decide +kernel
theorem d_L_law_863 : decode c_L_law 863 = .ok (.iaload, 1) := by decide +kernel
theorem d_L_law_864 : decode c_L_law 864 = .ok (.i2l, 1) := by decide +kernel
theorem d_L_law_865 : decode c_L_law 865 = .ok (.ldc2_w 79, 3) := by decide +kernel
theorem d_L_law_868 : decode c_L_law 868 = .ok (.land, 1) := by decide +kernel
theorem d_L_law_869 : decode c_L_law 869 = .ok (.lor, 1) := by decide +kernel
theorem d_L_law_870 : decode c_L_law 870 = .ok (.invokevirtual 107, 3) := by decide +kernel
theorem d_L_law_873 : decode c_L_law 873 = .ok (.istore 6, 2) := by decide +kernel
theorem d_L_law_875 : decode c_L_law 875 = .ok (.aload_n 2, 1) := by decide +kernel
theorem d_L_law_876 : decode c_L_law 876 = .ok (.invokevirtual 87, 3) := by decide +kernel
theorem d_L_law_879 : decode c_L_law 879 = .ok (.iload 5, 2) := by decide +kernel
theorem d_L_law_881 : decode c_L_law 881 = .ok (.if_icmp .eq 5, 3) := by decide +kernel
theorem d_L_law_884 : decode c_L_law 884 = .ok (.iconst 0, 1) := by decide +kernel
theorem d_L_law_885 : decode c_L_law 885 = .ok (.ireturn, 1) := by decide +kernel
theorem d_L_law_886 : decode c_L_law 886 = .ok (.iload 5, 2) := by decide +kernel
theorem d_L_law_888 : decode c_L_law 888 = .ok (.ifCond .ne 22, 3) := by decide +kernel
theorem d_L_law_891 : decode c_L_law 891 = .ok (.aload_n 3, 1) := by decide +kernel
theorem d_L_law_892 : decode c_L_law 892 = .ok (.iconst 0, 1) := by decide +kernel
theorem d_L_law_893 : decode c_L_law 893 = .ok (.laload, 1) := by decide +kernel
theorem d_L_law_894 : decode c_L_law 894 = .ok (.iload 6, 2) := by decide +kernel
theorem d_L_law_896 : decode c_L_law 896 = .ok (.ifCond .eq 7, 3) := by decide +kernel
theorem d_L_law_899 : decode c_L_law 899 = .ok (.lconst 1, 1) := by decide +kernel
theorem d_L_law_900 : decode c_L_law 900 = .ok (.goto 4, 3) := by decide +kernel
theorem d_L_law_903 : decode c_L_law 903 = .ok (.lconst 0, 1) := by decide +kernel
theorem d_L_law_904 : decode c_L_law 904 = .ok (.lcmp, 1) := by decide +kernel
theorem d_L_law_905 : decode c_L_law 905 = .ok (.ifCond .eq 5, 3) := by decide +kernel
theorem d_L_law_908 : decode c_L_law 908 = .ok (.iconst 0, 1) := by decide +kernel
theorem d_L_law_909 : decode c_L_law 909 = .ok (.ireturn, 1) := by decide +kernel
theorem d_L_law_910 : decode c_L_law 910 = .ok (.goto 1104, 3) := by decide +kernel
theorem d_L_law_913 : decode c_L_law 913 = .ok (.aload_n 1, 1) := by decide +kernel
theorem d_L_law_914 : decode c_L_law 914 = .ok (.aload_n 0, 1) := by decide +kernel
theorem d_L_law_915 : decode c_L_law 915 = .ok (.iload 4, 2) := by decide +kernel
theorem d_L_law_917 : decode c_L_law 917 = .ok (.iconst 1, 1) := by decide +kernel
theorem d_L_law_918 : decode c_L_law 918 = .ok (.iadd, 1) := by decide +kernel
theorem d_L_law_919 : decode c_L_law 919 = .ok (.iaload, 1) := by decide +kernel
theorem d_L_law_920 : decode c_L_law 920 = .ok (.aload_n 0, 1) := by decide +kernel
theorem d_L_law_921 : decode c_L_law 921 = .ok (.iload 4, 2) := by decide +kernel
theorem d_L_law_923 : decode c_L_law 923 = .ok (.iconst 2, 1) := by decide +kernel
theorem d_L_law_924 : decode c_L_law 924 = .ok (.iadd, 1) := by decide +kernel
theorem d_L_law_925 : decode c_L_law 925 = .ok (.iaload, 1) := by decide +kernel
theorem d_L_law_926 : decode c_L_law 926 = .ok (.i2l, 1) := by decide +kernel
theorem d_L_law_927 : decode c_L_law 927 = .ok (.bipush 32, 2) := by decide +kernel
theorem d_L_law_929 : decode c_L_law 929 = .ok (.lshl, 1) := by decide +kernel
theorem d_L_law_930 : decode c_L_law 930 = .ok (.aload_n 0, 1) := by decide +kernel
theorem d_L_law_931 : decode c_L_law 931 = .ok (.iload 4, 2) := by decide +kernel
theorem d_L_law_933 : decode c_L_law 933 = .ok (.iconst 3, 1) := by decide +kernel
theorem d_L_law_934 : decode c_L_law 934 = .ok (.iadd, 1) := by decide +kernel
theorem d_L_law_935 : decode c_L_law 935 = .ok (.iaload, 1) := by decide +kernel
theorem d_L_law_936 : decode c_L_law 936 = .ok (.i2l, 1) := by decide +kernel
theorem d_L_law_937 : decode c_L_law 937 = .ok (.ldc2_w 79, 3) := by decide +kernel
theorem d_L_law_940 : decode c_L_law 940 = .ok (.land, 1) := by decide +kernel
theorem d_L_law_941 : decode c_L_law 941 = .ok (.lor, 1) := by decide +kernel
theorem d_L_law_942 : decode c_L_law 942 = .ok (.aload_n 0, 1) := by decide +kernel
theorem d_L_law_943 : decode c_L_law 943 = .ok (.iload 4, 2) := by decide +kernel
theorem d_L_law_945 : decode c_L_law 945 = .ok (.iconst 4, 1) := by decide +kernel
theorem d_L_law_946 : decode c_L_law 946 = .ok (.iadd, 1) := by decide +kernel
theorem d_L_law_947 : decode c_L_law 947 = .ok (.iaload, 1) := by decide +kernel
theorem d_L_law_948 : decode c_L_law 948 = .ok (.i2l, 1) := by decide +kernel
theorem d_L_law_949 : decode c_L_law 949 = .ok (.bipush 32, 2) := by decide +kernel
theorem d_L_law_951 : decode c_L_law 951 = .ok (.lshl, 1) := by decide +kernel
theorem d_L_law_952 : decode c_L_law 952 = .ok (.aload_n 0, 1) := by decide +kernel
theorem d_L_law_953 : decode c_L_law 953 = .ok (.iload 4, 2) := by decide +kernel
theorem d_L_law_955 : decode c_L_law 955 = .ok (.iconst 5, 1) := by decide +kernel
theorem d_L_law_956 : decode c_L_law 956 = .ok (.iadd, 1) := by decide +kernel
theorem d_L_law_957 : decode c_L_law 957 = .ok (.iaload, 1) := by decide +kernel
theorem d_L_law_958 : decode c_L_law 958 = .ok (.i2l, 1) := by decide +kernel
theorem d_L_law_959 : decode c_L_law 959 = .ok (.ldc2_w 79, 3) := by decide +kernel
theorem d_L_law_962 : decode c_L_law 962 = .ok (.land, 1) := by decide +kernel
theorem d_L_law_963 : decode c_L_law 963 = .ok (.lor, 1) := by decide +kernel
theorem d_L_law_964 : decode c_L_law 964 = .ok (.aload_n 0, 1) := by decide +kernel
theorem d_L_law_965 : decode c_L_law 965 = .ok (.iload 4, 2) := by decide +kernel
theorem d_L_law_967 : decode c_L_law 967 = .ok (.bipush 6, 2) := by decide +kernel
theorem d_L_law_969 : decode c_L_law 969 = .ok (.iadd, 1) := by decide +kernel
theorem d_L_law_970 : decode c_L_law 970 = .ok (.iaload, 1) := by decide +kernel
theorem d_L_law_971 : decode c_L_law 971 = .ok (.i2l, 1) := by decide +kernel
theorem d_L_law_972 : decode c_L_law 972 = .ok (.bipush 32, 2) := by decide +kernel
theorem d_L_law_974 : decode c_L_law 974 = .ok (.lshl, 1) := by decide +kernel
theorem d_L_law_975 : decode c_L_law 975 = .ok (.aload_n 0, 1) := by decide +kernel
theorem d_L_law_976 : decode c_L_law 976 = .ok (.iload 4, 2) := by decide +kernel
theorem d_L_law_978 : decode c_L_law 978 = .ok (.bipush 7, 2) := by decide +kernel
theorem d_L_law_980 : decode c_L_law 980 = .ok (.iadd, 1) := by decide +kernel
theorem d_L_law_981 : decode c_L_law 981 = .ok (.iaload, 1) := by decide +kernel
theorem d_L_law_982 : decode c_L_law 982 = .ok (.i2l, 1) := by decide +kernel
theorem d_L_law_983 : decode c_L_law 983 = .ok (.ldc2_w 79, 3) := by decide +kernel
theorem d_L_law_986 : decode c_L_law 986 = .ok (.land, 1) := by decide +kernel
theorem d_L_law_987 : decode c_L_law 987 = .ok (.lor, 1) := by decide +kernel
theorem d_L_law_988 : decode c_L_law 988 = .ok (.aload_n 3, 1) := by decide +kernel
theorem d_L_law_989 : decode c_L_law 989 = .ok (.invokestatic 108, 3) := by decide +kernel
theorem d_L_law_992 : decode c_L_law 992 = .ok (.istore 5, 2) := by decide +kernel
theorem d_L_law_994 : decode c_L_law 994 = .ok (.aload_n 2, 1) := by decide +kernel
theorem d_L_law_995 : decode c_L_law 995 = .ok (.aload_n 0, 1) := by decide +kernel
theorem d_L_law_996 : decode c_L_law 996 = .ok (.iload 4, 2) := by decide +kernel
theorem d_L_law_998 : decode c_L_law 998 = .ok (.iconst 1, 1) := by decide +kernel
theorem d_L_law_999 : decode c_L_law 999 = .ok (.iadd, 1) := by decide +kernel
theorem d_L_law_1000 : decode c_L_law 1000 = .ok (.iaload, 1) := by decide +kernel
theorem d_L_law_1001 : decode c_L_law 1001 = .ok (.aload_n 0, 1) := by decide +kernel
theorem d_L_law_1002 : decode c_L_law 1002 = .ok (.iload 4, 2) := by decide +kernel
theorem d_L_law_1004 : decode c_L_law 1004 = .ok (.iconst 2, 1) := by decide +kernel
theorem d_L_law_1005 : decode c_L_law 1005 = .ok (.iadd, 1) := by decide +kernel
theorem d_L_law_1006 : decode c_L_law 1006 = .ok (.iaload, 1) := by decide +kernel
theorem d_L_law_1007 : decode c_L_law 1007 = .ok (.i2l, 1) := by decide +kernel
theorem d_L_law_1008 : decode c_L_law 1008 = .ok (.bipush 32, 2) := by decide +kernel
theorem d_L_law_1010 : decode c_L_law 1010 = .ok (.lshl, 1) := by decide +kernel
theorem d_L_law_1011 : decode c_L_law 1011 = .ok (.aload_n 0, 1) := by decide +kernel
theorem d_L_law_1012 : decode c_L_law 1012 = .ok (.iload 4, 2) := by decide +kernel
theorem d_L_law_1014 : decode c_L_law 1014 = .ok (.iconst 3, 1) := by decide +kernel
theorem d_L_law_1015 : decode c_L_law 1015 = .ok (.iadd, 1) := by decide +kernel
theorem d_L_law_1016 : decode c_L_law 1016 = .ok (.iaload, 1) := by decide +kernel
theorem d_L_law_1017 : decode c_L_law 1017 = .ok (.i2l, 1) := by decide +kernel
theorem d_L_law_1018 : decode c_L_law 1018 = .ok (.ldc2_w 79, 3) := by decide +kernel
theorem d_L_law_1021 : decode c_L_law 1021 = .ok (.land, 1) := by decide +kernel
theorem d_L_law_1022 : decode c_L_law 1022 = .ok (.lor, 1) := by decide +kernel
theorem d_L_law_1023 : decode c_L_law 1023 = .ok (.aload_n 0, 1) := by decide +kernel
theorem d_L_law_1024 : decode c_L_law 1024 = .ok (.iload 4, 2) := by decide +kernel
theorem d_L_law_1026 : decode c_L_law 1026 = .ok (.iconst 4, 1) := by decide +kernel
theorem d_L_law_1027 : decode c_L_law 1027 = .ok (.iadd, 1) := by decide +kernel
theorem d_L_law_1028 : decode c_L_law 1028 = .ok (.iaload, 1) := by decide +kernel
theorem d_L_law_1029 : decode c_L_law 1029 = .ok (.i2l, 1) := by decide +kernel
theorem d_L_law_1030 : decode c_L_law 1030 = .ok (.bipush 32, 2) := by decide +kernel
theorem d_L_law_1032 : decode c_L_law 1032 = .ok (.lshl, 1) := by decide +kernel
theorem d_L_law_1033 : decode c_L_law 1033 = .ok (.aload_n 0, 1) := by decide +kernel
theorem d_L_law_1034 : decode c_L_law 1034 = .ok (.iload 4, 2) := by decide +kernel
theorem d_L_law_1036 : decode c_L_law 1036 = .ok (.iconst 5, 1) := by decide +kernel
theorem d_L_law_1037 : decode c_L_law 1037 = .ok (.iadd, 1) := by decide +kernel
theorem d_L_law_1038 : decode c_L_law 1038 = .ok (.iaload, 1) := by decide +kernel
theorem d_L_law_1039 : decode c_L_law 1039 = .ok (.i2l, 1) := by decide +kernel
theorem d_L_law_1040 : decode c_L_law 1040 = .ok (.ldc2_w 79, 3) := by decide +kernel
theorem d_L_law_1043 : decode c_L_law 1043 = .ok (.land, 1) := by decide +kernel
theorem d_L_law_1044 : decode c_L_law 1044 = .ok (.lor, 1) := by decide +kernel
