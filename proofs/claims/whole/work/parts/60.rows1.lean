theorem dX12_findSorts_157 : decode cX12_findSorts 157 = .ok (.aload_n 0, 1) := by decide +kernel
theorem dX12_findSorts_158 : decode cX12_findSorts 158 = .ok (.getfield 55, 3) := by decide +kernel
theorem dX12_findSorts_161 : decode cX12_findSorts 161 = .ok (.aload_n 0, 1) := by decide +kernel
theorem dX12_findSorts_162 : decode cX12_findSorts 162 = .ok (.getfield 7, 3) := by decide +kernel
theorem dX12_findSorts_165 : decode cX12_findSorts 165 = .ok (.iload_n 2, 1) := by decide +kernel
theorem dX12_findSorts_166 : decode cX12_findSorts 166 = .ok (.iaload, 1) := by decide +kernel
theorem dX12_findSorts_167 : decode cX12_findSorts 167 = .ok (.iconst 1, 1) := by decide +kernel
theorem dX12_findSorts_168 : decode cX12_findSorts 168 = .ok (.iastore, 1) := by decide +kernel
theorem dX12_findSorts_169 : decode cX12_findSorts 169 = .ok (.iinc 2 1, 3) := by decide +kernel
theorem dX12_findSorts_172 : decode cX12_findSorts 172 = .ok (.goto (-111), 3) := by decide +kernel
theorem dX12_findSorts_175 : decode cX12_findSorts 175 = .ok (.iconst 0, 1) := by decide +kernel
theorem dX12_findSorts_176 : decode cX12_findSorts 176 = .ok (.istore_n 2, 1) := by decide +kernel
theorem dX12_findSorts_177 : decode cX12_findSorts 177 = .ok (.iload_n 2, 1) := by decide +kernel
theorem dX12_findSorts_178 : decode cX12_findSorts 178 = .ok (.aload_n 0, 1) := by decide +kernel
theorem dX12_findSorts_179 : decode cX12_findSorts 179 = .ok (.getfield 92, 3) := by decide +kernel
theorem dX12_findSorts_182 : decode cX12_findSorts 182 = .ok (.if_icmp .ge 38, 3) := by decide +kernel
theorem dX12_findSorts_185 : decode cX12_findSorts 185 = .ok (.aload_n 0, 1) := by decide +kernel
theorem dX12_findSorts_186 : decode cX12_findSorts 186 = .ok (.getfield 58, 3) := by decide +kernel
theorem dX12_findSorts_189 : decode cX12_findSorts 189 = .ok (.iload_n 2, 1) := by decide +kernel
theorem dX12_findSorts_190 : decode cX12_findSorts 190 = .ok (.iconst (-1), 1) := by decide +kernel
theorem dX12_findSorts_191 : decode cX12_findSorts 191 = .ok (.iastore, 1) := by decide +kernel
theorem dX12_findSorts_192 : decode cX12_findSorts 192 = .ok (.iload_n 1, 1) := by decide +kernel
theorem dX12_findSorts_193 : decode cX12_findSorts 193 = .ok (.aload_n 0, 1) := by decide +kernel
theorem dX12_findSorts_194 : decode cX12_findSorts 194 = .ok (.getfield 55, 3) := by decide +kernel
theorem dX12_findSorts_197 : decode cX12_findSorts 197 = .ok (.iload_n 2, 1) := by decide +kernel
theorem dX12_findSorts_198 : decode cX12_findSorts 198 = .ok (.iaload, 1) := by decide +kernel
theorem dX12_findSorts_199 : decode cX12_findSorts 199 = .ok (.iconst 1, 1) := by decide +kernel
theorem dX12_findSorts_200 : decode cX12_findSorts 200 = .ok (.if_icmp .ne 11, 3) := by decide +kernel
theorem dX12_findSorts_203 : decode cX12_findSorts 203 = .ok (.iconst 1, 1) := by decide +kernel
theorem dX12_findSorts_204 : decode cX12_findSorts 204 = .ok (.iload_n 2, 1) := by decide +kernel
theorem dX12_findSorts_205 : decode cX12_findSorts 205 = .ok (.ishl, 1) := by decide +kernel
theorem dX12_findSorts_206 : decode cX12_findSorts 206 = .ok (.iconst (-1), 1) := by decide +kernel
theorem dX12_findSorts_207 : decode cX12_findSorts 207 = .ok (.ixor, 1) := by decide +kernel
theorem dX12_findSorts_208 : decode cX12_findSorts 208 = .ok (.goto 4, 3) := by decide +kernel
theorem dX12_findSorts_211 : decode cX12_findSorts 211 = .ok (.iconst (-1), 1) := by decide +kernel
theorem dX12_findSorts_212 : decode cX12_findSorts 212 = .ok (.iand, 1) := by decide +kernel
theorem dX12_findSorts_213 : decode cX12_findSorts 213 = .ok (.istore_n 1, 1) := by decide +kernel
theorem dX12_findSorts_214 : decode cX12_findSorts 214 = .ok (.iinc 2 1, 3) := by decide +kernel
theorem dX12_findSorts_217 : decode cX12_findSorts 217 = .ok (.goto (-40), 3) := by decide +kernel
theorem dX12_findSorts_220 : decode cX12_findSorts 220 = .ok (.aload_n 0, 1) := by decide +kernel
theorem dX12_findSorts_221 : decode cX12_findSorts 221 = .ok (.iconst 0, 1) := by decide +kernel
theorem dX12_findSorts_222 : decode cX12_findSorts 222 = .ok (.putfield 119, 3) := by decide +kernel
theorem dX12_findSorts_225 : decode cX12_findSorts 225 = .ok (.iconst 0, 1) := by decide +kernel
theorem dX12_findSorts_226 : decode cX12_findSorts 226 = .ok (.istore_n 2, 1) := by decide +kernel
theorem dX12_findSorts_227 : decode cX12_findSorts 227 = .ok (.iload_n 2, 1) := by decide +kernel
theorem dX12_findSorts_228 : decode cX12_findSorts 228 = .ok (.aload_n 0, 1) := by decide +kernel
theorem dX12_findSorts_229 : decode cX12_findSorts 229 = .ok (.getfield 92, 3) := by decide +kernel
theorem dX12_findSorts_232 : decode cX12_findSorts 232 = .ok (.if_icmp .ge 89, 3) := by decide +kernel
theorem dX12_findSorts_235 : decode cX12_findSorts 235 = .ok (.aload_n 0, 1) := by decide +kernel
theorem dX12_findSorts_236 : decode cX12_findSorts 236 = .ok (.getfield 55, 3) := by decide +kernel
theorem dX12_findSorts_239 : decode cX12_findSorts 239 = .ok (.iload_n 2, 1) := by decide +kernel
theorem dX12_findSorts_240 : decode cX12_findSorts 240 = .ok (.iaload, 1) := by decide +kernel
theorem dX12_findSorts_241 : decode cX12_findSorts 241 = .ok (.iconst 1, 1) := by decide +kernel
theorem dX12_findSorts_242 : decode cX12_findSorts 242 = .ok (.if_icmp .eq 73, 3) := by decide +kernel
theorem dX12_findSorts_245 : decode cX12_findSorts 245 = .ok (.aload_n 0, 1) := by decide +kernel
theorem dX12_findSorts_246 : decode cX12_findSorts 246 = .ok (.getfield 58, 3) := by decide +kernel
theorem dX12_findSorts_249 : decode cX12_findSorts 249 = .ok (.iload_n 2, 1) := by decide +kernel
theorem dX12_findSorts_250 : decode cX12_findSorts 250 = .ok (.iaload, 1) := by decide +kernel
theorem dX12_findSorts_251 : decode cX12_findSorts 251 = .ok (.ifCond .lt 6, 3) := by decide +kernel
theorem dX12_findSorts_254 : decode cX12_findSorts 254 = .ok (.goto 61, 3) := by decide +kernel
theorem dX12_findSorts_257 : decode cX12_findSorts 257 = .ok (.aload_n 0, 1) := by decide +kernel
theorem dX12_findSorts_258 : decode cX12_findSorts 258 = .ok (.iconst 1, 1) := by decide +kernel
theorem dX12_findSorts_259 : decode cX12_findSorts 259 = .ok (.iload_n 2, 1) := by decide +kernel
theorem dX12_findSorts_260 : decode cX12_findSorts 260 = .ok (.ishl, 1) := by decide +kernel
theorem dX12_findSorts_261 : decode cX12_findSorts 261 = .ok (.iload_n 1, 1) := by decide +kernel
theorem dX12_findSorts_262 : decode cX12_findSorts 262 = .ok (.invokevirtual 122, 3) := by decide +kernel
theorem dX12_findSorts_265 : decode cX12_findSorts 265 = .ok (.istore_n 3, 1) := by decide +kernel
theorem dX12_findSorts_266 : decode cX12_findSorts 266 = .ok (.iconst 0, 1) := by decide +kernel
theorem dX12_findSorts_267 : decode cX12_findSorts 267 = .ok (.istore 4, 2) := by decide +kernel
theorem dX12_findSorts_269 : decode cX12_findSorts 269 = .ok (.iload 4, 2) := by decide +kernel
theorem dX12_findSorts_271 : decode cX12_findSorts 271 = .ok (.aload_n 0, 1) := by decide +kernel
theorem dX12_findSorts_272 : decode cX12_findSorts 272 = .ok (.getfield 92, 3) := by decide +kernel
theorem dX12_findSorts_275 : decode cX12_findSorts 275 = .ok (.if_icmp .ge 30, 3) := by decide +kernel
theorem dX12_findSorts_278 : decode cX12_findSorts 278 = .ok (.iload_n 3, 1) := by decide +kernel
theorem dX12_findSorts_279 : decode cX12_findSorts 279 = .ok (.iload 4, 2) := by decide +kernel
theorem dX12_findSorts_281 : decode cX12_findSorts 281 = .ok (.ishr, 1) := by decide +kernel
theorem dX12_findSorts_282 : decode cX12_findSorts 282 = .ok (.iconst 1, 1) := by decide +kernel
theorem dX12_findSorts_283 : decode cX12_findSorts 283 = .ok (.iand, 1) := by decide +kernel
theorem dX12_findSorts_284 : decode cX12_findSorts 284 = .ok (.iconst 1, 1) := by decide +kernel
theorem dX12_findSorts_285 : decode cX12_findSorts 285 = .ok (.if_icmp .ne 14, 3) := by decide +kernel
theorem dX12_findSorts_288 : decode cX12_findSorts 288 = .ok (.aload_n 0, 1) := by decide +kernel
theorem dX12_findSorts_289 : decode cX12_findSorts 289 = .ok (.getfield 58, 3) := by decide +kernel
theorem dX12_findSorts_292 : decode cX12_findSorts 292 = .ok (.iload 4, 2) := by decide +kernel
theorem dX12_findSorts_294 : decode cX12_findSorts 294 = .ok (.aload_n 0, 1) := by decide +kernel
theorem dX12_findSorts_295 : decode cX12_findSorts 295 = .ok (.getfield 119, 3) := by decide +kernel
theorem dX12_findSorts_298 : decode cX12_findSorts 298 = .ok (.iastore, 1) := by decide +kernel
theorem dX12_findSorts_299 : decode cX12_findSorts 299 = .ok (.iinc 4 1, 3) := by decide +kernel
theorem dX12_findSorts_302 : decode cX12_findSorts 302 = .ok (.goto (-33), 3) := by decide +kernel
theorem dX12_findSorts_305 : decode cX12_findSorts 305 = .ok (.aload_n 0, 1) := by decide +kernel
theorem dX12_findSorts_306 : decode cX12_findSorts 306 = .ok (.dup, 1) := by decide +kernel
theorem dX12_findSorts_307 : decode cX12_findSorts 307 = .ok (.getfield 119, 3) := by decide +kernel
theorem dX12_findSorts_310 : decode cX12_findSorts 310 = .ok (.iconst 1, 1) := by decide +kernel
theorem dX12_findSorts_311 : decode cX12_findSorts 311 = .ok (.iadd, 1) := by decide +kernel
theorem dX12_findSorts_312 : decode cX12_findSorts 312 = .ok (.putfield 119, 3) := by decide +kernel
theorem dX12_findSorts_315 : decode cX12_findSorts 315 = .ok (.iinc 2 1, 3) := by decide +kernel
theorem dX12_findSorts_318 : decode cX12_findSorts 318 = .ok (.goto (-91), 3) := by decide +kernel
theorem dX12_findSorts_321 : decode cX12_findSorts 321 = .ok (.aload_n 0, 1) := by decide +kernel
theorem dX12_findSorts_322 : decode cX12_findSorts 322 = .ok (.iconst 0, 1) := by decide +kernel
theorem dX12_findSorts_323 : decode cX12_findSorts 323 = .ok (.putfield 125, 3) := by decide +kernel
theorem dX12_findSorts_326 : decode cX12_findSorts 326 = .ok (.iconst 0, 1) := by decide +kernel
theorem dX12_findSorts_327 : decode cX12_findSorts 327 = .ok (.istore_n 2, 1) := by decide +kernel
theorem dX12_findSorts_328 : decode cX12_findSorts 328 = .ok (.aload_n 0, 1) := by decide +kernel
theorem dX12_findSorts_329 : decode cX12_findSorts 329 = .ok (.iconst 1, 1) := by decide +kernel
theorem dX12_findSorts_330 : decode cX12_findSorts 330 = .ok (.putfield 128, 3) := by decide +kernel
theorem dX12_findSorts_333 : decode cX12_findSorts 333 = .ok (.iconst 0, 1) := by decide +kernel
theorem dX12_findSorts_334 : decode cX12_findSorts 334 = .ok (.istore_n 3, 1) := by decide +kernel
theorem dX12_findSorts_335 : decode cX12_findSorts 335 = .ok (.iload_n 3, 1) := by decide +kernel
theorem dX12_findSorts_336 : decode cX12_findSorts 336 = .ok (.aload_n 0, 1) := by decide +kernel
theorem dX12_findSorts_337 : decode cX12_findSorts 337 = .ok (.getfield 92, 3) := by decide +kernel
theorem dX12_findSorts_340 : decode cX12_findSorts 340 = .ok (.if_icmp .ge 46, 3) := by decide +kernel
theorem dX12_findSorts_343 : decode cX12_findSorts 343 = .ok (.iload_n 2, 1) := by decide +kernel
theorem dX12_findSorts_344 : decode cX12_findSorts 344 = .ok (.iload_n 3, 1) := by decide +kernel
theorem dX12_findSorts_345 : decode cX12_findSorts 345 = .ok (.ishr, 1) := by decide +kernel
theorem dX12_findSorts_346 : decode cX12_findSorts 346 = .ok (.iconst 1, 1) := by decide +kernel
theorem dX12_findSorts_347 : decode cX12_findSorts 347 = .ok (.iand, 1) := by decide +kernel
theorem dX12_findSorts_348 : decode cX12_findSorts 348 = .ok (.ifCond .ne 32, 3) := by decide +kernel
theorem dX12_findSorts_351 : decode cX12_findSorts 351 = .ok (.iload_n 2, 1) := by decide +kernel
theorem dX12_findSorts_352 : decode cX12_findSorts 352 = .ok (.aload_n 0, 1) := by decide +kernel
theorem dX12_findSorts_353 : decode cX12_findSorts 353 = .ok (.iconst 1, 1) := by decide +kernel
theorem dX12_findSorts_354 : decode cX12_findSorts 354 = .ok (.iload_n 3, 1) := by decide +kernel
theorem dX12_findSorts_355 : decode cX12_findSorts 355 = .ok (.ishl, 1) := by decide +kernel
theorem dX12_findSorts_356 : decode cX12_findSorts 356 = .ok (.aload_n 0, 1) := by decide +kernel
theorem dX12_findSorts_357 : decode cX12_findSorts 357 = .ok (.invokevirtual 108, 3) := by decide +kernel
theorem dX12_findSorts_360 : decode cX12_findSorts 360 = .ok (.invokevirtual 122, 3) := by decide +kernel
theorem dX12_findSorts_363 : decode cX12_findSorts 363 = .ok (.ior, 1) := by decide +kernel
theorem dX12_findSorts_364 : decode cX12_findSorts 364 = .ok (.istore_n 2, 1) := by decide +kernel
theorem dX12_findSorts_365 : decode cX12_findSorts 365 = .ok (.aload_n 0, 1) := by decide +kernel
theorem dX12_findSorts_366 : decode cX12_findSorts 366 = .ok (.dup, 1) := by decide +kernel
theorem dX12_findSorts_367 : decode cX12_findSorts 367 = .ok (.getfield 125, 3) := by decide +kernel
theorem dX12_findSorts_370 : decode cX12_findSorts 370 = .ok (.iconst 1, 1) := by decide +kernel
theorem dX12_findSorts_371 : decode cX12_findSorts 371 = .ok (.iadd, 1) := by decide +kernel
theorem dX12_findSorts_372 : decode cX12_findSorts 372 = .ok (.putfield 125, 3) := by decide +kernel
theorem dX12_findSorts_375 : decode cX12_findSorts 375 = .ok (.aload_n 0, 1) := by decide +kernel
theorem dX12_findSorts_376 : decode cX12_findSorts 376 = .ok (.iload_n 3, 1) := by decide +kernel
theorem dX12_findSorts_377 : decode cX12_findSorts 377 = .ok (.invokevirtual 131, 3) := by decide +kernel
theorem dX12_findSorts_380 : decode cX12_findSorts 380 = .ok (.iinc 3 1, 3) := by decide +kernel
theorem dX12_findSorts_383 : decode cX12_findSorts 383 = .ok (.goto (-48), 3) := by decide +kernel
theorem dX12_findSorts_386 : decode cX12_findSorts 386 = .ok (.return_, 1) := by decide +kernel
set_option maxRecDepth 20000 in
theorem ggX12_findHalves_X12_all : GoodIn wsX12_findHalves wsX12_all := goodIn_r _ [12, 1, 17, 18, 19, 20, 21, 22, 23, 24, 25, 26, 27, 28, 29, 30, 31, 32, 33, 34, 35, 36, 37, 38, 39, 40, 41, 42, 43, 44, 45, 46, 47, 48, 49, 50, 51, 52, 53] rfl (by decide +kernel)
set_option maxRecDepth 20000 in
theorem gX12_findHalves_X12_all : GoodIn wsX12_findHalves (wsV RX12 108 RX12 yX12_all wsX12_all) := goodIn_app (goodIn_of _ (by decide +kernel)) ggX12_findHalves_X12_all
set_option maxRecDepth 20000 in
theorem ggX12_findHalves_X12_grown : GoodIn wsX12_findHalves wsX12_grown := goodIn_r _ [16, 3, 4, 5, 6, 17, 18, 19, 20, 21, 22, 23, 24, 25, 26, 27, 28, 29, 30, 31, 32, 33, 34, 35, 36, 37, 38, 39, 40, 41, 42, 43, 44, 45, 46, 47, 48, 49, 50, 51, 52, 53] rfl (by decide +kernel)
set_option maxRecDepth 20000 in
theorem gX12_findHalves_X12_grown : GoodIn wsX12_findHalves (wsV RX12 122 RX12 yX12_grown wsX12_grown) := goodIn_app (goodIn_of _ (by decide +kernel)) ggX12_findHalves_X12_grown
theorem dX12_findHalves_0 : decode cX12_findHalves 0 = .ok (.aload_n 0, 1) := by decide +kernel
theorem dX12_findHalves_1 : decode cX12_findHalves 1 = .ok (.iconst 1, 1) := by decide +kernel
theorem dX12_findHalves_2 : decode cX12_findHalves 2 = .ok (.iload_n 1, 1) := by decide +kernel
theorem dX12_findHalves_3 : decode cX12_findHalves 3 = .ok (.ishl, 1) := by decide +kernel
theorem dX12_findHalves_4 : decode cX12_findHalves 4 = .ok (.aload_n 0, 1) := by decide +kernel
theorem dX12_findHalves_5 : decode cX12_findHalves 5 = .ok (.invokevirtual 108, 3) := by decide +kernel
theorem dX12_findHalves_8 : decode cX12_findHalves 8 = .ok (.invokevirtual 122, 3) := by decide +kernel
theorem dX12_findHalves_11 : decode cX12_findHalves 11 = .ok (.istore_n 2, 1) := by decide +kernel
theorem dX12_findHalves_12 : decode cX12_findHalves 12 = .ok (.iconst 0, 1) := by decide +kernel
theorem dX12_findHalves_13 : decode cX12_findHalves 13 = .ok (.istore_n 3, 1) := by decide +kernel
theorem dX12_findHalves_14 : decode cX12_findHalves 14 = .ok (.iload_n 3, 1) := by decide +kernel
theorem dX12_findHalves_15 : decode cX12_findHalves 15 = .ok (.aload_n 0, 1) := by decide +kernel
theorem dX12_findHalves_16 : decode cX12_findHalves 16 = .ok (.getfield 92, 3) := by decide +kernel
theorem dX12_findHalves_19 : decode cX12_findHalves 19 = .ok (.if_icmp .ge 25, 3) := by decide +kernel
theorem dX12_findHalves_22 : decode cX12_findHalves 22 = .ok (.aload_n 0, 1) := by decide +kernel
theorem dX12_findHalves_23 : decode cX12_findHalves 23 = .ok (.getfield 70, 3) := by decide +kernel
theorem dX12_findHalves_26 : decode cX12_findHalves 26 = .ok (.iload_n 3, 1) := by decide +kernel
theorem dX12_findHalves_27 : decode cX12_findHalves 27 = .ok (.iload_n 3, 1) := by decide +kernel
theorem dX12_findHalves_28 : decode cX12_findHalves 28 = .ok (.iload_n 1, 1) := by decide +kernel
theorem dX12_findHalves_29 : decode cX12_findHalves 29 = .ok (.if_icmp .ne 7, 3) := by decide +kernel
theorem dX12_findHalves_32 : decode cX12_findHalves 32 = .ok (.iconst 1, 1) := by decide +kernel
theorem dX12_findHalves_33 : decode cX12_findHalves 33 = .ok (.goto 4, 3) := by decide +kernel
theorem dX12_findHalves_36 : decode cX12_findHalves 36 = .ok (.iconst 0, 1) := by decide +kernel
theorem dX12_findHalves_37 : decode cX12_findHalves 37 = .ok (.iastore, 1) := by decide +kernel
theorem dX12_findHalves_38 : decode cX12_findHalves 38 = .ok (.iinc 3 1, 3) := by decide +kernel
theorem dX12_findHalves_41 : decode cX12_findHalves 41 = .ok (.goto (-27), 3) := by decide +kernel
theorem dX12_findHalves_44 : decode cX12_findHalves 44 = .ok (.iconst 1, 1) := by decide +kernel
theorem dX12_findHalves_45 : decode cX12_findHalves 45 = .ok (.istore_n 3, 1) := by decide +kernel
theorem dX12_findHalves_46 : decode cX12_findHalves 46 = .ok (.iload_n 3, 1) := by decide +kernel
theorem dX12_findHalves_47 : decode cX12_findHalves 47 = .ok (.ifCond .eq 154, 3) := by decide +kernel
theorem dX12_findHalves_50 : decode cX12_findHalves 50 = .ok (.iconst 0, 1) := by decide +kernel
theorem dX12_findHalves_51 : decode cX12_findHalves 51 = .ok (.istore_n 3, 1) := by decide +kernel
theorem dX12_findHalves_52 : decode cX12_findHalves 52 = .ok (.iconst 0, 1) := by decide +kernel
theorem dX12_findHalves_53 : decode cX12_findHalves 53 = .ok (.istore 4, 2) := by decide +kernel
theorem dX12_findHalves_55 : decode cX12_findHalves 55 = .ok (.iload 4, 2) := by decide +kernel
theorem dX12_findHalves_57 : decode cX12_findHalves 57 = .ok (.aload_n 0, 1) := by decide +kernel
theorem dX12_findHalves_58 : decode cX12_findHalves 58 = .ok (.getfield 97, 3) := by decide +kernel
theorem dX12_findHalves_61 : decode cX12_findHalves 61 = .ok (.if_icmp .ge 137, 3) := by decide +kernel
theorem dX12_findHalves_64 : decode cX12_findHalves 64 = .ok (.aload_n 0, 1) := by decide +kernel
theorem dX12_findHalves_65 : decode cX12_findHalves 65 = .ok (.getfield 19, 3) := by decide +kernel
theorem dX12_findHalves_68 : decode cX12_findHalves 68 = .ok (.iload 4, 2) := by decide +kernel
theorem dX12_findHalves_70 : decode cX12_findHalves 70 = .ok (.baload, 1) := by decide +kernel
theorem dX12_findHalves_71 : decode cX12_findHalves 71 = .ok (.ifCond .eq 121, 3) := by decide +kernel
theorem dX12_findHalves_74 : decode cX12_findHalves 74 = .ok (.iload_n 2, 1) := by decide +kernel
theorem dX12_findHalves_75 : decode cX12_findHalves 75 = .ok (.aload_n 0, 1) := by decide +kernel
theorem dX12_findHalves_76 : decode cX12_findHalves 76 = .ok (.getfield 7, 3) := by decide +kernel
theorem dX12_findHalves_79 : decode cX12_findHalves 79 = .ok (.iload 4, 2) := by decide +kernel
theorem dX12_findHalves_81 : decode cX12_findHalves 81 = .ok (.iaload, 1) := by decide +kernel
theorem dX12_findHalves_82 : decode cX12_findHalves 82 = .ok (.ishr, 1) := by decide +kernel
theorem dX12_findHalves_83 : decode cX12_findHalves 83 = .ok (.iconst 1, 1) := by decide +kernel
theorem dX12_findHalves_84 : decode cX12_findHalves 84 = .ok (.iand, 1) := by decide +kernel
theorem dX12_findHalves_85 : decode cX12_findHalves 85 = .ok (.ifCond .ne 6, 3) := by decide +kernel
theorem dX12_findHalves_88 : decode cX12_findHalves 88 = .ok (.goto 104, 3) := by decide +kernel
theorem dX12_findHalves_91 : decode cX12_findHalves 91 = .ok (.aload_n 0, 1) := by decide +kernel
theorem dX12_findHalves_92 : decode cX12_findHalves 92 = .ok (.getfield 70, 3) := by decide +kernel
theorem dX12_findHalves_95 : decode cX12_findHalves 95 = .ok (.aload_n 0, 1) := by decide +kernel
theorem dX12_findHalves_96 : decode cX12_findHalves 96 = .ok (.getfield 7, 3) := by decide +kernel
theorem dX12_findHalves_99 : decode cX12_findHalves 99 = .ok (.iload 4, 2) := by decide +kernel
theorem dX12_findHalves_101 : decode cX12_findHalves 101 = .ok (.iaload, 1) := by decide +kernel
theorem dX12_findHalves_102 : decode cX12_findHalves 102 = .ok (.iaload, 1) := by decide +kernel
theorem dX12_findHalves_103 : decode cX12_findHalves 103 = .ok (.istore 5, 2) := by decide +kernel
theorem dX12_findHalves_105 : decode cX12_findHalves 105 = .ok (.aload_n 0, 1) := by decide +kernel
theorem dX12_findHalves_106 : decode cX12_findHalves 106 = .ok (.getfield 70, 3) := by decide +kernel
theorem dX12_findHalves_109 : decode cX12_findHalves 109 = .ok (.aload_n 0, 1) := by decide +kernel
theorem dX12_findHalves_110 : decode cX12_findHalves 110 = .ok (.getfield 13, 3) := by decide +kernel
theorem dX12_findHalves_113 : decode cX12_findHalves 113 = .ok (.iload 4, 2) := by decide +kernel
theorem dX12_findHalves_115 : decode cX12_findHalves 115 = .ok (.iaload, 1) := by decide +kernel
theorem dX12_findHalves_116 : decode cX12_findHalves 116 = .ok (.iaload, 1) := by decide +kernel
theorem dX12_findHalves_117 : decode cX12_findHalves 117 = .ok (.istore 6, 2) := by decide +kernel
theorem dX12_findHalves_119 : decode cX12_findHalves 119 = .ok (.iload 5, 2) := by decide +kernel
theorem dX12_findHalves_121 : decode cX12_findHalves 121 = .ok (.ifCond .eq 15, 3) := by decide +kernel
theorem dX12_findHalves_124 : decode cX12_findHalves 124 = .ok (.iload 5, 2) := by decide +kernel
theorem dX12_findHalves_126 : decode cX12_findHalves 126 = .ok (.iload 6, 2) := by decide +kernel
theorem dX12_findHalves_128 : decode cX12_findHalves 128 = .ok (.if_icmp .ne 8, 3) := by decide +kernel
theorem dX12_findHalves_131 : decode cX12_findHalves 131 = .ok (.aload_n 0, 1) := by decide +kernel
theorem dX12_findHalves_132 : decode cX12_findHalves 132 = .ok (.iconst 0, 1) := by decide +kernel
theorem dX12_findHalves_133 : decode cX12_findHalves 133 = .ok (.putfield 128, 3) := by decide +kernel
theorem dX12_findHalves_136 : decode cX12_findHalves 136 = .ok (.iload 5, 2) := by decide +kernel
theorem dX12_findHalves_138 : decode cX12_findHalves 138 = .ok (.ifCond .eq 26, 3) := by decide +kernel
theorem dX12_findHalves_141 : decode cX12_findHalves 141 = .ok (.iload 6, 2) := by decide +kernel
theorem dX12_findHalves_143 : decode cX12_findHalves 143 = .ok (.ifCond .ne 21, 3) := by decide +kernel
theorem dX12_findHalves_146 : decode cX12_findHalves 146 = .ok (.aload_n 0, 1) := by decide +kernel
theorem dX12_findHalves_147 : decode cX12_findHalves 147 = .ok (.getfield 70, 3) := by decide +kernel
theorem dX12_findHalves_150 : decode cX12_findHalves 150 = .ok (.aload_n 0, 1) := by decide +kernel
theorem dX12_findHalves_151 : decode cX12_findHalves 151 = .ok (.getfield 13, 3) := by decide +kernel
theorem dX12_findHalves_154 : decode cX12_findHalves 154 = .ok (.iload 4, 2) := by decide +kernel
theorem dX12_findHalves_156 : decode cX12_findHalves 156 = .ok (.iaload, 1) := by decide +kernel
theorem dX12_findHalves_157 : decode cX12_findHalves 157 = .ok (.iconst 3, 1) := by decide +kernel
theorem dX12_findHalves_158 : decode cX12_findHalves 158 = .ok (.iload 5, 2) := by decide +kernel
theorem dX12_findHalves_160 : decode cX12_findHalves 160 = .ok (.isub, 1) := by decide +kernel
theorem dX12_findHalves_161 : decode cX12_findHalves 161 = .ok (.iastore, 1) := by decide +kernel
theorem dX12_findHalves_162 : decode cX12_findHalves 162 = .ok (.iconst 1, 1) := by decide +kernel
theorem dX12_findHalves_163 : decode cX12_findHalves 163 = .ok (.istore_n 3, 1) := by decide +kernel
theorem dX12_findHalves_164 : decode cX12_findHalves 164 = .ok (.iload 6, 2) := by decide +kernel
theorem dX12_findHalves_166 : decode cX12_findHalves 166 = .ok (.ifCond .eq 26, 3) := by decide +kernel
theorem dX12_findHalves_169 : decode cX12_findHalves 169 = .ok (.iload 5, 2) := by decide +kernel
theorem dX12_findHalves_171 : decode cX12_findHalves 171 = .ok (.ifCond .ne 21, 3) := by decide +kernel
theorem dX12_findHalves_174 : decode cX12_findHalves 174 = .ok (.aload_n 0, 1) := by decide +kernel
theorem dX12_findHalves_175 : decode cX12_findHalves 175 = .ok (.getfield 70, 3) := by decide +kernel
theorem dX12_findHalves_178 : decode cX12_findHalves 178 = .ok (.aload_n 0, 1) := by decide +kernel
theorem dX12_findHalves_179 : decode cX12_findHalves 179 = .ok (.getfield 7, 3) := by decide +kernel
theorem dX12_findHalves_182 : decode cX12_findHalves 182 = .ok (.iload 4, 2) := by decide +kernel
theorem dX12_findHalves_184 : decode cX12_findHalves 184 = .ok (.iaload, 1) := by decide +kernel
theorem dX12_findHalves_185 : decode cX12_findHalves 185 = .ok (.iconst 3, 1) := by decide +kernel
theorem dX12_findHalves_186 : decode cX12_findHalves 186 = .ok (.iload 6, 2) := by decide +kernel
theorem dX12_findHalves_188 : decode cX12_findHalves 188 = .ok (.isub, 1) := by decide +kernel
theorem dX12_findHalves_189 : decode cX12_findHalves 189 = .ok (.iastore, 1) := by decide +kernel
theorem dX12_findHalves_190 : decode cX12_findHalves 190 = .ok (.iconst 1, 1) := by decide +kernel
theorem dX12_findHalves_191 : decode cX12_findHalves 191 = .ok (.istore_n 3, 1) := by decide +kernel
theorem dX12_findHalves_192 : decode cX12_findHalves 192 = .ok (.iinc 4 1, 3) := by decide +kernel
theorem dX12_findHalves_195 : decode cX12_findHalves 195 = .ok (.goto (-140), 3) := by decide +kernel
theorem dX12_findHalves_198 : decode cX12_findHalves 198 = .ok (.goto (-152), 3) := by decide +kernel
theorem dX12_findHalves_201 : decode cX12_findHalves 201 = .ok (.return_, 1) := by decide +kernel
set_option maxRecDepth 20000 in
theorem ggX12_findCover_X12_all : GoodIn wsX12_findCover wsX12_all := goodIn_r _ [13, 6, 17, 18, 19, 20, 21, 22, 23, 24, 25, 26, 27, 28, 29, 30, 31, 32, 33, 34, 35, 36, 37, 38, 39, 40, 41, 42, 43, 44, 45, 46, 47, 48, 49, 50, 51, 52, 53] rfl (by decide +kernel)
set_option maxRecDepth 20000 in
theorem gX12_findCover_X12_all : GoodIn wsX12_findCover (wsV RX12 108 RX12 yX12_all wsX12_all) := goodIn_app (goodIn_of _ (by decide +kernel)) ggX12_findCover_X12_all
set_option maxRecDepth 20000 in
theorem ggX12_findCover_X12_bits : GoodIn wsX12_findCover wsX12_bits := goodIn_r _ [16] rfl (by decide +kernel)
set_option maxRecDepth 20000 in
theorem gX12_findCover_X12_bits : GoodIn wsX12_findCover (va_wsS RX12 137 yX12_bits wsX12_bits) := goodIn_app (goodIn_of _ (by decide +kernel)) ggX12_findCover_X12_bits
theorem dX12_findCover_0 : decode cX12_findCover 0 = .ok (.iconst 0, 1) := by decide +kernel
theorem dX12_findCover_1 : decode cX12_findCover 1 = .ok (.istore_n 1, 1) := by decide +kernel
theorem dX12_findCover_2 : decode cX12_findCover 2 = .ok (.iconst 0, 1) := by decide +kernel
theorem dX12_findCover_3 : decode cX12_findCover 3 = .ok (.istore_n 2, 1) := by decide +kernel
theorem dX12_findCover_4 : decode cX12_findCover 4 = .ok (.iload_n 2, 1) := by decide +kernel
theorem dX12_findCover_5 : decode cX12_findCover 5 = .ok (.aload_n 0, 1) := by decide +kernel
theorem dX12_findCover_6 : decode cX12_findCover 6 = .ok (.getfield 97, 3) := by decide +kernel
theorem dX12_findCover_9 : decode cX12_findCover 9 = .ok (.if_icmp .ge 49, 3) := by decide +kernel
theorem dX12_findCover_12 : decode cX12_findCover 12 = .ok (.aload_n 0, 1) := by decide +kernel
theorem dX12_findCover_13 : decode cX12_findCover 13 = .ok (.getfield 61, 3) := by decide +kernel
theorem dX12_findCover_16 : decode cX12_findCover 16 = .ok (.iload_n 2, 1) := by decide +kernel
theorem dX12_findCover_17 : decode cX12_findCover 17 = .ok (.iconst 0, 1) := by decide +kernel
theorem dX12_findCover_18 : decode cX12_findCover 18 = .ok (.bastore, 1) := by decide +kernel
theorem dX12_findCover_19 : decode cX12_findCover 19 = .ok (.iload_n 1, 1) := by decide +kernel
theorem dX12_findCover_20 : decode cX12_findCover 20 = .ok (.aload_n 0, 1) := by decide +kernel
theorem dX12_findCover_21 : decode cX12_findCover 21 = .ok (.getfield 19, 3) := by decide +kernel
theorem dX12_findCover_24 : decode cX12_findCover 24 = .ok (.iload_n 2, 1) := by decide +kernel
theorem dX12_findCover_25 : decode cX12_findCover 25 = .ok (.baload, 1) := by decide +kernel
theorem dX12_findCover_26 : decode cX12_findCover 26 = .ok (.ifCond .eq 23, 3) := by decide +kernel
theorem dX12_findCover_29 : decode cX12_findCover 29 = .ok (.iconst 1, 1) := by decide +kernel
theorem dX12_findCover_30 : decode cX12_findCover 30 = .ok (.aload_n 0, 1) := by decide +kernel
theorem dX12_findCover_31 : decode cX12_findCover 31 = .ok (.getfield 7, 3) := by decide +kernel
theorem dX12_findCover_34 : decode cX12_findCover 34 = .ok (.iload_n 2, 1) := by decide +kernel
theorem dX12_findCover_35 : decode cX12_findCover 35 = .ok (.iaload, 1) := by decide +kernel
theorem dX12_findCover_36 : decode cX12_findCover 36 = .ok (.ishl, 1) := by decide +kernel
theorem dX12_findCover_37 : decode cX12_findCover 37 = .ok (.iconst 1, 1) := by decide +kernel
theorem dX12_findCover_38 : decode cX12_findCover 38 = .ok (.aload_n 0, 1) := by decide +kernel
theorem dX12_findCover_39 : decode cX12_findCover 39 = .ok (.getfield 13, 3) := by decide +kernel
theorem dX12_findCover_42 : decode cX12_findCover 42 = .ok (.iload_n 2, 1) := by decide +kernel
theorem dX12_findCover_43 : decode cX12_findCover 43 = .ok (.iaload, 1) := by decide +kernel
theorem dX12_findCover_44 : decode cX12_findCover 44 = .ok (.ishl, 1) := by decide +kernel
theorem dX12_findCover_45 : decode cX12_findCover 45 = .ok (.ior, 1) := by decide +kernel
theorem dX12_findCover_46 : decode cX12_findCover 46 = .ok (.goto 4, 3) := by decide +kernel
theorem dX12_findCover_49 : decode cX12_findCover 49 = .ok (.iconst 0, 1) := by decide +kernel
theorem dX12_findCover_50 : decode cX12_findCover 50 = .ok (.ior, 1) := by decide +kernel
theorem dX12_findCover_51 : decode cX12_findCover 51 = .ok (.istore_n 1, 1) := by decide +kernel
theorem dX12_findCover_52 : decode cX12_findCover 52 = .ok (.iinc 2 1, 3) := by decide +kernel
theorem dX12_findCover_55 : decode cX12_findCover 55 = .ok (.goto (-51), 3) := by decide +kernel
theorem dX12_findCover_58 : decode cX12_findCover 58 = .ok (.aload_n 0, 1) := by decide +kernel
theorem dX12_findCover_59 : decode cX12_findCover 59 = .ok (.iload_n 1, 1) := by decide +kernel
theorem dX12_findCover_60 : decode cX12_findCover 60 = .ok (.aload_n 0, 1) := by decide +kernel
theorem dX12_findCover_61 : decode cX12_findCover 61 = .ok (.invokevirtual 108, 3) := by decide +kernel
theorem dX12_findCover_64 : decode cX12_findCover 64 = .ok (.if_icmp .ne 20, 3) := by decide +kernel
theorem dX12_findCover_67 : decode cX12_findCover 67 = .ok (.aload_n 0, 1) := by decide +kernel
theorem dX12_findCover_68 : decode cX12_findCover 68 = .ok (.getfield 92, 3) := by decide +kernel
theorem dX12_findCover_71 : decode cX12_findCover 71 = .ok (.aload_n 0, 1) := by decide +kernel
theorem dX12_findCover_72 : decode cX12_findCover 72 = .ok (.getfield 30, 3) := by decide +kernel
theorem dX12_findCover_75 : decode cX12_findCover 75 = .ok (.aload_n 0, 1) := by decide +kernel
theorem dX12_findCover_76 : decode cX12_findCover 76 = .ok (.invokevirtual 108, 3) := by decide +kernel
theorem dX12_findCover_79 : decode cX12_findCover 79 = .ok (.baload, 1) := by decide +kernel
theorem dX12_findCover_80 : decode cX12_findCover 80 = .ok (.isub, 1) := by decide +kernel
theorem dX12_findCover_81 : decode cX12_findCover 81 = .ok (.goto 5, 3) := by decide +kernel
theorem dX12_findCover_84 : decode cX12_findCover 84 = .ok (.bipush (-3), 2) := by decide +kernel
theorem dX12_findCover_86 : decode cX12_findCover 86 = .ok (.putfield 134, 3) := by decide +kernel
theorem dX12_findCover_89 : decode cX12_findCover 89 = .ok (.aload_n 0, 1) := by decide +kernel
theorem dX12_findCover_90 : decode cX12_findCover 90 = .ok (.invokevirtual 108, 3) := by decide +kernel
theorem dX12_findCover_93 : decode cX12_findCover 93 = .ok (.istore_n 2, 1) := by decide +kernel
theorem dX12_findCover_94 : decode cX12_findCover 94 = .ok (.aload_n 0, 1) := by decide +kernel
theorem dX12_findCover_95 : decode cX12_findCover 95 = .ok (.getfield 134, 3) := by decide +kernel
theorem dX12_findCover_98 : decode cX12_findCover 98 = .ok (.istore_n 3, 1) := by decide +kernel
theorem dX12_findCover_99 : decode cX12_findCover 99 = .ok (.iconst 0, 1) := by decide +kernel
theorem dX12_findCover_100 : decode cX12_findCover 100 = .ok (.istore 4, 2) := by decide +kernel
theorem dX12_findCover_102 : decode cX12_findCover 102 = .ok (.iload 4, 2) := by decide +kernel
theorem dX12_findCover_104 : decode cX12_findCover 104 = .ok (.aload_n 0, 1) := by decide +kernel
theorem dX12_findCover_105 : decode cX12_findCover 105 = .ok (.getfield 97, 3) := by decide +kernel
theorem dX12_findCover_108 : decode cX12_findCover 108 = .ok (.if_icmp .ge 86, 3) := by decide +kernel
theorem dX12_findCover_111 : decode cX12_findCover 111 = .ok (.iload_n 3, 1) := by decide +kernel
theorem dX12_findCover_112 : decode cX12_findCover 112 = .ok (.ifCond .le 82, 3) := by decide +kernel
theorem dX12_findCover_115 : decode cX12_findCover 115 = .ok (.aload_n 0, 1) := by decide +kernel
theorem dX12_findCover_116 : decode cX12_findCover 116 = .ok (.getfield 19, 3) := by decide +kernel
theorem dX12_findCover_119 : decode cX12_findCover 119 = .ok (.iload 4, 2) := by decide +kernel
theorem dX12_findCover_121 : decode cX12_findCover 121 = .ok (.baload, 1) := by decide +kernel
theorem dX12_findCover_122 : decode cX12_findCover 122 = .ok (.ifCond .ne 6, 3) := by decide +kernel
theorem dX12_findCover_125 : decode cX12_findCover 125 = .ok (.goto 63, 3) := by decide +kernel
theorem dX12_findCover_128 : decode cX12_findCover 128 = .ok (.iload_n 2, 1) := by decide +kernel
theorem dX12_findCover_129 : decode cX12_findCover 129 = .ok (.iconst 1, 1) := by decide +kernel
theorem dX12_findCover_130 : decode cX12_findCover 130 = .ok (.aload_n 0, 1) := by decide +kernel
theorem dX12_findCover_131 : decode cX12_findCover 131 = .ok (.getfield 7, 3) := by decide +kernel
theorem dX12_findCover_134 : decode cX12_findCover 134 = .ok (.iload 4, 2) := by decide +kernel
theorem dX12_findCover_136 : decode cX12_findCover 136 = .ok (.iaload, 1) := by decide +kernel
theorem dX12_findCover_137 : decode cX12_findCover 137 = .ok (.ishl, 1) := by decide +kernel
theorem dX12_findCover_138 : decode cX12_findCover 138 = .ok (.iconst (-1), 1) := by decide +kernel
theorem dX12_findCover_139 : decode cX12_findCover 139 = .ok (.ixor, 1) := by decide +kernel
theorem dX12_findCover_140 : decode cX12_findCover 140 = .ok (.iand, 1) := by decide +kernel
theorem dX12_findCover_141 : decode cX12_findCover 141 = .ok (.iconst 1, 1) := by decide +kernel
theorem dX12_findCover_142 : decode cX12_findCover 142 = .ok (.aload_n 0, 1) := by decide +kernel
theorem dX12_findCover_143 : decode cX12_findCover 143 = .ok (.getfield 13, 3) := by decide +kernel
theorem dX12_findCover_146 : decode cX12_findCover 146 = .ok (.iload 4, 2) := by decide +kernel
theorem dX12_findCover_148 : decode cX12_findCover 148 = .ok (.iaload, 1) := by decide +kernel
theorem dX12_findCover_149 : decode cX12_findCover 149 = .ok (.ishl, 1) := by decide +kernel
theorem dX12_findCover_150 : decode cX12_findCover 150 = .ok (.iconst (-1), 1) := by decide +kernel
theorem dX12_findCover_151 : decode cX12_findCover 151 = .ok (.ixor, 1) := by decide +kernel
theorem dX12_findCover_152 : decode cX12_findCover 152 = .ok (.iand, 1) := by decide +kernel
theorem dX12_findCover_153 : decode cX12_findCover 153 = .ok (.istore 5, 2) := by decide +kernel
theorem dX12_findCover_155 : decode cX12_findCover 155 = .ok (.iload 5, 2) := by decide +kernel
theorem dX12_findCover_157 : decode cX12_findCover 157 = .ok (.invokestatic 137, 3) := by decide +kernel
theorem dX12_findCover_160 : decode cX12_findCover 160 = .ok (.aload_n 0, 1) := by decide +kernel
theorem dX12_findCover_161 : decode cX12_findCover 161 = .ok (.getfield 30, 3) := by decide +kernel
theorem dX12_findCover_164 : decode cX12_findCover 164 = .ok (.iload 5, 2) := by decide +kernel
theorem dX12_findCover_166 : decode cX12_findCover 166 = .ok (.baload, 1) := by decide +kernel
theorem dX12_findCover_167 : decode cX12_findCover 167 = .ok (.isub, 1) := by decide +kernel
theorem dX12_findCover_168 : decode cX12_findCover 168 = .ok (.iload_n 3, 1) := by decide +kernel
theorem dX12_findCover_169 : decode cX12_findCover 169 = .ok (.iconst 1, 1) := by decide +kernel
theorem dX12_findCover_170 : decode cX12_findCover 170 = .ok (.isub, 1) := by decide +kernel
theorem dX12_findCover_171 : decode cX12_findCover 171 = .ok (.if_icmp .ne 17, 3) := by decide +kernel
theorem dX12_findCover_174 : decode cX12_findCover 174 = .ok (.aload_n 0, 1) := by decide +kernel
theorem dX12_findCover_175 : decode cX12_findCover 175 = .ok (.getfield 61, 3) := by decide +kernel
theorem dX12_findCover_178 : decode cX12_findCover 178 = .ok (.iload 4, 2) := by decide +kernel
theorem dX12_findCover_180 : decode cX12_findCover 180 = .ok (.iconst 1, 1) := by decide +kernel
theorem dX12_findCover_181 : decode cX12_findCover 181 = .ok (.bastore, 1) := by decide +kernel
theorem dX12_findCover_182 : decode cX12_findCover 182 = .ok (.iload 5, 2) := by decide +kernel
theorem dX12_findCover_184 : decode cX12_findCover 184 = .ok (.istore_n 2, 1) := by decide +kernel
theorem dX12_findCover_185 : decode cX12_findCover 185 = .ok (.iinc 3 (-1), 3) := by decide +kernel
theorem dX12_findCover_188 : decode cX12_findCover 188 = .ok (.iinc 4 1, 3) := by decide +kernel
theorem dX12_findCover_191 : decode cX12_findCover 191 = .ok (.goto (-89), 3) := by decide +kernel
theorem dX12_findCover_194 : decode cX12_findCover 194 = .ok (.return_, 1) := by decide +kernel
set_option maxRecDepth 20000 in
theorem ggX12_findHold_X12_all : GoodIn wsX12_findHold wsX12_all := goodIn_r _ [9, 2, 16, 17, 18, 19, 20, 21, 22, 23, 24, 25, 26, 27, 28, 29, 30, 31, 32, 33, 34, 35, 36, 37, 38, 39, 40, 41, 42, 43, 44, 45, 46, 47, 48, 49, 50, 51, 52] rfl (by decide +kernel)
set_option maxRecDepth 20000 in
theorem gX12_findHold_X12_all : GoodIn wsX12_findHold (wsV RX12 108 RX12 yX12_all wsX12_all) := goodIn_app (goodIn_of _ (by decide +kernel)) ggX12_findHold_X12_all
set_option maxRecDepth 20000 in
theorem ggX12_findHold_X12_least : GoodIn wsX12_findHold wsX12_least := goodIn_r _ [12] rfl (by decide +kernel)
set_option maxRecDepth 20000 in
theorem gX12_findHold_X12_least : GoodIn wsX12_findHold (va_wsS RX12 112 yX12_least wsX12_least) := goodIn_app (goodIn_of _ (by decide +kernel)) ggX12_findHold_X12_least
set_option maxRecDepth 20000 in
theorem ggX12_findHold_X12_bits : GoodIn wsX12_findHold wsX12_bits := goodIn_r _ [15] rfl (by decide +kernel)
set_option maxRecDepth 20000 in
theorem gX12_findHold_X12_bits : GoodIn wsX12_findHold (va_wsS RX12 137 yX12_bits wsX12_bits) := goodIn_app (goodIn_of _ (by decide +kernel)) ggX12_findHold_X12_bits
theorem dX12_findHold_0 : decode cX12_findHold 0 = .ok (.aload_n 0, 1) := by decide +kernel
theorem dX12_findHold_1 : decode cX12_findHold 1 = .ok (.getfield 34, 3) := by decide +kernel
theorem dX12_findHold_4 : decode cX12_findHold 4 = .ok (.iconst 0, 1) := by decide +kernel
theorem dX12_findHold_5 : decode cX12_findHold 5 = .ok (.iconst 0, 1) := by decide +kernel
theorem dX12_findHold_6 : decode cX12_findHold 6 = .ok (.bastore, 1) := by decide +kernel
theorem dX12_findHold_7 : decode cX12_findHold 7 = .ok (.iconst 1, 1) := by decide +kernel
theorem dX12_findHold_8 : decode cX12_findHold 8 = .ok (.istore_n 1, 1) := by decide +kernel
theorem dX12_findHold_9 : decode cX12_findHold 9 = .ok (.iload_n 1, 1) := by decide +kernel
theorem dX12_findHold_10 : decode cX12_findHold 10 = .ok (.aload_n 0, 1) := by decide +kernel
theorem dX12_findHold_11 : decode cX12_findHold 11 = .ok (.invokevirtual 108, 3) := by decide +kernel
theorem dX12_findHold_14 : decode cX12_findHold 14 = .ok (.if_icmp .gt 113, 3) := by decide +kernel
theorem dX12_findHold_17 : decode cX12_findHold 17 = .ok (.iload_n 1, 1) := by decide +kernel
theorem dX12_findHold_18 : decode cX12_findHold 18 = .ok (.invokestatic 112, 3) := by decide +kernel
theorem dX12_findHold_21 : decode cX12_findHold 21 = .ok (.istore_n 2, 1) := by decide +kernel
theorem dX12_findHold_22 : decode cX12_findHold 22 = .ok (.iload_n 1, 1) := by decide +kernel
theorem dX12_findHold_23 : decode cX12_findHold 23 = .ok (.iconst 1, 1) := by decide +kernel
theorem dX12_findHold_24 : decode cX12_findHold 24 = .ok (.iload_n 2, 1) := by decide +kernel
theorem dX12_findHold_25 : decode cX12_findHold 25 = .ok (.ishl, 1) := by decide +kernel
theorem dX12_findHold_26 : decode cX12_findHold 26 = .ok (.iconst (-1), 1) := by decide +kernel
theorem dX12_findHold_27 : decode cX12_findHold 27 = .ok (.ixor, 1) := by decide +kernel
theorem dX12_findHold_28 : decode cX12_findHold 28 = .ok (.iand, 1) := by decide +kernel
theorem dX12_findHold_29 : decode cX12_findHold 29 = .ok (.istore_n 3, 1) := by decide +kernel
theorem dX12_findHold_30 : decode cX12_findHold 30 = .ok (.iconst 0, 1) := by decide +kernel
theorem dX12_findHold_31 : decode cX12_findHold 31 = .ok (.istore 4, 2) := by decide +kernel
theorem dX12_findHold_33 : decode cX12_findHold 33 = .ok (.iload 4, 2) := by decide +kernel
theorem dX12_findHold_35 : decode cX12_findHold 35 = .ok (.aload_n 0, 1) := by decide +kernel
theorem dX12_findHold_36 : decode cX12_findHold 36 = .ok (.getfield 92, 3) := by decide +kernel
theorem dX12_findHold_39 : decode cX12_findHold 39 = .ok (.if_icmp .ge 37, 3) := by decide +kernel
theorem dX12_findHold_42 : decode cX12_findHold 42 = .ok (.iload_n 3, 1) := by decide +kernel
theorem dX12_findHold_43 : decode cX12_findHold 43 = .ok (.aload_n 0, 1) := by decide +kernel
theorem dX12_findHold_44 : decode cX12_findHold 44 = .ok (.getfield 37, 3) := by decide +kernel
theorem dX12_findHold_47 : decode cX12_findHold 47 = .ok (.bipush 16, 2) := by decide +kernel
theorem dX12_findHold_49 : decode cX12_findHold 49 = .ok (.iload_n 2, 1) := by decide +kernel
theorem dX12_findHold_50 : decode cX12_findHold 50 = .ok (.imul, 1) := by decide +kernel
theorem dX12_findHold_51 : decode cX12_findHold 51 = .ok (.iload 4, 2) := by decide +kernel
theorem dX12_findHold_53 : decode cX12_findHold 53 = .ok (.iadd, 1) := by decide +kernel
theorem dX12_findHold_54 : decode cX12_findHold 54 = .ok (.iaload, 1) := by decide +kernel
theorem dX12_findHold_55 : decode cX12_findHold 55 = .ok (.ifCond .le 12, 3) := by decide +kernel
theorem dX12_findHold_58 : decode cX12_findHold 58 = .ok (.iconst 1, 1) := by decide +kernel
theorem dX12_findHold_59 : decode cX12_findHold 59 = .ok (.iload 4, 2) := by decide +kernel
theorem dX12_findHold_61 : decode cX12_findHold 61 = .ok (.ishl, 1) := by decide +kernel
theorem dX12_findHold_62 : decode cX12_findHold 62 = .ok (.iconst (-1), 1) := by decide +kernel
theorem dX12_findHold_63 : decode cX12_findHold 63 = .ok (.ixor, 1) := by decide +kernel
theorem dX12_findHold_64 : decode cX12_findHold 64 = .ok (.goto 4, 3) := by decide +kernel
theorem dX12_findHold_67 : decode cX12_findHold 67 = .ok (.iconst (-1), 1) := by decide +kernel
theorem dX12_findHold_68 : decode cX12_findHold 68 = .ok (.iand, 1) := by decide +kernel
theorem dX12_findHold_69 : decode cX12_findHold 69 = .ok (.istore_n 3, 1) := by decide +kernel
theorem dX12_findHold_70 : decode cX12_findHold 70 = .ok (.iinc 4 1, 3) := by decide +kernel
theorem dX12_findHold_73 : decode cX12_findHold 73 = .ok (.goto (-40), 3) := by decide +kernel
theorem dX12_findHold_76 : decode cX12_findHold 76 = .ok (.iconst 1, 1) := by decide +kernel
theorem dX12_findHold_77 : decode cX12_findHold 77 = .ok (.aload_n 0, 1) := by decide +kernel
theorem dX12_findHold_78 : decode cX12_findHold 78 = .ok (.getfield 34, 3) := by decide +kernel
theorem dX12_findHold_81 : decode cX12_findHold 81 = .ok (.iload_n 3, 1) := by decide +kernel
theorem dX12_findHold_82 : decode cX12_findHold 82 = .ok (.baload, 1) := by decide +kernel
theorem dX12_findHold_83 : decode cX12_findHold 83 = .ok (.iadd, 1) := by decide +kernel
theorem dX12_findHold_84 : decode cX12_findHold 84 = .ok (.istore 4, 2) := by decide +kernel
theorem dX12_findHold_86 : decode cX12_findHold 86 = .ok (.aload_n 0, 1) := by decide +kernel
theorem dX12_findHold_87 : decode cX12_findHold 87 = .ok (.getfield 34, 3) := by decide +kernel
theorem dX12_findHold_90 : decode cX12_findHold 90 = .ok (.iload_n 1, 1) := by decide +kernel
theorem dX12_findHold_91 : decode cX12_findHold 91 = .ok (.iconst 1, 1) := by decide +kernel
theorem dX12_findHold_92 : decode cX12_findHold 92 = .ok (.iload_n 2, 1) := by decide +kernel
theorem dX12_findHold_93 : decode cX12_findHold 93 = .ok (.ishl, 1) := by decide +kernel
theorem dX12_findHold_94 : decode cX12_findHold 94 = .ok (.iconst (-1), 1) := by decide +kernel
theorem dX12_findHold_95 : decode cX12_findHold 95 = .ok (.ixor, 1) := by decide +kernel
theorem dX12_findHold_96 : decode cX12_findHold 96 = .ok (.iand, 1) := by decide +kernel
theorem dX12_findHold_97 : decode cX12_findHold 97 = .ok (.baload, 1) := by decide +kernel
theorem dX12_findHold_98 : decode cX12_findHold 98 = .ok (.istore 5, 2) := by decide +kernel
theorem dX12_findHold_100 : decode cX12_findHold 100 = .ok (.aload_n 0, 1) := by decide +kernel
theorem dX12_findHold_101 : decode cX12_findHold 101 = .ok (.getfield 34, 3) := by decide +kernel
theorem dX12_findHold_104 : decode cX12_findHold 104 = .ok (.iload_n 1, 1) := by decide +kernel
theorem dX12_findHold_105 : decode cX12_findHold 105 = .ok (.iload 4, 2) := by decide +kernel
theorem dX12_findHold_107 : decode cX12_findHold 107 = .ok (.iload 5, 2) := by decide +kernel
theorem dX12_findHold_109 : decode cX12_findHold 109 = .ok (.if_icmp .le 8, 3) := by decide +kernel
theorem dX12_findHold_112 : decode cX12_findHold 112 = .ok (.iload 4, 2) := by decide +kernel
theorem dX12_findHold_114 : decode cX12_findHold 114 = .ok (.goto 5, 3) := by decide +kernel
theorem dX12_findHold_117 : decode cX12_findHold 117 = .ok (.iload 5, 2) := by decide +kernel
theorem dX12_findHold_119 : decode cX12_findHold 119 = .ok (.i2b, 1) := by decide +kernel
theorem dX12_findHold_120 : decode cX12_findHold 120 = .ok (.bastore, 1) := by decide +kernel
theorem dX12_findHold_121 : decode cX12_findHold 121 = .ok (.iinc 1 1, 3) := by decide +kernel
theorem dX12_findHold_124 : decode cX12_findHold 124 = .ok (.goto (-115), 3) := by decide +kernel
theorem dX12_findHold_127 : decode cX12_findHold 127 = .ok (.aload_n 0, 1) := by decide +kernel
theorem dX12_findHold_128 : decode cX12_findHold 128 = .ok (.iconst 0, 1) := by decide +kernel
theorem dX12_findHold_129 : decode cX12_findHold 129 = .ok (.putfield 140, 3) := by decide +kernel
theorem dX12_findHold_132 : decode cX12_findHold 132 = .ok (.aload_n 0, 1) := by decide +kernel
theorem dX12_findHold_133 : decode cX12_findHold 133 = .ok (.invokevirtual 108, 3) := by decide +kernel
theorem dX12_findHold_136 : decode cX12_findHold 136 = .ok (.istore_n 1, 1) := by decide +kernel
theorem dX12_findHold_137 : decode cX12_findHold 137 = .ok (.aload_n 0, 1) := by decide +kernel
theorem dX12_findHold_138 : decode cX12_findHold 138 = .ok (.getfield 92, 3) := by decide +kernel
theorem dX12_findHold_141 : decode cX12_findHold 141 = .ok (.aload_n 0, 1) := by decide +kernel
theorem dX12_findHold_142 : decode cX12_findHold 142 = .ok (.getfield 34, 3) := by decide +kernel
theorem dX12_findHold_145 : decode cX12_findHold 145 = .ok (.aload_n 0, 1) := by decide +kernel
theorem dX12_findHold_146 : decode cX12_findHold 146 = .ok (.invokevirtual 108, 3) := by decide +kernel
theorem dX12_findHold_149 : decode cX12_findHold 149 = .ok (.baload, 1) := by decide +kernel
theorem dX12_findHold_150 : decode cX12_findHold 150 = .ok (.isub, 1) := by decide +kernel
theorem dX12_findHold_151 : decode cX12_findHold 151 = .ok (.istore_n 2, 1) := by decide +kernel
theorem dX12_findHold_152 : decode cX12_findHold 152 = .ok (.iconst 0, 1) := by decide +kernel
theorem dX12_findHold_153 : decode cX12_findHold 153 = .ok (.istore_n 3, 1) := by decide +kernel
theorem dX12_findHold_154 : decode cX12_findHold 154 = .ok (.iload_n 3, 1) := by decide +kernel
theorem dX12_findHold_155 : decode cX12_findHold 155 = .ok (.aload_n 0, 1) := by decide +kernel
theorem dX12_findHold_156 : decode cX12_findHold 156 = .ok (.getfield 92, 3) := by decide +kernel
theorem dX12_findHold_159 : decode cX12_findHold 159 = .ok (.if_icmp .ge 59, 3) := by decide +kernel
theorem dX12_findHold_162 : decode cX12_findHold 162 = .ok (.iload_n 2, 1) := by decide +kernel
theorem dX12_findHold_163 : decode cX12_findHold 163 = .ok (.ifCond .le 55, 3) := by decide +kernel
theorem dX12_findHold_166 : decode cX12_findHold 166 = .ok (.iload_n 1, 1) := by decide +kernel
theorem dX12_findHold_167 : decode cX12_findHold 167 = .ok (.iconst 1, 1) := by decide +kernel
theorem dX12_findHold_168 : decode cX12_findHold 168 = .ok (.iload_n 3, 1) := by decide +kernel
theorem dX12_findHold_169 : decode cX12_findHold 169 = .ok (.ishl, 1) := by decide +kernel
theorem dX12_findHold_170 : decode cX12_findHold 170 = .ok (.iconst (-1), 1) := by decide +kernel
theorem dX12_findHold_171 : decode cX12_findHold 171 = .ok (.ixor, 1) := by decide +kernel
theorem dX12_findHold_172 : decode cX12_findHold 172 = .ok (.iand, 1) := by decide +kernel
theorem dX12_findHold_173 : decode cX12_findHold 173 = .ok (.istore 4, 2) := by decide +kernel
theorem dX12_findHold_175 : decode cX12_findHold 175 = .ok (.iload 4, 2) := by decide +kernel
theorem dX12_findHold_177 : decode cX12_findHold 177 = .ok (.invokestatic 137, 3) := by decide +kernel
theorem dX12_findHold_180 : decode cX12_findHold 180 = .ok (.aload_n 0, 1) := by decide +kernel
theorem dX12_findHold_181 : decode cX12_findHold 181 = .ok (.getfield 34, 3) := by decide +kernel
theorem dX12_findHold_184 : decode cX12_findHold 184 = .ok (.iload 4, 2) := by decide +kernel
theorem dX12_findHold_186 : decode cX12_findHold 186 = .ok (.baload, 1) := by decide +kernel
theorem dX12_findHold_187 : decode cX12_findHold 187 = .ok (.isub, 1) := by decide +kernel
theorem dX12_findHold_188 : decode cX12_findHold 188 = .ok (.iload_n 2, 1) := by decide +kernel
theorem dX12_findHold_189 : decode cX12_findHold 189 = .ok (.iconst 1, 1) := by decide +kernel
theorem dX12_findHold_190 : decode cX12_findHold 190 = .ok (.isub, 1) := by decide +kernel
theorem dX12_findHold_191 : decode cX12_findHold 191 = .ok (.if_icmp .ne 21, 3) := by decide +kernel
theorem dX12_findHold_194 : decode cX12_findHold 194 = .ok (.aload_n 0, 1) := by decide +kernel
theorem dX12_findHold_195 : decode cX12_findHold 195 = .ok (.dup, 1) := by decide +kernel
theorem dX12_findHold_196 : decode cX12_findHold 196 = .ok (.getfield 140, 3) := by decide +kernel
theorem dX12_findHold_199 : decode cX12_findHold 199 = .ok (.iconst 1, 1) := by decide +kernel
theorem dX12_findHold_200 : decode cX12_findHold 200 = .ok (.iload_n 3, 1) := by decide +kernel
theorem dX12_findHold_201 : decode cX12_findHold 201 = .ok (.ishl, 1) := by decide +kernel
theorem dX12_findHold_202 : decode cX12_findHold 202 = .ok (.ior, 1) := by decide +kernel
theorem dX12_findHold_203 : decode cX12_findHold 203 = .ok (.putfield 140, 3) := by decide +kernel
theorem dX12_findHold_206 : decode cX12_findHold 206 = .ok (.iload 4, 2) := by decide +kernel
theorem dX12_findHold_208 : decode cX12_findHold 208 = .ok (.istore_n 1, 1) := by decide +kernel
theorem dX12_findHold_209 : decode cX12_findHold 209 = .ok (.iinc 2 (-1), 3) := by decide +kernel
theorem dX12_findHold_212 : decode cX12_findHold 212 = .ok (.iinc 3 1, 3) := by decide +kernel
theorem dX12_findHold_215 : decode cX12_findHold 215 = .ok (.goto (-61), 3) := by decide +kernel
theorem dX12_findHold_218 : decode cX12_findHold 218 = .ok (.return_, 1) := by decide +kernel
set_option maxRecDepth 20000 in
theorem ggX12_findPairCosts_X12_all : GoodIn wsX12_findPairCosts wsX12_all := goodIn_r _ [14, 8, 18, 19, 20, 21, 22, 23, 24, 25, 26, 27, 28, 29, 30, 31, 32, 33, 34, 35, 36, 37, 38, 39, 40, 41, 42, 43, 44, 45, 46, 47, 48, 49, 50, 51, 52, 53, 54] rfl (by decide +kernel)
set_option maxRecDepth 20000 in
theorem gX12_findPairCosts_X12_all : GoodIn wsX12_findPairCosts (wsV RX12 108 RX12 yX12_all wsX12_all) := goodIn_app (goodIn_of _ (by decide +kernel)) ggX12_findPairCosts_X12_all
set_option maxRecDepth 20000 in
theorem ggX12_findPairCosts_X12_least : GoodIn wsX12_findPairCosts wsX12_least := goodIn_r _ [17] rfl (by decide +kernel)
set_option maxRecDepth 20000 in
theorem gX12_findPairCosts_X12_least : GoodIn wsX12_findPairCosts (va_wsS RX12 112 yX12_least wsX12_least) := goodIn_app (goodIn_of _ (by decide +kernel)) ggX12_findPairCosts_X12_least
theorem dX12_findPairCosts_0 : decode cX12_findPairCosts 0 = .ok (.iconst 0, 1) := by decide +kernel
theorem dX12_findPairCosts_1 : decode cX12_findPairCosts 1 = .ok (.istore_n 1, 1) := by decide +kernel
theorem dX12_findPairCosts_2 : decode cX12_findPairCosts 2 = .ok (.iload_n 1, 1) := by decide +kernel
theorem dX12_findPairCosts_3 : decode cX12_findPairCosts 3 = .ok (.bipush 16, 2) := by decide +kernel
theorem dX12_findPairCosts_5 : decode cX12_findPairCosts 5 = .ok (.if_icmp .ge 45, 3) := by decide +kernel
theorem dX12_findPairCosts_8 : decode cX12_findPairCosts 8 = .ok (.iconst 0, 1) := by decide +kernel
theorem dX12_findPairCosts_9 : decode cX12_findPairCosts 9 = .ok (.istore_n 2, 1) := by decide +kernel
theorem dX12_findPairCosts_10 : decode cX12_findPairCosts 10 = .ok (.iload_n 2, 1) := by decide +kernel
theorem dX12_findPairCosts_11 : decode cX12_findPairCosts 11 = .ok (.bipush 16, 2) := by decide +kernel
theorem dX12_findPairCosts_13 : decode cX12_findPairCosts 13 = .ok (.if_icmp .ge 31, 3) := by decide +kernel
theorem dX12_findPairCosts_16 : decode cX12_findPairCosts 16 = .ok (.aload_n 0, 1) := by decide +kernel
theorem dX12_findPairCosts_17 : decode cX12_findPairCosts 17 = .ok (.getfield 73, 3) := by decide +kernel
theorem dX12_findPairCosts_20 : decode cX12_findPairCosts 20 = .ok (.bipush 16, 2) := by decide +kernel
theorem dX12_findPairCosts_22 : decode cX12_findPairCosts 22 = .ok (.iload_n 1, 1) := by decide +kernel
theorem dX12_findPairCosts_23 : decode cX12_findPairCosts 23 = .ok (.imul, 1) := by decide +kernel
theorem dX12_findPairCosts_24 : decode cX12_findPairCosts 24 = .ok (.iload_n 2, 1) := by decide +kernel
theorem dX12_findPairCosts_25 : decode cX12_findPairCosts 25 = .ok (.iadd, 1) := by decide +kernel
theorem dX12_findPairCosts_26 : decode cX12_findPairCosts 26 = .ok (.iload_n 1, 1) := by decide +kernel
theorem dX12_findPairCosts_27 : decode cX12_findPairCosts 27 = .ok (.iload_n 2, 1) := by decide +kernel
theorem dX12_findPairCosts_28 : decode cX12_findPairCosts 28 = .ok (.if_icmp .ne 7, 3) := by decide +kernel
theorem dX12_findPairCosts_31 : decode cX12_findPairCosts 31 = .ok (.iconst 0, 1) := by decide +kernel
theorem dX12_findPairCosts_32 : decode cX12_findPairCosts 32 = .ok (.goto 5, 3) := by decide +kernel
theorem dX12_findPairCosts_35 : decode cX12_findPairCosts 35 = .ok (.ldc 143, 2) := by decide +kernel
theorem dX12_findPairCosts_37 : decode cX12_findPairCosts 37 = .ok (.iastore, 1) := by decide +kernel
theorem dX12_findPairCosts_38 : decode cX12_findPairCosts 38 = .ok (.iinc 2 1, 3) := by decide +kernel
theorem dX12_findPairCosts_41 : decode cX12_findPairCosts 41 = .ok (.goto (-31), 3) := by decide +kernel
theorem dX12_findPairCosts_44 : decode cX12_findPairCosts 44 = .ok (.iinc 1 1, 3) := by decide +kernel
theorem dX12_findPairCosts_47 : decode cX12_findPairCosts 47 = .ok (.goto (-45), 3) := by decide +kernel
theorem dX12_findPairCosts_50 : decode cX12_findPairCosts 50 = .ok (.iconst 0, 1) := by decide +kernel
theorem dX12_findPairCosts_51 : decode cX12_findPairCosts 51 = .ok (.istore_n 1, 1) := by decide +kernel
theorem dX12_findPairCosts_52 : decode cX12_findPairCosts 52 = .ok (.iload_n 1, 1) := by decide +kernel
theorem dX12_findPairCosts_53 : decode cX12_findPairCosts 53 = .ok (.aload_n 0, 1) := by decide +kernel
theorem dX12_findPairCosts_54 : decode cX12_findPairCosts 54 = .ok (.getfield 97, 3) := by decide +kernel
theorem dX12_findPairCosts_57 : decode cX12_findPairCosts 57 = .ok (.if_icmp .ge 99, 3) := by decide +kernel
theorem dX12_findPairCosts_60 : decode cX12_findPairCosts 60 = .ok (.aload_n 0, 1) := by decide +kernel
theorem dX12_findPairCosts_61 : decode cX12_findPairCosts 61 = .ok (.getfield 16, 3) := by decide +kernel
theorem dX12_findPairCosts_64 : decode cX12_findPairCosts 64 = .ok (.iload_n 1, 1) := by decide +kernel
theorem dX12_findPairCosts_65 : decode cX12_findPairCosts 65 = .ok (.iaload, 1) := by decide +kernel
theorem dX12_findPairCosts_66 : decode cX12_findPairCosts 66 = .ok (.bipush 64, 2) := by decide +kernel
theorem dX12_findPairCosts_68 : decode cX12_findPairCosts 68 = .ok (.imul, 1) := by decide +kernel
theorem dX12_findPairCosts_69 : decode cX12_findPairCosts 69 = .ok (.iconst 1, 1) := by decide +kernel
theorem dX12_findPairCosts_70 : decode cX12_findPairCosts 70 = .ok (.iadd, 1) := by decide +kernel
theorem dX12_findPairCosts_71 : decode cX12_findPairCosts 71 = .ok (.istore_n 2, 1) := by decide +kernel
theorem dX12_findPairCosts_72 : decode cX12_findPairCosts 72 = .ok (.aload_n 0, 1) := by decide +kernel
theorem dX12_findPairCosts_73 : decode cX12_findPairCosts 73 = .ok (.getfield 19, 3) := by decide +kernel
theorem dX12_findPairCosts_76 : decode cX12_findPairCosts 76 = .ok (.iload_n 1, 1) := by decide +kernel
theorem dX12_findPairCosts_77 : decode cX12_findPairCosts 77 = .ok (.baload, 1) := by decide +kernel
theorem dX12_findPairCosts_78 : decode cX12_findPairCosts 78 = .ok (.ifCond .eq 72, 3) := by decide +kernel
theorem dX12_findPairCosts_81 : decode cX12_findPairCosts 81 = .ok (.iload_n 2, 1) := by decide +kernel
theorem dX12_findPairCosts_82 : decode cX12_findPairCosts 82 = .ok (.aload_n 0, 1) := by decide +kernel
theorem dX12_findPairCosts_83 : decode cX12_findPairCosts 83 = .ok (.getfield 73, 3) := by decide +kernel
theorem dX12_findPairCosts_86 : decode cX12_findPairCosts 86 = .ok (.bipush 16, 2) := by decide +kernel
theorem dX12_findPairCosts_88 : decode cX12_findPairCosts 88 = .ok (.aload_n 0, 1) := by decide +kernel
theorem dX12_findPairCosts_89 : decode cX12_findPairCosts 89 = .ok (.getfield 7, 3) := by decide +kernel
theorem dX12_findPairCosts_92 : decode cX12_findPairCosts 92 = .ok (.iload_n 1, 1) := by decide +kernel
theorem dX12_findPairCosts_93 : decode cX12_findPairCosts 93 = .ok (.iaload, 1) := by decide +kernel
theorem dX12_findPairCosts_94 : decode cX12_findPairCosts 94 = .ok (.imul, 1) := by decide +kernel
theorem dX12_findPairCosts_95 : decode cX12_findPairCosts 95 = .ok (.aload_n 0, 1) := by decide +kernel
theorem dX12_findPairCosts_96 : decode cX12_findPairCosts 96 = .ok (.getfield 13, 3) := by decide +kernel
theorem dX12_findPairCosts_99 : decode cX12_findPairCosts 99 = .ok (.iload_n 1, 1) := by decide +kernel
theorem dX12_findPairCosts_100 : decode cX12_findPairCosts 100 = .ok (.iaload, 1) := by decide +kernel
theorem dX12_findPairCosts_101 : decode cX12_findPairCosts 101 = .ok (.iadd, 1) := by decide +kernel
theorem dX12_findPairCosts_102 : decode cX12_findPairCosts 102 = .ok (.iaload, 1) := by decide +kernel
theorem dX12_findPairCosts_103 : decode cX12_findPairCosts 103 = .ok (.if_icmp .ge 47, 3) := by decide +kernel
theorem dX12_findPairCosts_106 : decode cX12_findPairCosts 106 = .ok (.aload_n 0, 1) := by decide +kernel
theorem dX12_findPairCosts_107 : decode cX12_findPairCosts 107 = .ok (.getfield 73, 3) := by decide +kernel
theorem dX12_findPairCosts_110 : decode cX12_findPairCosts 110 = .ok (.bipush 16, 2) := by decide +kernel
theorem dX12_findPairCosts_112 : decode cX12_findPairCosts 112 = .ok (.aload_n 0, 1) := by decide +kernel
theorem dX12_findPairCosts_113 : decode cX12_findPairCosts 113 = .ok (.getfield 7, 3) := by decide +kernel
theorem dX12_findPairCosts_116 : decode cX12_findPairCosts 116 = .ok (.iload_n 1, 1) := by decide +kernel
theorem dX12_findPairCosts_117 : decode cX12_findPairCosts 117 = .ok (.iaload, 1) := by decide +kernel
theorem dX12_findPairCosts_118 : decode cX12_findPairCosts 118 = .ok (.imul, 1) := by decide +kernel
theorem dX12_findPairCosts_119 : decode cX12_findPairCosts 119 = .ok (.aload_n 0, 1) := by decide +kernel
theorem dX12_findPairCosts_120 : decode cX12_findPairCosts 120 = .ok (.getfield 13, 3) := by decide +kernel
theorem dX12_findPairCosts_123 : decode cX12_findPairCosts 123 = .ok (.iload_n 1, 1) := by decide +kernel
theorem dX12_findPairCosts_124 : decode cX12_findPairCosts 124 = .ok (.iaload, 1) := by decide +kernel
theorem dX12_findPairCosts_125 : decode cX12_findPairCosts 125 = .ok (.iadd, 1) := by decide +kernel
theorem dX12_findPairCosts_126 : decode cX12_findPairCosts 126 = .ok (.iload_n 2, 1) := by decide +kernel
theorem dX12_findPairCosts_127 : decode cX12_findPairCosts 127 = .ok (.iastore, 1) := by decide +kernel
theorem dX12_findPairCosts_128 : decode cX12_findPairCosts 128 = .ok (.aload_n 0, 1) := by decide +kernel
theorem dX12_findPairCosts_129 : decode cX12_findPairCosts 129 = .ok (.getfield 73, 3) := by decide +kernel
theorem dX12_findPairCosts_132 : decode cX12_findPairCosts 132 = .ok (.bipush 16, 2) := by decide +kernel
theorem dX12_findPairCosts_134 : decode cX12_findPairCosts 134 = .ok (.aload_n 0, 1) := by decide +kernel
theorem dX12_findPairCosts_135 : decode cX12_findPairCosts 135 = .ok (.getfield 13, 3) := by decide +kernel
theorem dX12_findPairCosts_138 : decode cX12_findPairCosts 138 = .ok (.iload_n 1, 1) := by decide +kernel
theorem dX12_findPairCosts_139 : decode cX12_findPairCosts 139 = .ok (.iaload, 1) := by decide +kernel
theorem dX12_findPairCosts_140 : decode cX12_findPairCosts 140 = .ok (.imul, 1) := by decide +kernel
theorem dX12_findPairCosts_141 : decode cX12_findPairCosts 141 = .ok (.aload_n 0, 1) := by decide +kernel
theorem dX12_findPairCosts_142 : decode cX12_findPairCosts 142 = .ok (.getfield 7, 3) := by decide +kernel
theorem dX12_findPairCosts_145 : decode cX12_findPairCosts 145 = .ok (.iload_n 1, 1) := by decide +kernel
theorem dX12_findPairCosts_146 : decode cX12_findPairCosts 146 = .ok (.iaload, 1) := by decide +kernel
theorem dX12_findPairCosts_147 : decode cX12_findPairCosts 147 = .ok (.iadd, 1) := by decide +kernel
theorem dX12_findPairCosts_148 : decode cX12_findPairCosts 148 = .ok (.iload_n 2, 1) := by decide +kernel
theorem dX12_findPairCosts_149 : decode cX12_findPairCosts 149 = .ok (.iastore, 1) := by decide +kernel
theorem dX12_findPairCosts_150 : decode cX12_findPairCosts 150 = .ok (.iinc 1 1, 3) := by decide +kernel
theorem dX12_findPairCosts_153 : decode cX12_findPairCosts 153 = .ok (.goto (-101), 3) := by decide +kernel
theorem dX12_findPairCosts_156 : decode cX12_findPairCosts 156 = .ok (.iconst 0, 1) := by decide +kernel
theorem dX12_findPairCosts_157 : decode cX12_findPairCosts 157 = .ok (.istore_n 1, 1) := by decide +kernel
theorem dX12_findPairCosts_158 : decode cX12_findPairCosts 158 = .ok (.iload_n 1, 1) := by decide +kernel
theorem dX12_findPairCosts_159 : decode cX12_findPairCosts 159 = .ok (.aload_n 0, 1) := by decide +kernel
theorem dX12_findPairCosts_160 : decode cX12_findPairCosts 160 = .ok (.getfield 92, 3) := by decide +kernel
theorem dX12_findPairCosts_163 : decode cX12_findPairCosts 163 = .ok (.if_icmp .ge 109, 3) := by decide +kernel
theorem dX12_findPairCosts_166 : decode cX12_findPairCosts 166 = .ok (.iconst 0, 1) := by decide +kernel
theorem dX12_findPairCosts_167 : decode cX12_findPairCosts 167 = .ok (.istore_n 2, 1) := by decide +kernel
theorem dX12_findPairCosts_168 : decode cX12_findPairCosts 168 = .ok (.iload_n 2, 1) := by decide +kernel
theorem dX12_findPairCosts_169 : decode cX12_findPairCosts 169 = .ok (.aload_n 0, 1) := by decide +kernel
theorem dX12_findPairCosts_170 : decode cX12_findPairCosts 170 = .ok (.getfield 92, 3) := by decide +kernel
theorem dX12_findPairCosts_173 : decode cX12_findPairCosts 173 = .ok (.if_icmp .ge 93, 3) := by decide +kernel
theorem dX12_findPairCosts_176 : decode cX12_findPairCosts 176 = .ok (.iconst 0, 1) := by decide +kernel
theorem dX12_findPairCosts_177 : decode cX12_findPairCosts 177 = .ok (.istore_n 3, 1) := by decide +kernel
theorem dX12_findPairCosts_178 : decode cX12_findPairCosts 178 = .ok (.iload_n 3, 1) := by decide +kernel
theorem dX12_findPairCosts_179 : decode cX12_findPairCosts 179 = .ok (.aload_n 0, 1) := by decide +kernel
theorem dX12_findPairCosts_180 : decode cX12_findPairCosts 180 = .ok (.getfield 92, 3) := by decide +kernel
theorem dX12_findPairCosts_183 : decode cX12_findPairCosts 183 = .ok (.if_icmp .ge 77, 3) := by decide +kernel
theorem dX12_findPairCosts_186 : decode cX12_findPairCosts 186 = .ok (.aload_n 0, 1) := by decide +kernel
theorem dX12_findPairCosts_187 : decode cX12_findPairCosts 187 = .ok (.getfield 73, 3) := by decide +kernel
theorem dX12_findPairCosts_190 : decode cX12_findPairCosts 190 = .ok (.bipush 16, 2) := by decide +kernel
theorem dX12_findPairCosts_192 : decode cX12_findPairCosts 192 = .ok (.iload_n 2, 1) := by decide +kernel
theorem dX12_findPairCosts_193 : decode cX12_findPairCosts 193 = .ok (.imul, 1) := by decide +kernel
theorem dX12_findPairCosts_194 : decode cX12_findPairCosts 194 = .ok (.iload_n 1, 1) := by decide +kernel
theorem dX12_findPairCosts_195 : decode cX12_findPairCosts 195 = .ok (.iadd, 1) := by decide +kernel
theorem dX12_findPairCosts_196 : decode cX12_findPairCosts 196 = .ok (.iaload, 1) := by decide +kernel
theorem dX12_findPairCosts_197 : decode cX12_findPairCosts 197 = .ok (.aload_n 0, 1) := by decide +kernel
theorem dX12_findPairCosts_198 : decode cX12_findPairCosts 198 = .ok (.getfield 73, 3) := by decide +kernel
theorem dX12_findPairCosts_201 : decode cX12_findPairCosts 201 = .ok (.bipush 16, 2) := by decide +kernel
theorem dX12_findPairCosts_203 : decode cX12_findPairCosts 203 = .ok (.iload_n 1, 1) := by decide +kernel
theorem dX12_findPairCosts_204 : decode cX12_findPairCosts 204 = .ok (.imul, 1) := by decide +kernel
theorem dX12_findPairCosts_205 : decode cX12_findPairCosts 205 = .ok (.iload_n 3, 1) := by decide +kernel
theorem dX12_findPairCosts_206 : decode cX12_findPairCosts 206 = .ok (.iadd, 1) := by decide +kernel
theorem dX12_findPairCosts_207 : decode cX12_findPairCosts 207 = .ok (.iaload, 1) := by decide +kernel
theorem dX12_findPairCosts_208 : decode cX12_findPairCosts 208 = .ok (.iadd, 1) := by decide +kernel
theorem dX12_findPairCosts_209 : decode cX12_findPairCosts 209 = .ok (.istore 4, 2) := by decide +kernel
theorem dX12_findPairCosts_211 : decode cX12_findPairCosts 211 = .ok (.aload_n 0, 1) := by decide +kernel
theorem dX12_findPairCosts_212 : decode cX12_findPairCosts 212 = .ok (.getfield 73, 3) := by decide +kernel
theorem dX12_findPairCosts_215 : decode cX12_findPairCosts 215 = .ok (.bipush 16, 2) := by decide +kernel
theorem dX12_findPairCosts_217 : decode cX12_findPairCosts 217 = .ok (.iload_n 2, 1) := by decide +kernel
theorem dX12_findPairCosts_218 : decode cX12_findPairCosts 218 = .ok (.imul, 1) := by decide +kernel
theorem dX12_findPairCosts_219 : decode cX12_findPairCosts 219 = .ok (.iload_n 3, 1) := by decide +kernel
theorem dX12_findPairCosts_220 : decode cX12_findPairCosts 220 = .ok (.iadd, 1) := by decide +kernel
theorem dX12_findPairCosts_221 : decode cX12_findPairCosts 221 = .ok (.iload 4, 2) := by decide +kernel
theorem dX12_findPairCosts_223 : decode cX12_findPairCosts 223 = .ok (.aload_n 0, 1) := by decide +kernel
theorem dX12_findPairCosts_224 : decode cX12_findPairCosts 224 = .ok (.getfield 73, 3) := by decide +kernel
theorem dX12_findPairCosts_227 : decode cX12_findPairCosts 227 = .ok (.bipush 16, 2) := by decide +kernel
theorem dX12_findPairCosts_229 : decode cX12_findPairCosts 229 = .ok (.iload_n 2, 1) := by decide +kernel
theorem dX12_findPairCosts_230 : decode cX12_findPairCosts 230 = .ok (.imul, 1) := by decide +kernel
theorem dX12_findPairCosts_231 : decode cX12_findPairCosts 231 = .ok (.iload_n 3, 1) := by decide +kernel
theorem dX12_findPairCosts_232 : decode cX12_findPairCosts 232 = .ok (.iadd, 1) := by decide +kernel
theorem dX12_findPairCosts_233 : decode cX12_findPairCosts 233 = .ok (.iaload, 1) := by decide +kernel
theorem dX12_findPairCosts_234 : decode cX12_findPairCosts 234 = .ok (.if_icmp .ge 8, 3) := by decide +kernel
theorem dX12_findPairCosts_237 : decode cX12_findPairCosts 237 = .ok (.iload 4, 2) := by decide +kernel
theorem dX12_findPairCosts_239 : decode cX12_findPairCosts 239 = .ok (.goto 14, 3) := by decide +kernel
theorem dX12_findPairCosts_242 : decode cX12_findPairCosts 242 = .ok (.aload_n 0, 1) := by decide +kernel
theorem dX12_findPairCosts_243 : decode cX12_findPairCosts 243 = .ok (.getfield 73, 3) := by decide +kernel
theorem dX12_findPairCosts_246 : decode cX12_findPairCosts 246 = .ok (.bipush 16, 2) := by decide +kernel
theorem dX12_findPairCosts_248 : decode cX12_findPairCosts 248 = .ok (.iload_n 2, 1) := by decide +kernel
theorem dX12_findPairCosts_249 : decode cX12_findPairCosts 249 = .ok (.imul, 1) := by decide +kernel
theorem dX12_findPairCosts_250 : decode cX12_findPairCosts 250 = .ok (.iload_n 3, 1) := by decide +kernel
theorem dX12_findPairCosts_251 : decode cX12_findPairCosts 251 = .ok (.iadd, 1) := by decide +kernel
theorem dX12_findPairCosts_252 : decode cX12_findPairCosts 252 = .ok (.iaload, 1) := by decide +kernel
theorem dX12_findPairCosts_253 : decode cX12_findPairCosts 253 = .ok (.iastore, 1) := by decide +kernel
theorem dX12_findPairCosts_254 : decode cX12_findPairCosts 254 = .ok (.iinc 3 1, 3) := by decide +kernel
theorem dX12_findPairCosts_257 : decode cX12_findPairCosts 257 = .ok (.goto (-79), 3) := by decide +kernel
theorem dX12_findPairCosts_260 : decode cX12_findPairCosts 260 = .ok (.iinc 2 1, 3) := by decide +kernel
theorem dX12_findPairCosts_263 : decode cX12_findPairCosts 263 = .ok (.goto (-95), 3) := by decide +kernel
theorem dX12_findPairCosts_266 : decode cX12_findPairCosts 266 = .ok (.iinc 1 1, 3) := by decide +kernel
theorem dX12_findPairCosts_269 : decode cX12_findPairCosts 269 = .ok (.goto (-111), 3) := by decide +kernel
theorem dX12_findPairCosts_272 : decode cX12_findPairCosts 272 = .ok (.aload_n 0, 1) := by decide +kernel
theorem dX12_findPairCosts_273 : decode cX12_findPairCosts 273 = .ok (.getfield 64, 3) := by decide +kernel
theorem dX12_findPairCosts_276 : decode cX12_findPairCosts 276 = .ok (.iconst 0, 1) := by decide +kernel
theorem dX12_findPairCosts_277 : decode cX12_findPairCosts 277 = .ok (.iconst 0, 1) := by decide +kernel
theorem dX12_findPairCosts_278 : decode cX12_findPairCosts 278 = .ok (.iastore, 1) := by decide +kernel
theorem dX12_findPairCosts_279 : decode cX12_findPairCosts 279 = .ok (.iconst 1, 1) := by decide +kernel
theorem dX12_findPairCosts_280 : decode cX12_findPairCosts 280 = .ok (.istore_n 1, 1) := by decide +kernel
theorem dX12_findPairCosts_281 : decode cX12_findPairCosts 281 = .ok (.iload_n 1, 1) := by decide +kernel
theorem dX12_findPairCosts_282 : decode cX12_findPairCosts 282 = .ok (.aload_n 0, 1) := by decide +kernel
theorem dX12_findPairCosts_283 : decode cX12_findPairCosts 283 = .ok (.invokevirtual 108, 3) := by decide +kernel
theorem dX12_findPairCosts_286 : decode cX12_findPairCosts 286 = .ok (.if_icmp .gt 143, 3) := by decide +kernel
theorem dX12_findPairCosts_289 : decode cX12_findPairCosts 289 = .ok (.iload_n 1, 1) := by decide +kernel
theorem dX12_findPairCosts_290 : decode cX12_findPairCosts 290 = .ok (.invokestatic 112, 3) := by decide +kernel
theorem dX12_findPairCosts_293 : decode cX12_findPairCosts 293 = .ok (.istore_n 2, 1) := by decide +kernel
theorem dX12_findPairCosts_294 : decode cX12_findPairCosts 294 = .ok (.iload_n 1, 1) := by decide +kernel
theorem dX12_findPairCosts_295 : decode cX12_findPairCosts 295 = .ok (.iconst 1, 1) := by decide +kernel
theorem dX12_findPairCosts_296 : decode cX12_findPairCosts 296 = .ok (.iload_n 2, 1) := by decide +kernel
theorem dX12_findPairCosts_297 : decode cX12_findPairCosts 297 = .ok (.ishl, 1) := by decide +kernel
theorem dX12_findPairCosts_298 : decode cX12_findPairCosts 298 = .ok (.iconst (-1), 1) := by decide +kernel
theorem dX12_findPairCosts_299 : decode cX12_findPairCosts 299 = .ok (.ixor, 1) := by decide +kernel
theorem dX12_findPairCosts_300 : decode cX12_findPairCosts 300 = .ok (.iand, 1) := by decide +kernel
theorem dX12_findPairCosts_301 : decode cX12_findPairCosts 301 = .ok (.istore_n 3, 1) := by decide +kernel
theorem dX12_findPairCosts_302 : decode cX12_findPairCosts 302 = .ok (.ldc 143, 2) := by decide +kernel
theorem dX12_findPairCosts_304 : decode cX12_findPairCosts 304 = .ok (.istore 4, 2) := by decide +kernel
theorem dX12_findPairCosts_306 : decode cX12_findPairCosts 306 = .ok (.iload_n 2, 1) := by decide +kernel
theorem dX12_findPairCosts_307 : decode cX12_findPairCosts 307 = .ok (.iconst 1, 1) := by decide +kernel
theorem dX12_findPairCosts_308 : decode cX12_findPairCosts 308 = .ok (.iadd, 1) := by decide +kernel
theorem dX12_findPairCosts_309 : decode cX12_findPairCosts 309 = .ok (.istore 5, 2) := by decide +kernel
theorem dX12_findPairCosts_311 : decode cX12_findPairCosts 311 = .ok (.iload 5, 2) := by decide +kernel
theorem dX12_findPairCosts_313 : decode cX12_findPairCosts 313 = .ok (.aload_n 0, 1) := by decide +kernel
theorem dX12_findPairCosts_314 : decode cX12_findPairCosts 314 = .ok (.getfield 92, 3) := by decide +kernel
theorem dX12_findPairCosts_317 : decode cX12_findPairCosts 317 = .ok (.if_icmp .ge 98, 3) := by decide +kernel
theorem dX12_findPairCosts_320 : decode cX12_findPairCosts 320 = .ok (.iload_n 3, 1) := by decide +kernel
theorem dX12_findPairCosts_321 : decode cX12_findPairCosts 321 = .ok (.iload 5, 2) := by decide +kernel
theorem dX12_findPairCosts_323 : decode cX12_findPairCosts 323 = .ok (.ishr, 1) := by decide +kernel
theorem dX12_findPairCosts_324 : decode cX12_findPairCosts 324 = .ok (.iconst 1, 1) := by decide +kernel
theorem dX12_findPairCosts_325 : decode cX12_findPairCosts 325 = .ok (.iand, 1) := by decide +kernel
theorem dX12_findPairCosts_326 : decode cX12_findPairCosts 326 = .ok (.iconst 1, 1) := by decide +kernel
theorem dX12_findPairCosts_327 : decode cX12_findPairCosts 327 = .ok (.if_icmp .ne 82, 3) := by decide +kernel
theorem dX12_findPairCosts_330 : decode cX12_findPairCosts 330 = .ok (.aload_n 0, 1) := by decide +kernel
theorem dX12_findPairCosts_331 : decode cX12_findPairCosts 331 = .ok (.getfield 73, 3) := by decide +kernel
theorem dX12_findPairCosts_334 : decode cX12_findPairCosts 334 = .ok (.bipush 16, 2) := by decide +kernel
theorem dX12_findPairCosts_336 : decode cX12_findPairCosts 336 = .ok (.iload_n 2, 1) := by decide +kernel
theorem dX12_findPairCosts_337 : decode cX12_findPairCosts 337 = .ok (.imul, 1) := by decide +kernel
theorem dX12_findPairCosts_338 : decode cX12_findPairCosts 338 = .ok (.iload 5, 2) := by decide +kernel
theorem dX12_findPairCosts_340 : decode cX12_findPairCosts 340 = .ok (.iadd, 1) := by decide +kernel
theorem dX12_findPairCosts_341 : decode cX12_findPairCosts 341 = .ok (.iaload, 1) := by decide +kernel
theorem dX12_findPairCosts_342 : decode cX12_findPairCosts 342 = .ok (.ldc 143, 2) := by decide +kernel
theorem dX12_findPairCosts_344 : decode cX12_findPairCosts 344 = .ok (.if_icmp .ge 65, 3) := by decide +kernel
theorem dX12_findPairCosts_347 : decode cX12_findPairCosts 347 = .ok (.aload_n 0, 1) := by decide +kernel
theorem dX12_findPairCosts_348 : decode cX12_findPairCosts 348 = .ok (.getfield 64, 3) := by decide +kernel
theorem dX12_findPairCosts_351 : decode cX12_findPairCosts 351 = .ok (.iload_n 3, 1) := by decide +kernel
theorem dX12_findPairCosts_352 : decode cX12_findPairCosts 352 = .ok (.iconst 1, 1) := by decide +kernel
theorem dX12_findPairCosts_353 : decode cX12_findPairCosts 353 = .ok (.iload 5, 2) := by decide +kernel
theorem dX12_findPairCosts_355 : decode cX12_findPairCosts 355 = .ok (.ishl, 1) := by decide +kernel
theorem dX12_findPairCosts_356 : decode cX12_findPairCosts 356 = .ok (.iconst (-1), 1) := by decide +kernel
theorem dX12_findPairCosts_357 : decode cX12_findPairCosts 357 = .ok (.ixor, 1) := by decide +kernel
theorem dX12_findPairCosts_358 : decode cX12_findPairCosts 358 = .ok (.iand, 1) := by decide +kernel
theorem dX12_findPairCosts_359 : decode cX12_findPairCosts 359 = .ok (.iaload, 1) := by decide +kernel
theorem dX12_findPairCosts_360 : decode cX12_findPairCosts 360 = .ok (.ldc 143, 2) := by decide +kernel
theorem dX12_findPairCosts_362 : decode cX12_findPairCosts 362 = .ok (.if_icmp .ge 47, 3) := by decide +kernel
theorem dX12_findPairCosts_365 : decode cX12_findPairCosts 365 = .ok (.aload_n 0, 1) := by decide +kernel
theorem dX12_findPairCosts_366 : decode cX12_findPairCosts 366 = .ok (.getfield 73, 3) := by decide +kernel
theorem dX12_findPairCosts_369 : decode cX12_findPairCosts 369 = .ok (.bipush 16, 2) := by decide +kernel
theorem dX12_findPairCosts_371 : decode cX12_findPairCosts 371 = .ok (.iload_n 2, 1) := by decide +kernel
theorem dX12_findPairCosts_372 : decode cX12_findPairCosts 372 = .ok (.imul, 1) := by decide +kernel
theorem dX12_findPairCosts_373 : decode cX12_findPairCosts 373 = .ok (.iload 5, 2) := by decide +kernel
theorem dX12_findPairCosts_375 : decode cX12_findPairCosts 375 = .ok (.iadd, 1) := by decide +kernel
theorem dX12_findPairCosts_376 : decode cX12_findPairCosts 376 = .ok (.iaload, 1) := by decide +kernel
theorem dX12_findPairCosts_377 : decode cX12_findPairCosts 377 = .ok (.aload_n 0, 1) := by decide +kernel
theorem dX12_findPairCosts_378 : decode cX12_findPairCosts 378 = .ok (.getfield 64, 3) := by decide +kernel
theorem dX12_findPairCosts_381 : decode cX12_findPairCosts 381 = .ok (.iload_n 3, 1) := by decide +kernel
theorem dX12_findPairCosts_382 : decode cX12_findPairCosts 382 = .ok (.iconst 1, 1) := by decide +kernel
theorem dX12_findPairCosts_383 : decode cX12_findPairCosts 383 = .ok (.iload 5, 2) := by decide +kernel
theorem dX12_findPairCosts_385 : decode cX12_findPairCosts 385 = .ok (.ishl, 1) := by decide +kernel
theorem dX12_findPairCosts_386 : decode cX12_findPairCosts 386 = .ok (.iconst (-1), 1) := by decide +kernel
theorem dX12_findPairCosts_387 : decode cX12_findPairCosts 387 = .ok (.ixor, 1) := by decide +kernel
theorem dX12_findPairCosts_388 : decode cX12_findPairCosts 388 = .ok (.iand, 1) := by decide +kernel
theorem dX12_findPairCosts_389 : decode cX12_findPairCosts 389 = .ok (.iaload, 1) := by decide +kernel
theorem dX12_findPairCosts_390 : decode cX12_findPairCosts 390 = .ok (.iadd, 1) := by decide +kernel
theorem dX12_findPairCosts_391 : decode cX12_findPairCosts 391 = .ok (.istore 6, 2) := by decide +kernel
theorem dX12_findPairCosts_393 : decode cX12_findPairCosts 393 = .ok (.iload 6, 2) := by decide +kernel
theorem dX12_findPairCosts_395 : decode cX12_findPairCosts 395 = .ok (.iload 4, 2) := by decide +kernel
theorem dX12_findPairCosts_397 : decode cX12_findPairCosts 397 = .ok (.if_icmp .ge 8, 3) := by decide +kernel
theorem dX12_findPairCosts_400 : decode cX12_findPairCosts 400 = .ok (.iload 6, 2) := by decide +kernel
theorem dX12_findPairCosts_402 : decode cX12_findPairCosts 402 = .ok (.goto 5, 3) := by decide +kernel
theorem dX12_findPairCosts_405 : decode cX12_findPairCosts 405 = .ok (.iload 4, 2) := by decide +kernel
theorem dX12_findPairCosts_407 : decode cX12_findPairCosts 407 = .ok (.istore 4, 2) := by decide +kernel
theorem dX12_findPairCosts_409 : decode cX12_findPairCosts 409 = .ok (.iinc 5 1, 3) := by decide +kernel
theorem dX12_findPairCosts_412 : decode cX12_findPairCosts 412 = .ok (.goto (-101), 3) := by decide +kernel
theorem dX12_findPairCosts_415 : decode cX12_findPairCosts 415 = .ok (.aload_n 0, 1) := by decide +kernel
theorem dX12_findPairCosts_416 : decode cX12_findPairCosts 416 = .ok (.getfield 64, 3) := by decide +kernel
theorem dX12_findPairCosts_419 : decode cX12_findPairCosts 419 = .ok (.iload_n 1, 1) := by decide +kernel
theorem dX12_findPairCosts_420 : decode cX12_findPairCosts 420 = .ok (.iload 4, 2) := by decide +kernel
theorem dX12_findPairCosts_422 : decode cX12_findPairCosts 422 = .ok (.iastore, 1) := by decide +kernel
