section TPW
variable {I : tp_I} {R : Room} {G : tp_G} {mc ms : Nat} {ρ : Type} {out : ρ → tp_O} {n : Nat} {g : Nat → tp_C} {k q : Nat} {lv : List (Option tp_V)} {pc : Nat} {st : List tp_V} {φ : Option ρ}
theorem j_wid {k' q' : Nat} (h1 : k ≤ k') (h2 : q ≤ q') (kk : tp_J I R G mc ms out n g k' q' lv pc st φ) : tp_J I R G mc ms out n g k q lv pc st φ := by
  intro r hr p l e s m args below meth c hC ls H locs hL hn hs hH hS
  exact W.widen (k := k') (n := q') h1 h2 (kk r hr p l e s m args below meth c hC ls H locs hL hn hs hH hS)
theorem j_sldL {i L : Int} {xs : Int → Int} (hL : (G.2.1 301 : Int) = L ∧ G.2.1 301 ≤ 3072) (hxs : ∀ i : Int, (Int32.ofNat (G.2.1 (302 + i.toNat))).toInt = xs i) (hd : decode I.1 pc = .ok (.iaload, 1)) (kk : tp_J I R G mc ms out n g k q lv (pc + 1) (.inl (xs i) :: st) φ) : tp_J I R G mc ms out n g k q lv pc (.inl i :: .inr (.inr (-302)) :: st) (if 0 ≤ i ∧ i < L then φ else none) := by
  obtain ⟨hL, -⟩ := hL
  subst hL
  refine j_sld rfl hd ?_
  rw [hxs]
  exact kk
theorem j_slenL {L : Int} (hL : (G.2.1 301 : Int) = L ∧ G.2.1 301 ≤ 3072) (hd : decode I.1 pc = .ok (.arraylength, 1)) (kk : tp_J I R G mc ms out n g k q lv (pc + 1) (.inl L :: st) φ) : tp_J I R G mc ms out n g k q lv pc (.inr (.inr (-302)) :: st) φ := by
  obtain ⟨hL, h2⟩ := hL
  subst hL
  exact j_slen rfl h2 hd kk
end TPW
abbrev i_L_law : tp_I := (code, "TypesAtPrimeLaw", some .boolean, 4, "law")
abbrev o_L_law : Int × tp_M → tp_O := fun r => (some (.inl r.1), tp_NC, tp_st r.2)
theorem d_L_law_0 : decode code 0 = .ok (.new 7, 3) := by decide +kernel
theorem d_L_law_3 : decode code 3 = .ok (.dup, 1) := by decide +kernel
theorem d_L_law_4 : decode code 4 = .ok (.invokespecial 9, 3) := by decide +kernel
theorem d_L_law_7 : decode code 7 = .ok (.astore_n 1, 1) := by decide +kernel
theorem d_L_law_8 : decode code 8 = .ok (.new 10, 3) := by decide +kernel
theorem d_L_law_11 : decode code 11 = .ok (.dup, 1) := by decide +kernel
theorem d_L_law_12 : decode code 12 = .ok (.invokespecial 12, 3) := by decide +kernel
theorem d_L_law_15 : decode code 15 = .ok (.astore_n 2, 1) := by decide +kernel
theorem d_L_law_16 : decode code 16 = .ok (.iconst 0, 1) := by decide +kernel
theorem d_L_law_17 : decode code 17 = .ok (.istore_n 3, 1) := by decide +kernel
theorem d_L_law_18 : decode code 18 = .ok (.iload_n 3, 1) := by decide +kernel
theorem d_L_law_19 : decode code 19 = .ok (.aload_n 0, 1) := by decide +kernel
theorem d_L_law_20 : decode code 20 = .ok (.arraylength, 1) := by decide +kernel
theorem d_L_law_21 : decode code 21 = .ok (.bipush 6, 2) := by decide +kernel
theorem d_L_law_23 : decode code 23 = .ok (.isub, 1) := by decide +kernel
theorem d_L_law_24 : decode code 24 = .ok (.if_icmp .gt 1312, 3) := by decide +kernel
theorem d_L_law_27 : decode code 27 = .ok (.aload_n 0, 1) := by decide +kernel
theorem d_L_law_28 : decode code 28 = .ok (.iload_n 3, 1) := by decide +kernel
theorem d_L_law_29 : decode code 29 = .ok (.iaload, 1) := by decide +kernel
theorem d_L_law_30 : decode code 30 = .ok (.bipush 31, 2) := by decide +kernel
theorem d_L_law_32 : decode code 32 = .ok (.iand, 1) := by decide +kernel
theorem d_L_law_33 : decode code 33 = .ok (.tableswitch 1297 0 31 #[143, 166, 189, 202, 225, 269, 303, 336, 399, 442, 476, 530, 574, 597, 620, 653, 687, 720, 763, 806, 849, 882, 905, 918, 951, 1005, 1048, 1091, 1134, 1177, 1211, 1274], 143) := by decide +kernel
theorem d_L_law_176 : decode code 176 = .ok (.aload_n 1, 1) := by decide +kernel
theorem d_L_law_177 : decode code 177 = .ok (.aload_n 0, 1) := by decide +kernel
theorem d_L_law_178 : decode code 178 = .ok (.iload_n 3, 1) := by decide +kernel
theorem d_L_law_179 : decode code 179 = .ok (.iconst 1, 1) := by decide +kernel
theorem d_L_law_180 : decode code 180 = .ok (.iadd, 1) := by decide +kernel
theorem d_L_law_181 : decode code 181 = .ok (.iaload, 1) := by decide +kernel
theorem d_L_law_182 : decode code 182 = .ok (.invokevirtual 13, 3) := by decide +kernel
theorem d_L_law_185 : decode code 185 = .ok (.aload_n 2, 1) := by decide +kernel
theorem d_L_law_186 : decode code 186 = .ok (.aload_n 0, 1) := by decide +kernel
theorem d_L_law_187 : decode code 187 = .ok (.iload_n 3, 1) := by decide +kernel
theorem d_L_law_188 : decode code 188 = .ok (.iconst 1, 1) := by decide +kernel
theorem d_L_law_189 : decode code 189 = .ok (.iadd, 1) := by decide +kernel
theorem d_L_law_190 : decode code 190 = .ok (.iaload, 1) := by decide +kernel
theorem d_L_law_191 : decode code 191 = .ok (.invokevirtual 17, 3) := by decide +kernel
theorem d_L_law_194 : decode code 194 = .ok (.if_icmp .eq 1136, 3) := by decide +kernel
theorem d_L_law_197 : decode code 197 = .ok (.iconst 0, 1) := by decide +kernel
theorem d_L_law_198 : decode code 198 = .ok (.ireturn, 1) := by decide +kernel
theorem d_L_law_199 : decode code 199 = .ok (.aload_n 1, 1) := by decide +kernel
theorem d_L_law_200 : decode code 200 = .ok (.aload_n 0, 1) := by decide +kernel
theorem d_L_law_201 : decode code 201 = .ok (.iload_n 3, 1) := by decide +kernel
theorem d_L_law_202 : decode code 202 = .ok (.iconst 1, 1) := by decide +kernel
theorem d_L_law_203 : decode code 203 = .ok (.iadd, 1) := by decide +kernel
theorem d_L_law_204 : decode code 204 = .ok (.iaload, 1) := by decide +kernel
theorem d_L_law_205 : decode code 205 = .ok (.invokevirtual 18, 3) := by decide +kernel
theorem d_L_law_208 : decode code 208 = .ok (.aload_n 2, 1) := by decide +kernel
theorem d_L_law_209 : decode code 209 = .ok (.aload_n 0, 1) := by decide +kernel
theorem d_L_law_210 : decode code 210 = .ok (.iload_n 3, 1) := by decide +kernel
theorem d_L_law_211 : decode code 211 = .ok (.iconst 1, 1) := by decide +kernel
theorem d_L_law_212 : decode code 212 = .ok (.iadd, 1) := by decide +kernel
theorem d_L_law_213 : decode code 213 = .ok (.iaload, 1) := by decide +kernel
theorem d_L_law_214 : decode code 214 = .ok (.invokevirtual 21, 3) := by decide +kernel
theorem d_L_law_217 : decode code 217 = .ok (.if_icmp .eq 1113, 3) := by decide +kernel
theorem d_L_law_220 : decode code 220 = .ok (.iconst 0, 1) := by decide +kernel
theorem d_L_law_221 : decode code 221 = .ok (.ireturn, 1) := by decide +kernel
theorem d_L_law_222 : decode code 222 = .ok (.aload_n 1, 1) := by decide +kernel
theorem d_L_law_223 : decode code 223 = .ok (.invokevirtual 22, 3) := by decide +kernel
theorem d_L_law_226 : decode code 226 = .ok (.aload_n 2, 1) := by decide +kernel
theorem d_L_law_227 : decode code 227 = .ok (.invokevirtual 26, 3) := by decide +kernel
theorem d_L_law_230 : decode code 230 = .ok (.if_icmp .eq 1100, 3) := by decide +kernel
theorem d_L_law_233 : decode code 233 = .ok (.iconst 0, 1) := by decide +kernel
theorem d_L_law_234 : decode code 234 = .ok (.ireturn, 1) := by decide +kernel
theorem d_L_law_235 : decode code 235 = .ok (.aload_n 1, 1) := by decide +kernel
theorem d_L_law_236 : decode code 236 = .ok (.aload_n 0, 1) := by decide +kernel
theorem d_L_law_237 : decode code 237 = .ok (.iload_n 3, 1) := by decide +kernel
theorem d_L_law_238 : decode code 238 = .ok (.iconst 1, 1) := by decide +kernel
theorem d_L_law_239 : decode code 239 = .ok (.iadd, 1) := by decide +kernel
theorem d_L_law_240 : decode code 240 = .ok (.iaload, 1) := by decide +kernel
theorem d_L_law_241 : decode code 241 = .ok (.invokevirtual 27, 3) := by decide +kernel
theorem d_L_law_244 : decode code 244 = .ok (.aload_n 2, 1) := by decide +kernel
theorem d_L_law_245 : decode code 245 = .ok (.aload_n 0, 1) := by decide +kernel
theorem d_L_law_246 : decode code 246 = .ok (.iload_n 3, 1) := by decide +kernel
theorem d_L_law_247 : decode code 247 = .ok (.iconst 1, 1) := by decide +kernel
theorem d_L_law_248 : decode code 248 = .ok (.iadd, 1) := by decide +kernel
theorem d_L_law_249 : decode code 249 = .ok (.iaload, 1) := by decide +kernel
theorem d_L_law_250 : decode code 250 = .ok (.invokevirtual 30, 3) := by decide +kernel
theorem d_L_law_253 : decode code 253 = .ok (.if_icmp .eq 1077, 3) := by decide +kernel
theorem d_L_law_256 : decode code 256 = .ok (.iconst 0, 1) := by decide +kernel
theorem d_L_law_257 : decode code 257 = .ok (.ireturn, 1) := by decide +kernel
theorem d_L_law_258 : decode code 258 = .ok (.aload_n 1, 1) := by decide +kernel
theorem d_L_law_259 : decode code 259 = .ok (.aload_n 0, 1) := by decide +kernel
theorem d_L_law_260 : decode code 260 = .ok (.iload_n 3, 1) := by decide +kernel
theorem d_L_law_261 : decode code 261 = .ok (.iconst 1, 1) := by decide +kernel
theorem d_L_law_262 : decode code 262 = .ok (.iadd, 1) := by decide +kernel
theorem d_L_law_263 : decode code 263 = .ok (.iaload, 1) := by decide +kernel
theorem d_L_law_264 : decode code 264 = .ok (.aload_n 0, 1) := by decide +kernel
theorem d_L_law_265 : decode code 265 = .ok (.iload_n 3, 1) := by decide +kernel
theorem d_L_law_266 : decode code 266 = .ok (.iconst 2, 1) := by decide +kernel
theorem d_L_law_267 : decode code 267 = .ok (.iadd, 1) := by decide +kernel
theorem d_L_law_268 : decode code 268 = .ok (.iaload, 1) := by decide +kernel
theorem d_L_law_269 : decode code 269 = .ok (.aload_n 0, 1) := by decide +kernel
theorem d_L_law_270 : decode code 270 = .ok (.iload_n 3, 1) := by decide +kernel
theorem d_L_law_271 : decode code 271 = .ok (.iconst 3, 1) := by decide +kernel
theorem d_L_law_272 : decode code 272 = .ok (.iadd, 1) := by decide +kernel
theorem d_L_law_273 : decode code 273 = .ok (.iaload, 1) := by decide +kernel
theorem d_L_law_274 : decode code 274 = .ok (.invokevirtual 31, 3) := by decide +kernel
theorem d_L_law_277 : decode code 277 = .ok (.aload_n 2, 1) := by decide +kernel
theorem d_L_law_278 : decode code 278 = .ok (.aload_n 0, 1) := by decide +kernel
theorem d_L_law_279 : decode code 279 = .ok (.iload_n 3, 1) := by decide +kernel
theorem d_L_law_280 : decode code 280 = .ok (.iconst 1, 1) := by decide +kernel
theorem d_L_law_281 : decode code 281 = .ok (.iadd, 1) := by decide +kernel
theorem d_L_law_282 : decode code 282 = .ok (.iaload, 1) := by decide +kernel
theorem d_L_law_283 : decode code 283 = .ok (.aload_n 0, 1) := by decide +kernel
theorem d_L_law_284 : decode code 284 = .ok (.iload_n 3, 1) := by decide +kernel
theorem d_L_law_285 : decode code 285 = .ok (.iconst 2, 1) := by decide +kernel
theorem d_L_law_286 : decode code 286 = .ok (.iadd, 1) := by decide +kernel
theorem d_L_law_287 : decode code 287 = .ok (.iaload, 1) := by decide +kernel
theorem d_L_law_288 : decode code 288 = .ok (.aload_n 0, 1) := by decide +kernel
theorem d_L_law_289 : decode code 289 = .ok (.iload_n 3, 1) := by decide +kernel
theorem d_L_law_290 : decode code 290 = .ok (.iconst 3, 1) := by decide +kernel
theorem d_L_law_291 : decode code 291 = .ok (.iadd, 1) := by decide +kernel
theorem d_L_law_292 : decode code 292 = .ok (.iaload, 1) := by decide +kernel
theorem d_L_law_293 : decode code 293 = .ok (.invokevirtual 35, 3) := by decide +kernel
theorem d_L_law_296 : decode code 296 = .ok (.lcmp, 1) := by decide +kernel
theorem d_L_law_297 : decode code 297 = .ok (.ifCond .eq 1033, 3) := by decide +kernel
theorem d_L_law_300 : decode code 300 = .ok (.iconst 0, 1) := by decide +kernel
theorem d_L_law_301 : decode code 301 = .ok (.ireturn, 1) := by decide +kernel
theorem d_L_law_302 : decode code 302 = .ok (.aload_n 1, 1) := by decide +kernel
theorem d_L_law_303 : decode code 303 = .ok (.aload_n 0, 1) := by decide +kernel
theorem d_L_law_304 : decode code 304 = .ok (.iload_n 3, 1) := by decide +kernel
theorem d_L_law_305 : decode code 305 = .ok (.iconst 1, 1) := by decide +kernel
theorem d_L_law_306 : decode code 306 = .ok (.iadd, 1) := by decide +kernel
theorem d_L_law_307 : decode code 307 = .ok (.iaload, 1) := by decide +kernel
theorem d_L_law_308 : decode code 308 = .ok (.aload_n 0, 1) := by decide +kernel
theorem d_L_law_309 : decode code 309 = .ok (.iload_n 3, 1) := by decide +kernel
theorem d_L_law_310 : decode code 310 = .ok (.iconst 2, 1) := by decide +kernel
theorem d_L_law_311 : decode code 311 = .ok (.iadd, 1) := by decide +kernel
theorem d_L_law_312 : decode code 312 = .ok (.iaload, 1) := by decide +kernel
theorem d_L_law_313 : decode code 313 = .ok (.invokevirtual 36, 3) := by decide +kernel
theorem d_L_law_316 : decode code 316 = .ok (.aload_n 2, 1) := by decide +kernel
theorem d_L_law_317 : decode code 317 = .ok (.aload_n 0, 1) := by decide +kernel
theorem d_L_law_318 : decode code 318 = .ok (.iload_n 3, 1) := by decide +kernel
theorem d_L_law_319 : decode code 319 = .ok (.iconst 1, 1) := by decide +kernel
theorem d_L_law_320 : decode code 320 = .ok (.iadd, 1) := by decide +kernel
theorem d_L_law_321 : decode code 321 = .ok (.iaload, 1) := by decide +kernel
theorem d_L_law_322 : decode code 322 = .ok (.aload_n 0, 1) := by decide +kernel
theorem d_L_law_323 : decode code 323 = .ok (.iload_n 3, 1) := by decide +kernel
theorem d_L_law_324 : decode code 324 = .ok (.iconst 2, 1) := by decide +kernel
theorem d_L_law_325 : decode code 325 = .ok (.iadd, 1) := by decide +kernel
theorem d_L_law_326 : decode code 326 = .ok (.iaload, 1) := by decide +kernel
theorem d_L_law_327 : decode code 327 = .ok (.invokevirtual 40, 3) := by decide +kernel
theorem d_L_law_330 : decode code 330 = .ok (.lcmp, 1) := by decide +kernel
theorem d_L_law_331 : decode code 331 = .ok (.ifCond .eq 999, 3) := by decide +kernel
theorem d_L_law_334 : decode code 334 = .ok (.iconst 0, 1) := by decide +kernel
theorem d_L_law_335 : decode code 335 = .ok (.ireturn, 1) := by decide +kernel
theorem d_L_law_336 : decode code 336 = .ok (.aload_n 1, 1) := by decide +kernel
theorem d_L_law_337 : decode code 337 = .ok (.aload_n 0, 1) := by decide +kernel
theorem d_L_law_338 : decode code 338 = .ok (.iload_n 3, 1) := by decide +kernel
theorem d_L_law_339 : decode code 339 = .ok (.iconst 1, 1) := by decide +kernel
theorem d_L_law_340 : decode code 340 = .ok (.iadd, 1) := by decide +kernel
theorem d_L_law_341 : decode code 341 = .ok (.iaload, 1) := by decide +kernel
theorem d_L_law_342 : decode code 342 = .ok (.aload_n 0, 1) := by decide +kernel
theorem d_L_law_343 : decode code 343 = .ok (.iload_n 3, 1) := by decide +kernel
theorem d_L_law_344 : decode code 344 = .ok (.iconst 2, 1) := by decide +kernel
theorem d_L_law_345 : decode code 345 = .ok (.iadd, 1) := by decide +kernel
theorem d_L_law_346 : decode code 346 = .ok (.iaload, 1) := by decide +kernel
theorem d_L_law_347 : decode code 347 = .ok (.invokevirtual 41, 3) := by decide +kernel
theorem d_L_law_350 : decode code 350 = .ok (.aload_n 2, 1) := by decide +kernel
theorem d_L_law_351 : decode code 351 = .ok (.aload_n 0, 1) := by decide +kernel
theorem d_L_law_352 : decode code 352 = .ok (.iload_n 3, 1) := by decide +kernel
theorem d_L_law_353 : decode code 353 = .ok (.iconst 1, 1) := by decide +kernel
theorem d_L_law_354 : decode code 354 = .ok (.iadd, 1) := by decide +kernel
theorem d_L_law_355 : decode code 355 = .ok (.iaload, 1) := by decide +kernel
theorem d_L_law_356 : decode code 356 = .ok (.aload_n 0, 1) := by decide +kernel
theorem d_L_law_357 : decode code 357 = .ok (.iload_n 3, 1) := by decide +kernel
theorem d_L_law_358 : decode code 358 = .ok (.iconst 2, 1) := by decide +kernel
theorem d_L_law_359 : decode code 359 = .ok (.iadd, 1) := by decide +kernel
theorem d_L_law_360 : decode code 360 = .ok (.iaload, 1) := by decide +kernel
theorem d_L_law_361 : decode code 361 = .ok (.invokevirtual 45, 3) := by decide +kernel
theorem d_L_law_364 : decode code 364 = .ok (.if_icmp .eq 966, 3) := by decide +kernel
theorem d_L_law_367 : decode code 367 = .ok (.iconst 0, 1) := by decide +kernel
theorem d_L_law_368 : decode code 368 = .ok (.ireturn, 1) := by decide +kernel
theorem d_L_law_369 : decode code 369 = .ok (.aload_n 1, 1) := by decide +kernel
theorem d_L_law_370 : decode code 370 = .ok (.aload_n 0, 1) := by decide +kernel
theorem d_L_law_371 : decode code 371 = .ok (.iload_n 3, 1) := by decide +kernel
theorem d_L_law_372 : decode code 372 = .ok (.iconst 1, 1) := by decide +kernel
theorem d_L_law_373 : decode code 373 = .ok (.iadd, 1) := by decide +kernel
theorem d_L_law_374 : decode code 374 = .ok (.iaload, 1) := by decide +kernel
theorem d_L_law_375 : decode code 375 = .ok (.aload_n 0, 1) := by decide +kernel
theorem d_L_law_376 : decode code 376 = .ok (.iload_n 3, 1) := by decide +kernel
theorem d_L_law_377 : decode code 377 = .ok (.iconst 2, 1) := by decide +kernel
theorem d_L_law_378 : decode code 378 = .ok (.iadd, 1) := by decide +kernel
theorem d_L_law_379 : decode code 379 = .ok (.iaload, 1) := by decide +kernel
theorem d_L_law_380 : decode code 380 = .ok (.aload_n 0, 1) := by decide +kernel
theorem d_L_law_381 : decode code 381 = .ok (.iload_n 3, 1) := by decide +kernel
theorem d_L_law_382 : decode code 382 = .ok (.iconst 3, 1) := by decide +kernel
theorem d_L_law_383 : decode code 383 = .ok (.iadd, 1) := by decide +kernel
theorem d_L_law_384 : decode code 384 = .ok (.iaload, 1) := by decide +kernel
theorem d_L_law_385 : decode code 385 = .ok (.aload_n 0, 1) := by decide +kernel
theorem d_L_law_386 : decode code 386 = .ok (.iload_n 3, 1) := by decide +kernel
theorem d_L_law_387 : decode code 387 = .ok (.iconst 4, 1) := by decide +kernel
theorem d_L_law_388 : decode code 388 = .ok (.iadd, 1) := by decide +kernel
theorem d_L_law_389 : decode code 389 = .ok (.iaload, 1) := by decide +kernel
theorem d_L_law_390 : decode code 390 = .ok (.aload_n 0, 1) := by decide +kernel
theorem d_L_law_391 : decode code 391 = .ok (.iload_n 3, 1) := by decide +kernel
theorem d_L_law_392 : decode code 392 = .ok (.iconst 5, 1) := by decide +kernel
theorem d_L_law_393 : decode code 393 = .ok (.iadd, 1) := by decide +kernel
theorem d_L_law_394 : decode code 394 = .ok (.iaload, 1) := by decide +kernel
theorem d_L_law_395 : decode code 395 = .ok (.invokevirtual 46, 3) := by decide +kernel
theorem d_L_law_398 : decode code 398 = .ok (.aload_n 2, 1) := by decide +kernel
theorem d_L_law_399 : decode code 399 = .ok (.aload_n 0, 1) := by decide +kernel
theorem d_L_law_400 : decode code 400 = .ok (.iload_n 3, 1) := by decide +kernel
theorem d_L_law_401 : decode code 401 = .ok (.iconst 1, 1) := by decide +kernel
theorem d_L_law_402 : decode code 402 = .ok (.iadd, 1) := by decide +kernel
theorem d_L_law_403 : decode code 403 = .ok (.iaload, 1) := by decide +kernel
theorem d_L_law_404 : decode code 404 = .ok (.aload_n 0, 1) := by decide +kernel
theorem d_L_law_405 : decode code 405 = .ok (.iload_n 3, 1) := by decide +kernel
theorem d_L_law_406 : decode code 406 = .ok (.iconst 2, 1) := by decide +kernel
theorem d_L_law_407 : decode code 407 = .ok (.iadd, 1) := by decide +kernel
theorem d_L_law_408 : decode code 408 = .ok (.iaload, 1) := by decide +kernel
theorem d_L_law_409 : decode code 409 = .ok (.aload_n 0, 1) := by decide +kernel
theorem d_L_law_410 : decode code 410 = .ok (.iload_n 3, 1) := by decide +kernel
theorem d_L_law_411 : decode code 411 = .ok (.iconst 3, 1) := by decide +kernel
theorem d_L_law_412 : decode code 412 = .ok (.iadd, 1) := by decide +kernel
theorem d_L_law_413 : decode code 413 = .ok (.iaload, 1) := by decide +kernel
theorem d_L_law_414 : decode code 414 = .ok (.aload_n 0, 1) := by decide +kernel
theorem d_L_law_415 : decode code 415 = .ok (.iload_n 3, 1) := by decide +kernel
theorem d_L_law_416 : decode code 416 = .ok (.iconst 4, 1) := by decide +kernel
theorem d_L_law_417 : decode code 417 = .ok (.iadd, 1) := by decide +kernel
theorem d_L_law_418 : decode code 418 = .ok (.iaload, 1) := by decide +kernel
theorem d_L_law_419 : decode code 419 = .ok (.aload_n 0, 1) := by decide +kernel
theorem d_L_law_420 : decode code 420 = .ok (.iload_n 3, 1) := by decide +kernel
theorem d_L_law_421 : decode code 421 = .ok (.iconst 5, 1) := by decide +kernel
theorem d_L_law_422 : decode code 422 = .ok (.iadd, 1) := by decide +kernel
theorem d_L_law_423 : decode code 423 = .ok (.iaload, 1) := by decide +kernel
theorem d_L_law_424 : decode code 424 = .ok (.invokevirtual 50, 3) := by decide +kernel
theorem d_L_law_427 : decode code 427 = .ok (.if_icmp .eq 903, 3) := by decide +kernel
theorem d_L_law_430 : decode code 430 = .ok (.iconst 0, 1) := by decide +kernel
theorem d_L_law_431 : decode code 431 = .ok (.ireturn, 1) := by decide +kernel
theorem d_L_law_432 : decode code 432 = .ok (.aload_n 1, 1) := by decide +kernel
theorem d_L_law_433 : decode code 433 = .ok (.aload_n 0, 1) := by decide +kernel
theorem d_L_law_434 : decode code 434 = .ok (.iload_n 3, 1) := by decide +kernel
theorem d_L_law_435 : decode code 435 = .ok (.iconst 1, 1) := by decide +kernel
theorem d_L_law_436 : decode code 436 = .ok (.iadd, 1) := by decide +kernel
theorem d_L_law_437 : decode code 437 = .ok (.iaload, 1) := by decide +kernel
theorem d_L_law_438 : decode code 438 = .ok (.aload_n 0, 1) := by decide +kernel
theorem d_L_law_439 : decode code 439 = .ok (.iload_n 3, 1) := by decide +kernel
theorem d_L_law_440 : decode code 440 = .ok (.iconst 2, 1) := by decide +kernel
theorem d_L_law_441 : decode code 441 = .ok (.iadd, 1) := by decide +kernel
theorem d_L_law_442 : decode code 442 = .ok (.iaload, 1) := by decide +kernel
theorem d_L_law_443 : decode code 443 = .ok (.aload_n 0, 1) := by decide +kernel
theorem d_L_law_444 : decode code 444 = .ok (.iload_n 3, 1) := by decide +kernel
theorem d_L_law_445 : decode code 445 = .ok (.iconst 3, 1) := by decide +kernel
theorem d_L_law_446 : decode code 446 = .ok (.iadd, 1) := by decide +kernel
theorem d_L_law_447 : decode code 447 = .ok (.iaload, 1) := by decide +kernel
theorem d_L_law_448 : decode code 448 = .ok (.invokevirtual 51, 3) := by decide +kernel
theorem d_L_law_451 : decode code 451 = .ok (.aload_n 2, 1) := by decide +kernel
theorem d_L_law_452 : decode code 452 = .ok (.aload_n 0, 1) := by decide +kernel
theorem d_L_law_453 : decode code 453 = .ok (.iload_n 3, 1) := by decide +kernel
theorem d_L_law_454 : decode code 454 = .ok (.iconst 1, 1) := by decide +kernel
theorem d_L_law_455 : decode code 455 = .ok (.iadd, 1) := by decide +kernel
theorem d_L_law_456 : decode code 456 = .ok (.iaload, 1) := by decide +kernel
theorem d_L_law_457 : decode code 457 = .ok (.aload_n 0, 1) := by decide +kernel
theorem d_L_law_458 : decode code 458 = .ok (.iload_n 3, 1) := by decide +kernel
theorem d_L_law_459 : decode code 459 = .ok (.iconst 2, 1) := by decide +kernel
theorem d_L_law_460 : decode code 460 = .ok (.iadd, 1) := by decide +kernel
theorem d_L_law_461 : decode code 461 = .ok (.iaload, 1) := by decide +kernel
theorem d_L_law_462 : decode code 462 = .ok (.aload_n 0, 1) := by decide +kernel
theorem d_L_law_463 : decode code 463 = .ok (.iload_n 3, 1) := by decide +kernel
theorem d_L_law_464 : decode code 464 = .ok (.iconst 3, 1) := by decide +kernel
theorem d_L_law_465 : decode code 465 = .ok (.iadd, 1) := by decide +kernel
theorem d_L_law_466 : decode code 466 = .ok (.iaload, 1) := by decide +kernel
theorem d_L_law_467 : decode code 467 = .ok (.invokevirtual 55, 3) := by decide +kernel
theorem d_L_law_470 : decode code 470 = .ok (.if_icmp .eq 860, 3) := by decide +kernel
theorem d_L_law_473 : decode code 473 = .ok (.iconst 0, 1) := by decide +kernel
theorem d_L_law_474 : decode code 474 = .ok (.ireturn, 1) := by decide +kernel
theorem d_L_law_475 : decode code 475 = .ok (.aload_n 1, 1) := by decide +kernel
theorem d_L_law_476 : decode code 476 = .ok (.aload_n 0, 1) := by decide +kernel
theorem d_L_law_477 : decode code 477 = .ok (.iload_n 3, 1) := by decide +kernel
theorem d_L_law_478 : decode code 478 = .ok (.iconst 1, 1) := by decide +kernel
theorem d_L_law_479 : decode code 479 = .ok (.iadd, 1) := by decide +kernel
theorem d_L_law_480 : decode code 480 = .ok (.iaload, 1) := by decide +kernel
theorem d_L_law_481 : decode code 481 = .ok (.aload_n 0, 1) := by decide +kernel
theorem d_L_law_482 : decode code 482 = .ok (.iload_n 3, 1) := by decide +kernel
theorem d_L_law_483 : decode code 483 = .ok (.iconst 2, 1) := by decide +kernel
theorem d_L_law_484 : decode code 484 = .ok (.iadd, 1) := by decide +kernel
theorem d_L_law_485 : decode code 485 = .ok (.iaload, 1) := by decide +kernel
theorem d_L_law_486 : decode code 486 = .ok (.invokevirtual 56, 3) := by decide +kernel
theorem d_L_law_489 : decode code 489 = .ok (.aload_n 2, 1) := by decide +kernel
theorem d_L_law_490 : decode code 490 = .ok (.aload_n 0, 1) := by decide +kernel
theorem d_L_law_491 : decode code 491 = .ok (.iload_n 3, 1) := by decide +kernel
theorem d_L_law_492 : decode code 492 = .ok (.iconst 1, 1) := by decide +kernel
theorem d_L_law_493 : decode code 493 = .ok (.iadd, 1) := by decide +kernel
theorem d_L_law_494 : decode code 494 = .ok (.iaload, 1) := by decide +kernel
theorem d_L_law_495 : decode code 495 = .ok (.aload_n 0, 1) := by decide +kernel
theorem d_L_law_496 : decode code 496 = .ok (.iload_n 3, 1) := by decide +kernel
theorem d_L_law_497 : decode code 497 = .ok (.iconst 2, 1) := by decide +kernel
theorem d_L_law_498 : decode code 498 = .ok (.iadd, 1) := by decide +kernel
theorem d_L_law_499 : decode code 499 = .ok (.iaload, 1) := by decide +kernel
theorem d_L_law_500 : decode code 500 = .ok (.invokevirtual 59, 3) := by decide +kernel
theorem d_L_law_503 : decode code 503 = .ok (.lcmp, 1) := by decide +kernel
theorem d_L_law_504 : decode code 504 = .ok (.ifCond .eq 826, 3) := by decide +kernel
theorem d_L_law_507 : decode code 507 = .ok (.iconst 0, 1) := by decide +kernel
theorem d_L_law_508 : decode code 508 = .ok (.ireturn, 1) := by decide +kernel
theorem d_L_law_509 : decode code 509 = .ok (.aload_n 1, 1) := by decide +kernel
theorem d_L_law_510 : decode code 510 = .ok (.aload_n 0, 1) := by decide +kernel
theorem d_L_law_511 : decode code 511 = .ok (.iload_n 3, 1) := by decide +kernel
theorem d_L_law_512 : decode code 512 = .ok (.iconst 1, 1) := by decide +kernel
theorem d_L_law_513 : decode code 513 = .ok (.iadd, 1) := by decide +kernel
theorem d_L_law_514 : decode code 514 = .ok (.iaload, 1) := by decide +kernel
theorem d_L_law_515 : decode code 515 = .ok (.aload_n 0, 1) := by decide +kernel
theorem d_L_law_516 : decode code 516 = .ok (.iload_n 3, 1) := by decide +kernel
theorem d_L_law_517 : decode code 517 = .ok (.iconst 2, 1) := by decide +kernel
theorem d_L_law_518 : decode code 518 = .ok (.iadd, 1) := by decide +kernel
theorem d_L_law_519 : decode code 519 = .ok (.iaload, 1) := by decide +kernel
theorem d_L_law_520 : decode code 520 = .ok (.aload_n 0, 1) := by decide +kernel
theorem d_L_law_521 : decode code 521 = .ok (.iload_n 3, 1) := by decide +kernel
theorem d_L_law_522 : decode code 522 = .ok (.iconst 3, 1) := by decide +kernel
theorem d_L_law_523 : decode code 523 = .ok (.iadd, 1) := by decide +kernel
theorem d_L_law_524 : decode code 524 = .ok (.iaload, 1) := by decide +kernel
theorem d_L_law_525 : decode code 525 = .ok (.aload_n 0, 1) := by decide +kernel
theorem d_L_law_526 : decode code 526 = .ok (.iload_n 3, 1) := by decide +kernel
theorem d_L_law_527 : decode code 527 = .ok (.iconst 4, 1) := by decide +kernel
theorem d_L_law_528 : decode code 528 = .ok (.iadd, 1) := by decide +kernel
theorem d_L_law_529 : decode code 529 = .ok (.iaload, 1) := by decide +kernel
theorem d_L_law_530 : decode code 530 = .ok (.invokevirtual 60, 3) := by decide +kernel
theorem d_L_law_533 : decode code 533 = .ok (.aload_n 2, 1) := by decide +kernel
theorem d_L_law_534 : decode code 534 = .ok (.aload_n 0, 1) := by decide +kernel
theorem d_L_law_535 : decode code 535 = .ok (.iload_n 3, 1) := by decide +kernel
theorem d_L_law_536 : decode code 536 = .ok (.iconst 1, 1) := by decide +kernel
theorem d_L_law_537 : decode code 537 = .ok (.iadd, 1) := by decide +kernel
theorem d_L_law_538 : decode code 538 = .ok (.iaload, 1) := by decide +kernel
theorem d_L_law_539 : decode code 539 = .ok (.aload_n 0, 1) := by decide +kernel
theorem d_L_law_540 : decode code 540 = .ok (.iload_n 3, 1) := by decide +kernel
theorem d_L_law_541 : decode code 541 = .ok (.iconst 2, 1) := by decide +kernel
theorem d_L_law_542 : decode code 542 = .ok (.iadd, 1) := by decide +kernel
theorem d_L_law_543 : decode code 543 = .ok (.iaload, 1) := by decide +kernel
theorem d_L_law_544 : decode code 544 = .ok (.aload_n 0, 1) := by decide +kernel
theorem d_L_law_545 : decode code 545 = .ok (.iload_n 3, 1) := by decide +kernel
theorem d_L_law_546 : decode code 546 = .ok (.iconst 3, 1) := by decide +kernel
theorem d_L_law_547 : decode code 547 = .ok (.iadd, 1) := by decide +kernel
theorem d_L_law_548 : decode code 548 = .ok (.iaload, 1) := by decide +kernel
theorem d_L_law_549 : decode code 549 = .ok (.aload_n 0, 1) := by decide +kernel
theorem d_L_law_550 : decode code 550 = .ok (.iload_n 3, 1) := by decide +kernel
theorem d_L_law_551 : decode code 551 = .ok (.iconst 4, 1) := by decide +kernel
theorem d_L_law_552 : decode code 552 = .ok (.iadd, 1) := by decide +kernel
theorem d_L_law_553 : decode code 553 = .ok (.iaload, 1) := by decide +kernel
theorem d_L_law_554 : decode code 554 = .ok (.invokevirtual 64, 3) := by decide +kernel
theorem d_L_law_557 : decode code 557 = .ok (.lcmp, 1) := by decide +kernel
theorem d_L_law_558 : decode code 558 = .ok (.ifCond .eq 772, 3) := by decide +kernel
theorem d_L_law_561 : decode code 561 = .ok (.iconst 0, 1) := by decide +kernel
theorem d_L_law_562 : decode code 562 = .ok (.ireturn, 1) := by decide +kernel
theorem d_L_law_563 : decode code 563 = .ok (.aload_n 1, 1) := by decide +kernel
theorem d_L_law_564 : decode code 564 = .ok (.aload_n 0, 1) := by decide +kernel
theorem d_L_law_565 : decode code 565 = .ok (.iload_n 3, 1) := by decide +kernel
theorem d_L_law_566 : decode code 566 = .ok (.iconst 1, 1) := by decide +kernel
theorem d_L_law_567 : decode code 567 = .ok (.iadd, 1) := by decide +kernel
theorem d_L_law_568 : decode code 568 = .ok (.iaload, 1) := by decide +kernel
theorem d_L_law_569 : decode code 569 = .ok (.aload_n 0, 1) := by decide +kernel
theorem d_L_law_570 : decode code 570 = .ok (.iload_n 3, 1) := by decide +kernel
theorem d_L_law_571 : decode code 571 = .ok (.iconst 2, 1) := by decide +kernel
theorem d_L_law_572 : decode code 572 = .ok (.iadd, 1) := by decide +kernel
theorem d_L_law_573 : decode code 573 = .ok (.iaload, 1) := by decide +kernel
theorem d_L_law_574 : decode code 574 = .ok (.aload_n 0, 1) := by decide +kernel
theorem d_L_law_575 : decode code 575 = .ok (.iload_n 3, 1) := by decide +kernel
theorem d_L_law_576 : decode code 576 = .ok (.iconst 3, 1) := by decide +kernel
theorem d_L_law_577 : decode code 577 = .ok (.iadd, 1) := by decide +kernel
theorem d_L_law_578 : decode code 578 = .ok (.iaload, 1) := by decide +kernel
theorem d_L_law_579 : decode code 579 = .ok (.invokevirtual 65, 3) := by decide +kernel
theorem d_L_law_582 : decode code 582 = .ok (.aload_n 2, 1) := by decide +kernel
theorem d_L_law_583 : decode code 583 = .ok (.aload_n 0, 1) := by decide +kernel
theorem d_L_law_584 : decode code 584 = .ok (.iload_n 3, 1) := by decide +kernel
theorem d_L_law_585 : decode code 585 = .ok (.iconst 1, 1) := by decide +kernel
theorem d_L_law_586 : decode code 586 = .ok (.iadd, 1) := by decide +kernel
theorem d_L_law_587 : decode code 587 = .ok (.iaload, 1) := by decide +kernel
theorem d_L_law_588 : decode code 588 = .ok (.aload_n 0, 1) := by decide +kernel
theorem d_L_law_589 : decode code 589 = .ok (.iload_n 3, 1) := by decide +kernel
theorem d_L_law_590 : decode code 590 = .ok (.iconst 2, 1) := by decide +kernel
theorem d_L_law_591 : decode code 591 = .ok (.iadd, 1) := by decide +kernel
theorem d_L_law_592 : decode code 592 = .ok (.iaload, 1) := by decide +kernel
theorem d_L_law_593 : decode code 593 = .ok (.aload_n 0, 1) := by decide +kernel
theorem d_L_law_594 : decode code 594 = .ok (.iload_n 3, 1) := by decide +kernel
theorem d_L_law_595 : decode code 595 = .ok (.iconst 3, 1) := by decide +kernel
theorem d_L_law_596 : decode code 596 = .ok (.iadd, 1) := by decide +kernel
theorem d_L_law_597 : decode code 597 = .ok (.iaload, 1) := by decide +kernel
theorem d_L_law_598 : decode code 598 = .ok (.invokevirtual 68, 3) := by decide +kernel
theorem d_L_law_601 : decode code 601 = .ok (.lcmp, 1) := by decide +kernel
theorem d_L_law_602 : decode code 602 = .ok (.ifCond .eq 728, 3) := by decide +kernel
theorem d_L_law_605 : decode code 605 = .ok (.iconst 0, 1) := by decide +kernel
theorem d_L_law_606 : decode code 606 = .ok (.ireturn, 1) := by decide +kernel
theorem d_L_law_607 : decode code 607 = .ok (.aload_n 1, 1) := by decide +kernel
theorem d_L_law_608 : decode code 608 = .ok (.aload_n 0, 1) := by decide +kernel
theorem d_L_law_609 : decode code 609 = .ok (.iload_n 3, 1) := by decide +kernel
theorem d_L_law_610 : decode code 610 = .ok (.iconst 1, 1) := by decide +kernel
theorem d_L_law_611 : decode code 611 = .ok (.iadd, 1) := by decide +kernel
theorem d_L_law_612 : decode code 612 = .ok (.iaload, 1) := by decide +kernel
theorem d_L_law_613 : decode code 613 = .ok (.invokevirtual 69, 3) := by decide +kernel
theorem d_L_law_616 : decode code 616 = .ok (.aload_n 2, 1) := by decide +kernel
theorem d_L_law_617 : decode code 617 = .ok (.aload_n 0, 1) := by decide +kernel
theorem d_L_law_618 : decode code 618 = .ok (.iload_n 3, 1) := by decide +kernel
theorem d_L_law_619 : decode code 619 = .ok (.iconst 1, 1) := by decide +kernel
theorem d_L_law_620 : decode code 620 = .ok (.iadd, 1) := by decide +kernel
theorem d_L_law_621 : decode code 621 = .ok (.iaload, 1) := by decide +kernel
theorem d_L_law_622 : decode code 622 = .ok (.invokevirtual 72, 3) := by decide +kernel
theorem d_L_law_625 : decode code 625 = .ok (.if_icmp .eq 705, 3) := by decide +kernel
theorem d_L_law_628 : decode code 628 = .ok (.iconst 0, 1) := by decide +kernel
theorem d_L_law_629 : decode code 629 = .ok (.ireturn, 1) := by decide +kernel
theorem d_L_law_630 : decode code 630 = .ok (.aload_n 1, 1) := by decide +kernel
theorem d_L_law_631 : decode code 631 = .ok (.aload_n 0, 1) := by decide +kernel
theorem d_L_law_632 : decode code 632 = .ok (.iload_n 3, 1) := by decide +kernel
theorem d_L_law_633 : decode code 633 = .ok (.iconst 1, 1) := by decide +kernel
theorem d_L_law_634 : decode code 634 = .ok (.iadd, 1) := by decide +kernel
theorem d_L_law_635 : decode code 635 = .ok (.iaload, 1) := by decide +kernel
theorem d_L_law_636 : decode code 636 = .ok (.invokevirtual 73, 3) := by decide +kernel
theorem d_L_law_639 : decode code 639 = .ok (.aload_n 2, 1) := by decide +kernel
theorem d_L_law_640 : decode code 640 = .ok (.aload_n 0, 1) := by decide +kernel
theorem d_L_law_641 : decode code 641 = .ok (.iload_n 3, 1) := by decide +kernel
theorem d_L_law_642 : decode code 642 = .ok (.iconst 1, 1) := by decide +kernel
theorem d_L_law_643 : decode code 643 = .ok (.iadd, 1) := by decide +kernel
theorem d_L_law_644 : decode code 644 = .ok (.iaload, 1) := by decide +kernel
theorem d_L_law_645 : decode code 645 = .ok (.invokevirtual 76, 3) := by decide +kernel
theorem d_L_law_648 : decode code 648 = .ok (.if_icmp .eq 682, 3) := by decide +kernel
theorem d_L_law_651 : decode code 651 = .ok (.iconst 0, 1) := by decide +kernel
theorem d_L_law_652 : decode code 652 = .ok (.ireturn, 1) := by decide +kernel
theorem d_L_law_653 : decode code 653 = .ok (.aload_n 1, 1) := by decide +kernel
theorem d_L_law_654 : decode code 654 = .ok (.aload_n 0, 1) := by decide +kernel
theorem d_L_law_655 : decode code 655 = .ok (.iload_n 3, 1) := by decide +kernel
theorem d_L_law_656 : decode code 656 = .ok (.iconst 1, 1) := by decide +kernel
theorem d_L_law_657 : decode code 657 = .ok (.iadd, 1) := by decide +kernel
theorem d_L_law_658 : decode code 658 = .ok (.iaload, 1) := by decide +kernel
theorem d_L_law_659 : decode code 659 = .ok (.aload_n 0, 1) := by decide +kernel
theorem d_L_law_660 : decode code 660 = .ok (.iload_n 3, 1) := by decide +kernel
theorem d_L_law_661 : decode code 661 = .ok (.iconst 2, 1) := by decide +kernel
theorem d_L_law_662 : decode code 662 = .ok (.iadd, 1) := by decide +kernel
theorem d_L_law_663 : decode code 663 = .ok (.iaload, 1) := by decide +kernel
theorem d_L_law_664 : decode code 664 = .ok (.invokevirtual 77, 3) := by decide +kernel
theorem d_L_law_667 : decode code 667 = .ok (.aload_n 2, 1) := by decide +kernel
theorem d_L_law_668 : decode code 668 = .ok (.aload_n 0, 1) := by decide +kernel
theorem d_L_law_669 : decode code 669 = .ok (.iload_n 3, 1) := by decide +kernel
theorem d_L_law_670 : decode code 670 = .ok (.iconst 1, 1) := by decide +kernel
theorem d_L_law_671 : decode code 671 = .ok (.iadd, 1) := by decide +kernel
theorem d_L_law_672 : decode code 672 = .ok (.iaload, 1) := by decide +kernel
theorem d_L_law_673 : decode code 673 = .ok (.aload_n 0, 1) := by decide +kernel
theorem d_L_law_674 : decode code 674 = .ok (.iload_n 3, 1) := by decide +kernel
theorem d_L_law_675 : decode code 675 = .ok (.iconst 2, 1) := by decide +kernel
theorem d_L_law_676 : decode code 676 = .ok (.iadd, 1) := by decide +kernel
theorem d_L_law_677 : decode code 677 = .ok (.iaload, 1) := by decide +kernel
theorem d_L_law_678 : decode code 678 = .ok (.invokevirtual 80, 3) := by decide +kernel
theorem d_L_law_681 : decode code 681 = .ok (.if_icmp .eq 649, 3) := by decide +kernel
theorem d_L_law_684 : decode code 684 = .ok (.iconst 0, 1) := by decide +kernel
theorem d_L_law_685 : decode code 685 = .ok (.ireturn, 1) := by decide +kernel
theorem d_L_law_686 : decode code 686 = .ok (.aload_n 1, 1) := by decide +kernel
theorem d_L_law_687 : decode code 687 = .ok (.aload_n 0, 1) := by decide +kernel
theorem d_L_law_688 : decode code 688 = .ok (.iload_n 3, 1) := by decide +kernel
theorem d_L_law_689 : decode code 689 = .ok (.iconst 1, 1) := by decide +kernel
theorem d_L_law_690 : decode code 690 = .ok (.iadd, 1) := by decide +kernel
theorem d_L_law_691 : decode code 691 = .ok (.iaload, 1) := by decide +kernel
theorem d_L_law_692 : decode code 692 = .ok (.aload_n 0, 1) := by decide +kernel
theorem d_L_law_693 : decode code 693 = .ok (.iload_n 3, 1) := by decide +kernel
theorem d_L_law_694 : decode code 694 = .ok (.iconst 2, 1) := by decide +kernel
theorem d_L_law_695 : decode code 695 = .ok (.iadd, 1) := by decide +kernel
theorem d_L_law_696 : decode code 696 = .ok (.iaload, 1) := by decide +kernel
theorem d_L_law_697 : decode code 697 = .ok (.invokevirtual 81, 3) := by decide +kernel
theorem d_L_law_700 : decode code 700 = .ok (.aload_n 2, 1) := by decide +kernel
theorem d_L_law_701 : decode code 701 = .ok (.aload_n 0, 1) := by decide +kernel
theorem d_L_law_702 : decode code 702 = .ok (.iload_n 3, 1) := by decide +kernel
theorem d_L_law_703 : decode code 703 = .ok (.iconst 1, 1) := by decide +kernel
theorem d_L_law_704 : decode code 704 = .ok (.iadd, 1) := by decide +kernel
theorem d_L_law_705 : decode code 705 = .ok (.iaload, 1) := by decide +kernel
theorem d_L_law_706 : decode code 706 = .ok (.aload_n 0, 1) := by decide +kernel
theorem d_L_law_707 : decode code 707 = .ok (.iload_n 3, 1) := by decide +kernel
theorem d_L_law_708 : decode code 708 = .ok (.iconst 2, 1) := by decide +kernel
theorem d_L_law_709 : decode code 709 = .ok (.iadd, 1) := by decide +kernel
theorem d_L_law_710 : decode code 710 = .ok (.iaload, 1) := by decide +kernel
theorem d_L_law_711 : decode code 711 = .ok (.invokevirtual 84, 3) := by decide +kernel
theorem d_L_law_714 : decode code 714 = .ok (.lcmp, 1) := by decide +kernel
theorem d_L_law_715 : decode code 715 = .ok (.ifCond .eq 615, 3) := by decide +kernel
theorem d_L_law_718 : decode code 718 = .ok (.iconst 0, 1) := by decide +kernel
theorem d_L_law_719 : decode code 719 = .ok (.ireturn, 1) := by decide +kernel
theorem d_L_law_720 : decode code 720 = .ok (.aload_n 1, 1) := by decide +kernel
theorem d_L_law_721 : decode code 721 = .ok (.aload_n 0, 1) := by decide +kernel
theorem d_L_law_722 : decode code 722 = .ok (.iload_n 3, 1) := by decide +kernel
theorem d_L_law_723 : decode code 723 = .ok (.iconst 1, 1) := by decide +kernel
theorem d_L_law_724 : decode code 724 = .ok (.iadd, 1) := by decide +kernel
theorem d_L_law_725 : decode code 725 = .ok (.iaload, 1) := by decide +kernel
theorem d_L_law_726 : decode code 726 = .ok (.aload_n 0, 1) := by decide +kernel
theorem d_L_law_727 : decode code 727 = .ok (.iload_n 3, 1) := by decide +kernel
theorem d_L_law_728 : decode code 728 = .ok (.iconst 2, 1) := by decide +kernel
theorem d_L_law_729 : decode code 729 = .ok (.iadd, 1) := by decide +kernel
theorem d_L_law_730 : decode code 730 = .ok (.iaload, 1) := by decide +kernel
theorem d_L_law_731 : decode code 731 = .ok (.invokevirtual 85, 3) := by decide +kernel
theorem d_L_law_734 : decode code 734 = .ok (.aload_n 2, 1) := by decide +kernel
theorem d_L_law_735 : decode code 735 = .ok (.aload_n 0, 1) := by decide +kernel
theorem d_L_law_736 : decode code 736 = .ok (.iload_n 3, 1) := by decide +kernel
theorem d_L_law_737 : decode code 737 = .ok (.iconst 1, 1) := by decide +kernel
theorem d_L_law_738 : decode code 738 = .ok (.iadd, 1) := by decide +kernel
theorem d_L_law_739 : decode code 739 = .ok (.iaload, 1) := by decide +kernel
theorem d_L_law_740 : decode code 740 = .ok (.aload_n 0, 1) := by decide +kernel
theorem d_L_law_741 : decode code 741 = .ok (.iload_n 3, 1) := by decide +kernel
theorem d_L_law_742 : decode code 742 = .ok (.iconst 2, 1) := by decide +kernel
theorem d_L_law_743 : decode code 743 = .ok (.iadd, 1) := by decide +kernel
theorem d_L_law_744 : decode code 744 = .ok (.iaload, 1) := by decide +kernel
theorem d_L_law_745 : decode code 745 = .ok (.invokevirtual 88, 3) := by decide +kernel
theorem d_L_law_748 : decode code 748 = .ok (.if_icmp .eq 582, 3) := by decide +kernel
theorem d_L_law_751 : decode code 751 = .ok (.iconst 0, 1) := by decide +kernel
theorem d_L_law_752 : decode code 752 = .ok (.ireturn, 1) := by decide +kernel
theorem d_L_law_753 : decode code 753 = .ok (.aload_n 1, 1) := by decide +kernel
theorem d_L_law_754 : decode code 754 = .ok (.aload_n 0, 1) := by decide +kernel
theorem d_L_law_755 : decode code 755 = .ok (.iload_n 3, 1) := by decide +kernel
theorem d_L_law_756 : decode code 756 = .ok (.iconst 1, 1) := by decide +kernel
theorem d_L_law_757 : decode code 757 = .ok (.iadd, 1) := by decide +kernel
theorem d_L_law_758 : decode code 758 = .ok (.iaload, 1) := by decide +kernel
theorem d_L_law_759 : decode code 759 = .ok (.aload_n 0, 1) := by decide +kernel
theorem d_L_law_760 : decode code 760 = .ok (.iload_n 3, 1) := by decide +kernel
theorem d_L_law_761 : decode code 761 = .ok (.iconst 2, 1) := by decide +kernel
theorem d_L_law_762 : decode code 762 = .ok (.iadd, 1) := by decide +kernel
theorem d_L_law_763 : decode code 763 = .ok (.iaload, 1) := by decide +kernel
theorem d_L_law_764 : decode code 764 = .ok (.aload_n 0, 1) := by decide +kernel
theorem d_L_law_765 : decode code 765 = .ok (.iload_n 3, 1) := by decide +kernel
theorem d_L_law_766 : decode code 766 = .ok (.iconst 3, 1) := by decide +kernel
theorem d_L_law_767 : decode code 767 = .ok (.iadd, 1) := by decide +kernel
theorem d_L_law_768 : decode code 768 = .ok (.iaload, 1) := by decide +kernel
theorem d_L_law_769 : decode code 769 = .ok (.invokevirtual 89, 3) := by decide +kernel
theorem d_L_law_772 : decode code 772 = .ok (.aload_n 2, 1) := by decide +kernel
theorem d_L_law_773 : decode code 773 = .ok (.aload_n 0, 1) := by decide +kernel
theorem d_L_law_774 : decode code 774 = .ok (.iload_n 3, 1) := by decide +kernel
theorem d_L_law_775 : decode code 775 = .ok (.iconst 1, 1) := by decide +kernel
theorem d_L_law_776 : decode code 776 = .ok (.iadd, 1) := by decide +kernel
theorem d_L_law_777 : decode code 777 = .ok (.iaload, 1) := by decide +kernel
theorem d_L_law_778 : decode code 778 = .ok (.aload_n 0, 1) := by decide +kernel
theorem d_L_law_779 : decode code 779 = .ok (.iload_n 3, 1) := by decide +kernel
theorem d_L_law_780 : decode code 780 = .ok (.iconst 2, 1) := by decide +kernel
theorem d_L_law_781 : decode code 781 = .ok (.iadd, 1) := by decide +kernel
theorem d_L_law_782 : decode code 782 = .ok (.iaload, 1) := by decide +kernel
theorem d_L_law_783 : decode code 783 = .ok (.aload_n 0, 1) := by decide +kernel
theorem d_L_law_784 : decode code 784 = .ok (.iload_n 3, 1) := by decide +kernel
theorem d_L_law_785 : decode code 785 = .ok (.iconst 3, 1) := by decide +kernel
theorem d_L_law_786 : decode code 786 = .ok (.iadd, 1) := by decide +kernel
theorem d_L_law_787 : decode code 787 = .ok (.iaload, 1) := by decide +kernel
theorem d_L_law_788 : decode code 788 = .ok (.invokevirtual 92, 3) := by decide +kernel
theorem d_L_law_791 : decode code 791 = .ok (.if_icmp .eq 539, 3) := by decide +kernel
theorem d_L_law_794 : decode code 794 = .ok (.iconst 0, 1) := by decide +kernel
theorem d_L_law_795 : decode code 795 = .ok (.ireturn, 1) := by decide +kernel
theorem d_L_law_796 : decode code 796 = .ok (.aload_n 1, 1) := by decide +kernel
theorem d_L_law_797 : decode code 797 = .ok (.aload_n 0, 1) := by decide +kernel
theorem d_L_law_798 : decode code 798 = .ok (.iload_n 3, 1) := by decide +kernel
theorem d_L_law_799 : decode code 799 = .ok (.iconst 1, 1) := by decide +kernel
theorem d_L_law_800 : decode code 800 = .ok (.iadd, 1) := by decide +kernel
theorem d_L_law_801 : decode code 801 = .ok (.iaload, 1) := by decide +kernel
theorem d_L_law_802 : decode code 802 = .ok (.aload_n 0, 1) := by decide +kernel
theorem d_L_law_803 : decode code 803 = .ok (.iload_n 3, 1) := by decide +kernel
theorem d_L_law_804 : decode code 804 = .ok (.iconst 2, 1) := by decide +kernel
theorem d_L_law_805 : decode code 805 = .ok (.iadd, 1) := by decide +kernel
theorem d_L_law_806 : decode code 806 = .ok (.iaload, 1) := by decide +kernel
theorem d_L_law_807 : decode code 807 = .ok (.aload_n 0, 1) := by decide +kernel
theorem d_L_law_808 : decode code 808 = .ok (.iload_n 3, 1) := by decide +kernel
theorem d_L_law_809 : decode code 809 = .ok (.iconst 3, 1) := by decide +kernel
theorem d_L_law_810 : decode code 810 = .ok (.iadd, 1) := by decide +kernel
theorem d_L_law_811 : decode code 811 = .ok (.iaload, 1) := by decide +kernel
theorem d_L_law_812 : decode code 812 = .ok (.invokevirtual 93, 3) := by decide +kernel
theorem d_L_law_815 : decode code 815 = .ok (.aload_n 2, 1) := by decide +kernel
theorem d_L_law_816 : decode code 816 = .ok (.aload_n 0, 1) := by decide +kernel
theorem d_L_law_817 : decode code 817 = .ok (.iload_n 3, 1) := by decide +kernel
theorem d_L_law_818 : decode code 818 = .ok (.iconst 1, 1) := by decide +kernel
theorem d_L_law_819 : decode code 819 = .ok (.iadd, 1) := by decide +kernel
theorem d_L_law_820 : decode code 820 = .ok (.iaload, 1) := by decide +kernel
theorem d_L_law_821 : decode code 821 = .ok (.aload_n 0, 1) := by decide +kernel
theorem d_L_law_822 : decode code 822 = .ok (.iload_n 3, 1) := by decide +kernel
theorem d_L_law_823 : decode code 823 = .ok (.iconst 2, 1) := by decide +kernel
theorem d_L_law_824 : decode code 824 = .ok (.iadd, 1) := by decide +kernel
theorem d_L_law_825 : decode code 825 = .ok (.iaload, 1) := by decide +kernel
theorem d_L_law_826 : decode code 826 = .ok (.aload_n 0, 1) := by decide +kernel
theorem d_L_law_827 : decode code 827 = .ok (.iload_n 3, 1) := by decide +kernel
theorem d_L_law_828 : decode code 828 = .ok (.iconst 3, 1) := by decide +kernel
theorem d_L_law_829 : decode code 829 = .ok (.iadd, 1) := by decide +kernel
theorem d_L_law_830 : decode code 830 = .ok (.iaload, 1) := by decide +kernel
theorem d_L_law_831 : decode code 831 = .ok (.invokevirtual 96, 3) := by decide +kernel
theorem d_L_law_834 : decode code 834 = .ok (.if_icmp .eq 496, 3) := by decide +kernel
theorem d_L_law_837 : decode code 837 = .ok (.iconst 0, 1) := by decide +kernel
theorem d_L_law_838 : decode code 838 = .ok (.ireturn, 1) := by decide +kernel
theorem d_L_law_839 : decode code 839 = .ok (.aload_n 1, 1) := by decide +kernel
theorem d_L_law_840 : decode code 840 = .ok (.aload_n 0, 1) := by decide +kernel
theorem d_L_law_841 : decode code 841 = .ok (.iload_n 3, 1) := by decide +kernel
theorem d_L_law_842 : decode code 842 = .ok (.iconst 1, 1) := by decide +kernel
theorem d_L_law_843 : decode code 843 = .ok (.iadd, 1) := by decide +kernel
theorem d_L_law_844 : decode code 844 = .ok (.iaload, 1) := by decide +kernel
theorem d_L_law_845 : decode code 845 = .ok (.aload_n 0, 1) := by decide +kernel
theorem d_L_law_846 : decode code 846 = .ok (.iload_n 3, 1) := by decide +kernel
theorem d_L_law_847 : decode code 847 = .ok (.iconst 2, 1) := by decide +kernel
theorem d_L_law_848 : decode code 848 = .ok (.iadd, 1) := by decide +kernel
theorem d_L_law_849 : decode code 849 = .ok (.iaload, 1) := by decide +kernel
theorem d_L_law_850 : decode code 850 = .ok (.aload_n 0, 1) := by decide +kernel
theorem d_L_law_851 : decode code 851 = .ok (.iload_n 3, 1) := by decide +kernel
theorem d_L_law_852 : decode code 852 = .ok (.iconst 3, 1) := by decide +kernel
theorem d_L_law_853 : decode code 853 = .ok (.iadd, 1) := by decide +kernel
theorem d_L_law_854 : decode code 854 = .ok (.iaload, 1) := by decide +kernel
theorem d_L_law_855 : decode code 855 = .ok (.invokevirtual 97, 3) := by decide +kernel
theorem d_L_law_858 : decode code 858 = .ok (.aload_n 2, 1) := by decide +kernel
theorem d_L_law_859 : decode code 859 = .ok (.aload_n 0, 1) := by decide +kernel
theorem d_L_law_860 : decode code 860 = .ok (.iload_n 3, 1) := by decide +kernel
theorem d_L_law_861 : decode code 861 = .ok (.iconst 1, 1) := by decide +kernel
theorem d_L_law_862 : decode code 862 = .ok (.iadd, 1) := by decide +kernel
theorem d_L_law_863 : decode code 863 = .ok (.iaload, 1) := by decide +kernel
theorem d_L_law_864 : decode code 864 = .ok (.aload_n 0, 1) := by decide +kernel
theorem d_L_law_865 : decode code 865 = .ok (.iload_n 3, 1) := by decide +kernel
theorem d_L_law_866 : decode code 866 = .ok (.iconst 2, 1) := by decide +kernel
theorem d_L_law_867 : decode code 867 = .ok (.iadd, 1) := by decide +kernel
theorem d_L_law_868 : decode code 868 = .ok (.iaload, 1) := by decide +kernel
theorem d_L_law_869 : decode code 869 = .ok (.aload_n 0, 1) := by decide +kernel
theorem d_L_law_870 : decode code 870 = .ok (.iload_n 3, 1) := by decide +kernel
theorem d_L_law_871 : decode code 871 = .ok (.iconst 3, 1) := by decide +kernel
theorem d_L_law_872 : decode code 872 = .ok (.iadd, 1) := by decide +kernel
theorem d_L_law_873 : decode code 873 = .ok (.iaload, 1) := by decide +kernel
theorem d_L_law_874 : decode code 874 = .ok (.invokevirtual 100, 3) := by decide +kernel
theorem d_L_law_877 : decode code 877 = .ok (.if_icmp .eq 453, 3) := by decide +kernel
theorem d_L_law_880 : decode code 880 = .ok (.iconst 0, 1) := by decide +kernel
theorem d_L_law_881 : decode code 881 = .ok (.ireturn, 1) := by decide +kernel
theorem d_L_law_882 : decode code 882 = .ok (.aload_n 1, 1) := by decide +kernel
theorem d_L_law_883 : decode code 883 = .ok (.aload_n 0, 1) := by decide +kernel
theorem d_L_law_884 : decode code 884 = .ok (.iload_n 3, 1) := by decide +kernel
theorem d_L_law_885 : decode code 885 = .ok (.iconst 1, 1) := by decide +kernel
theorem d_L_law_886 : decode code 886 = .ok (.iadd, 1) := by decide +kernel
theorem d_L_law_887 : decode code 887 = .ok (.iaload, 1) := by decide +kernel
theorem d_L_law_888 : decode code 888 = .ok (.aload_n 0, 1) := by decide +kernel
theorem d_L_law_889 : decode code 889 = .ok (.iload_n 3, 1) := by decide +kernel
theorem d_L_law_890 : decode code 890 = .ok (.iconst 2, 1) := by decide +kernel
theorem d_L_law_891 : decode code 891 = .ok (.iadd, 1) := by decide +kernel
theorem d_L_law_892 : decode code 892 = .ok (.iaload, 1) := by decide +kernel
theorem d_L_law_893 : decode code 893 = .ok (.invokevirtual 101, 3) := by decide +kernel
theorem d_L_law_896 : decode code 896 = .ok (.aload_n 2, 1) := by decide +kernel
theorem d_L_law_897 : decode code 897 = .ok (.aload_n 0, 1) := by decide +kernel
theorem d_L_law_898 : decode code 898 = .ok (.iload_n 3, 1) := by decide +kernel
theorem d_L_law_899 : decode code 899 = .ok (.iconst 1, 1) := by decide +kernel
theorem d_L_law_900 : decode code 900 = .ok (.iadd, 1) := by decide +kernel
theorem d_L_law_901 : decode code 901 = .ok (.iaload, 1) := by decide +kernel
theorem d_L_law_902 : decode code 902 = .ok (.aload_n 0, 1) := by decide +kernel
theorem d_L_law_903 : decode code 903 = .ok (.iload_n 3, 1) := by decide +kernel
theorem d_L_law_904 : decode code 904 = .ok (.iconst 2, 1) := by decide +kernel
theorem d_L_law_905 : decode code 905 = .ok (.iadd, 1) := by decide +kernel
theorem d_L_law_906 : decode code 906 = .ok (.iaload, 1) := by decide +kernel
theorem d_L_law_907 : decode code 907 = .ok (.invokevirtual 104, 3) := by decide +kernel
theorem d_L_law_910 : decode code 910 = .ok (.if_icmp .eq 420, 3) := by decide +kernel
theorem d_L_law_913 : decode code 913 = .ok (.iconst 0, 1) := by decide +kernel
theorem d_L_law_914 : decode code 914 = .ok (.ireturn, 1) := by decide +kernel
theorem d_L_law_915 : decode code 915 = .ok (.aload_n 1, 1) := by decide +kernel
theorem d_L_law_916 : decode code 916 = .ok (.aload_n 0, 1) := by decide +kernel
theorem d_L_law_917 : decode code 917 = .ok (.iload_n 3, 1) := by decide +kernel
theorem d_L_law_918 : decode code 918 = .ok (.iconst 1, 1) := by decide +kernel
theorem d_L_law_919 : decode code 919 = .ok (.iadd, 1) := by decide +kernel
theorem d_L_law_920 : decode code 920 = .ok (.iaload, 1) := by decide +kernel
theorem d_L_law_921 : decode code 921 = .ok (.invokevirtual 105, 3) := by decide +kernel
theorem d_L_law_924 : decode code 924 = .ok (.aload_n 2, 1) := by decide +kernel
theorem d_L_law_925 : decode code 925 = .ok (.aload_n 0, 1) := by decide +kernel
theorem d_L_law_926 : decode code 926 = .ok (.iload_n 3, 1) := by decide +kernel
theorem d_L_law_927 : decode code 927 = .ok (.iconst 1, 1) := by decide +kernel
theorem d_L_law_928 : decode code 928 = .ok (.iadd, 1) := by decide +kernel
theorem d_L_law_929 : decode code 929 = .ok (.iaload, 1) := by decide +kernel
theorem d_L_law_930 : decode code 930 = .ok (.invokevirtual 108, 3) := by decide +kernel
theorem d_L_law_933 : decode code 933 = .ok (.if_icmp .eq 397, 3) := by decide +kernel
theorem d_L_law_936 : decode code 936 = .ok (.iconst 0, 1) := by decide +kernel
theorem d_L_law_937 : decode code 937 = .ok (.ireturn, 1) := by decide +kernel
theorem d_L_law_938 : decode code 938 = .ok (.aload_n 1, 1) := by decide +kernel
theorem d_L_law_939 : decode code 939 = .ok (.invokevirtual 109, 3) := by decide +kernel
theorem d_L_law_942 : decode code 942 = .ok (.aload_n 2, 1) := by decide +kernel
theorem d_L_law_943 : decode code 943 = .ok (.invokevirtual 112, 3) := by decide +kernel
theorem d_L_law_946 : decode code 946 = .ok (.if_icmp .eq 384, 3) := by decide +kernel
theorem d_L_law_949 : decode code 949 = .ok (.iconst 0, 1) := by decide +kernel
theorem d_L_law_950 : decode code 950 = .ok (.ireturn, 1) := by decide +kernel
theorem d_L_law_951 : decode code 951 = .ok (.aload_n 1, 1) := by decide +kernel
theorem d_L_law_952 : decode code 952 = .ok (.aload_n 0, 1) := by decide +kernel
theorem d_L_law_953 : decode code 953 = .ok (.iload_n 3, 1) := by decide +kernel
theorem d_L_law_954 : decode code 954 = .ok (.iconst 1, 1) := by decide +kernel
theorem d_L_law_955 : decode code 955 = .ok (.iadd, 1) := by decide +kernel
theorem d_L_law_956 : decode code 956 = .ok (.iaload, 1) := by decide +kernel
theorem d_L_law_957 : decode code 957 = .ok (.aload_n 0, 1) := by decide +kernel
theorem d_L_law_958 : decode code 958 = .ok (.iload_n 3, 1) := by decide +kernel
theorem d_L_law_959 : decode code 959 = .ok (.iconst 2, 1) := by decide +kernel
theorem d_L_law_960 : decode code 960 = .ok (.iadd, 1) := by decide +kernel
theorem d_L_law_961 : decode code 961 = .ok (.iaload, 1) := by decide +kernel
theorem d_L_law_962 : decode code 962 = .ok (.invokevirtual 113, 3) := by decide +kernel
theorem d_L_law_965 : decode code 965 = .ok (.aload_n 2, 1) := by decide +kernel
theorem d_L_law_966 : decode code 966 = .ok (.aload_n 0, 1) := by decide +kernel
theorem d_L_law_967 : decode code 967 = .ok (.iload_n 3, 1) := by decide +kernel
theorem d_L_law_968 : decode code 968 = .ok (.iconst 1, 1) := by decide +kernel
theorem d_L_law_969 : decode code 969 = .ok (.iadd, 1) := by decide +kernel
theorem d_L_law_970 : decode code 970 = .ok (.iaload, 1) := by decide +kernel
theorem d_L_law_971 : decode code 971 = .ok (.aload_n 0, 1) := by decide +kernel
theorem d_L_law_972 : decode code 972 = .ok (.iload_n 3, 1) := by decide +kernel
theorem d_L_law_973 : decode code 973 = .ok (.iconst 2, 1) := by decide +kernel
theorem d_L_law_974 : decode code 974 = .ok (.iadd, 1) := by decide +kernel
theorem d_L_law_975 : decode code 975 = .ok (.iaload, 1) := by decide +kernel
theorem d_L_law_976 : decode code 976 = .ok (.invokevirtual 116, 3) := by decide +kernel
theorem d_L_law_979 : decode code 979 = .ok (.if_icmp .eq 351, 3) := by decide +kernel
theorem d_L_law_982 : decode code 982 = .ok (.iconst 0, 1) := by decide +kernel
theorem d_L_law_983 : decode code 983 = .ok (.ireturn, 1) := by decide +kernel
theorem d_L_law_984 : decode code 984 = .ok (.aload_n 1, 1) := by decide +kernel
theorem d_L_law_985 : decode code 985 = .ok (.aload_n 0, 1) := by decide +kernel
theorem d_L_law_986 : decode code 986 = .ok (.iload_n 3, 1) := by decide +kernel
theorem d_L_law_987 : decode code 987 = .ok (.iconst 1, 1) := by decide +kernel
theorem d_L_law_988 : decode code 988 = .ok (.iadd, 1) := by decide +kernel
theorem d_L_law_989 : decode code 989 = .ok (.iaload, 1) := by decide +kernel
theorem d_L_law_990 : decode code 990 = .ok (.aload_n 0, 1) := by decide +kernel
theorem d_L_law_991 : decode code 991 = .ok (.iload_n 3, 1) := by decide +kernel
theorem d_L_law_992 : decode code 992 = .ok (.iconst 2, 1) := by decide +kernel
theorem d_L_law_993 : decode code 993 = .ok (.iadd, 1) := by decide +kernel
theorem d_L_law_994 : decode code 994 = .ok (.iaload, 1) := by decide +kernel
theorem d_L_law_995 : decode code 995 = .ok (.aload_n 0, 1) := by decide +kernel
theorem d_L_law_996 : decode code 996 = .ok (.iload_n 3, 1) := by decide +kernel
theorem d_L_law_997 : decode code 997 = .ok (.iconst 3, 1) := by decide +kernel
theorem d_L_law_998 : decode code 998 = .ok (.iadd, 1) := by decide +kernel
theorem d_L_law_999 : decode code 999 = .ok (.iaload, 1) := by decide +kernel
theorem d_L_law_1000 : decode code 1000 = .ok (.aload_n 0, 1) := by decide +kernel
theorem d_L_law_1001 : decode code 1001 = .ok (.iload_n 3, 1) := by decide +kernel
theorem d_L_law_1002 : decode code 1002 = .ok (.iconst 4, 1) := by decide +kernel
theorem d_L_law_1003 : decode code 1003 = .ok (.iadd, 1) := by decide +kernel
theorem d_L_law_1004 : decode code 1004 = .ok (.iaload, 1) := by decide +kernel
theorem d_L_law_1005 : decode code 1005 = .ok (.invokevirtual 117, 3) := by decide +kernel
theorem d_L_law_1008 : decode code 1008 = .ok (.aload_n 2, 1) := by decide +kernel
theorem d_L_law_1009 : decode code 1009 = .ok (.aload_n 0, 1) := by decide +kernel
theorem d_L_law_1010 : decode code 1010 = .ok (.iload_n 3, 1) := by decide +kernel
theorem d_L_law_1011 : decode code 1011 = .ok (.iconst 1, 1) := by decide +kernel
theorem d_L_law_1012 : decode code 1012 = .ok (.iadd, 1) := by decide +kernel
theorem d_L_law_1013 : decode code 1013 = .ok (.iaload, 1) := by decide +kernel
theorem d_L_law_1014 : decode code 1014 = .ok (.aload_n 0, 1) := by decide +kernel
theorem d_L_law_1015 : decode code 1015 = .ok (.iload_n 3, 1) := by decide +kernel
theorem d_L_law_1016 : decode code 1016 = .ok (.iconst 2, 1) := by decide +kernel
theorem d_L_law_1017 : decode code 1017 = .ok (.iadd, 1) := by decide +kernel
theorem d_L_law_1018 : decode code 1018 = .ok (.iaload, 1) := by decide +kernel
theorem d_L_law_1019 : decode code 1019 = .ok (.aload_n 0, 1) := by decide +kernel
theorem d_L_law_1020 : decode code 1020 = .ok (.iload_n 3, 1) := by decide +kernel
theorem d_L_law_1021 : decode code 1021 = .ok (.iconst 3, 1) := by decide +kernel
theorem d_L_law_1022 : decode code 1022 = .ok (.iadd, 1) := by decide +kernel
theorem d_L_law_1023 : decode code 1023 = .ok (.iaload, 1) := by decide +kernel
theorem d_L_law_1024 : decode code 1024 = .ok (.aload_n 0, 1) := by decide +kernel
theorem d_L_law_1025 : decode code 1025 = .ok (.iload_n 3, 1) := by decide +kernel
theorem d_L_law_1026 : decode code 1026 = .ok (.iconst 4, 1) := by decide +kernel
theorem d_L_law_1027 : decode code 1027 = .ok (.iadd, 1) := by decide +kernel
theorem d_L_law_1028 : decode code 1028 = .ok (.iaload, 1) := by decide +kernel
theorem d_L_law_1029 : decode code 1029 = .ok (.invokevirtual 120, 3) := by decide +kernel
theorem d_L_law_1032 : decode code 1032 = .ok (.lcmp, 1) := by decide +kernel
theorem d_L_law_1033 : decode code 1033 = .ok (.ifCond .eq 297, 3) := by decide +kernel
theorem d_L_law_1036 : decode code 1036 = .ok (.iconst 0, 1) := by decide +kernel
theorem d_L_law_1037 : decode code 1037 = .ok (.ireturn, 1) := by decide +kernel
theorem d_L_law_1038 : decode code 1038 = .ok (.aload_n 1, 1) := by decide +kernel
theorem d_L_law_1039 : decode code 1039 = .ok (.aload_n 0, 1) := by decide +kernel
theorem d_L_law_1040 : decode code 1040 = .ok (.iload_n 3, 1) := by decide +kernel
theorem d_L_law_1041 : decode code 1041 = .ok (.iconst 1, 1) := by decide +kernel
theorem d_L_law_1042 : decode code 1042 = .ok (.iadd, 1) := by decide +kernel
theorem d_L_law_1043 : decode code 1043 = .ok (.iaload, 1) := by decide +kernel
theorem d_L_law_1044 : decode code 1044 = .ok (.aload_n 0, 1) := by decide +kernel
theorem d_L_law_1045 : decode code 1045 = .ok (.iload_n 3, 1) := by decide +kernel
theorem d_L_law_1046 : decode code 1046 = .ok (.iconst 2, 1) := by decide +kernel
theorem d_L_law_1047 : decode code 1047 = .ok (.iadd, 1) := by decide +kernel
theorem d_L_law_1048 : decode code 1048 = .ok (.iaload, 1) := by decide +kernel
theorem d_L_law_1049 : decode code 1049 = .ok (.aload_n 0, 1) := by decide +kernel
theorem d_L_law_1050 : decode code 1050 = .ok (.iload_n 3, 1) := by decide +kernel
theorem d_L_law_1051 : decode code 1051 = .ok (.iconst 3, 1) := by decide +kernel
theorem d_L_law_1052 : decode code 1052 = .ok (.iadd, 1) := by decide +kernel
theorem d_L_law_1053 : decode code 1053 = .ok (.iaload, 1) := by decide +kernel
theorem d_L_law_1054 : decode code 1054 = .ok (.invokevirtual 121, 3) := by decide +kernel
theorem d_L_law_1057 : decode code 1057 = .ok (.aload_n 2, 1) := by decide +kernel
theorem d_L_law_1058 : decode code 1058 = .ok (.aload_n 0, 1) := by decide +kernel
theorem d_L_law_1059 : decode code 1059 = .ok (.iload_n 3, 1) := by decide +kernel
theorem d_L_law_1060 : decode code 1060 = .ok (.iconst 1, 1) := by decide +kernel
theorem d_L_law_1061 : decode code 1061 = .ok (.iadd, 1) := by decide +kernel
theorem d_L_law_1062 : decode code 1062 = .ok (.iaload, 1) := by decide +kernel
theorem d_L_law_1063 : decode code 1063 = .ok (.aload_n 0, 1) := by decide +kernel
theorem d_L_law_1064 : decode code 1064 = .ok (.iload_n 3, 1) := by decide +kernel
theorem d_L_law_1065 : decode code 1065 = .ok (.iconst 2, 1) := by decide +kernel
theorem d_L_law_1066 : decode code 1066 = .ok (.iadd, 1) := by decide +kernel
theorem d_L_law_1067 : decode code 1067 = .ok (.iaload, 1) := by decide +kernel
theorem d_L_law_1068 : decode code 1068 = .ok (.aload_n 0, 1) := by decide +kernel
theorem d_L_law_1069 : decode code 1069 = .ok (.iload_n 3, 1) := by decide +kernel
theorem d_L_law_1070 : decode code 1070 = .ok (.iconst 3, 1) := by decide +kernel
theorem d_L_law_1071 : decode code 1071 = .ok (.iadd, 1) := by decide +kernel
theorem d_L_law_1072 : decode code 1072 = .ok (.iaload, 1) := by decide +kernel
theorem d_L_law_1073 : decode code 1073 = .ok (.invokevirtual 124, 3) := by decide +kernel
theorem d_L_law_1076 : decode code 1076 = .ok (.if_icmp .eq 254, 3) := by decide +kernel
theorem d_L_law_1079 : decode code 1079 = .ok (.iconst 0, 1) := by decide +kernel
theorem d_L_law_1080 : decode code 1080 = .ok (.ireturn, 1) := by decide +kernel
theorem d_L_law_1081 : decode code 1081 = .ok (.aload_n 1, 1) := by decide +kernel
theorem d_L_law_1082 : decode code 1082 = .ok (.aload_n 0, 1) := by decide +kernel
theorem d_L_law_1083 : decode code 1083 = .ok (.iload_n 3, 1) := by decide +kernel
theorem d_L_law_1084 : decode code 1084 = .ok (.iconst 1, 1) := by decide +kernel
theorem d_L_law_1085 : decode code 1085 = .ok (.iadd, 1) := by decide +kernel
theorem d_L_law_1086 : decode code 1086 = .ok (.iaload, 1) := by decide +kernel
theorem d_L_law_1087 : decode code 1087 = .ok (.aload_n 0, 1) := by decide +kernel
theorem d_L_law_1088 : decode code 1088 = .ok (.iload_n 3, 1) := by decide +kernel
theorem d_L_law_1089 : decode code 1089 = .ok (.iconst 2, 1) := by decide +kernel
theorem d_L_law_1090 : decode code 1090 = .ok (.iadd, 1) := by decide +kernel
theorem d_L_law_1091 : decode code 1091 = .ok (.iaload, 1) := by decide +kernel
theorem d_L_law_1092 : decode code 1092 = .ok (.aload_n 0, 1) := by decide +kernel
theorem d_L_law_1093 : decode code 1093 = .ok (.iload_n 3, 1) := by decide +kernel
theorem d_L_law_1094 : decode code 1094 = .ok (.iconst 3, 1) := by decide +kernel
theorem d_L_law_1095 : decode code 1095 = .ok (.iadd, 1) := by decide +kernel
theorem d_L_law_1096 : decode code 1096 = .ok (.iaload, 1) := by decide +kernel
theorem d_L_law_1097 : decode code 1097 = .ok (.invokevirtual 125, 3) := by decide +kernel
theorem d_L_law_1100 : decode code 1100 = .ok (.aload_n 2, 1) := by decide +kernel
theorem d_L_law_1101 : decode code 1101 = .ok (.aload_n 0, 1) := by decide +kernel
theorem d_L_law_1102 : decode code 1102 = .ok (.iload_n 3, 1) := by decide +kernel
theorem d_L_law_1103 : decode code 1103 = .ok (.iconst 1, 1) := by decide +kernel
theorem d_L_law_1104 : decode code 1104 = .ok (.iadd, 1) := by decide +kernel
theorem d_L_law_1105 : decode code 1105 = .ok (.iaload, 1) := by decide +kernel
theorem d_L_law_1106 : decode code 1106 = .ok (.aload_n 0, 1) := by decide +kernel
theorem d_L_law_1107 : decode code 1107 = .ok (.iload_n 3, 1) := by decide +kernel
theorem d_L_law_1108 : decode code 1108 = .ok (.iconst 2, 1) := by decide +kernel
theorem d_L_law_1109 : decode code 1109 = .ok (.iadd, 1) := by decide +kernel
theorem d_L_law_1110 : decode code 1110 = .ok (.iaload, 1) := by decide +kernel
theorem d_L_law_1111 : decode code 1111 = .ok (.aload_n 0, 1) := by decide +kernel
theorem d_L_law_1112 : decode code 1112 = .ok (.iload_n 3, 1) := by decide +kernel
theorem d_L_law_1113 : decode code 1113 = .ok (.iconst 3, 1) := by decide +kernel
theorem d_L_law_1114 : decode code 1114 = .ok (.iadd, 1) := by decide +kernel
theorem d_L_law_1115 : decode code 1115 = .ok (.iaload, 1) := by decide +kernel
theorem d_L_law_1116 : decode code 1116 = .ok (.invokevirtual 128, 3) := by decide +kernel
theorem d_L_law_1119 : decode code 1119 = .ok (.if_icmp .eq 211, 3) := by decide +kernel
theorem d_L_law_1122 : decode code 1122 = .ok (.iconst 0, 1) := by decide +kernel
theorem d_L_law_1123 : decode code 1123 = .ok (.ireturn, 1) := by decide +kernel
theorem d_L_law_1124 : decode code 1124 = .ok (.aload_n 1, 1) := by decide +kernel
theorem d_L_law_1125 : decode code 1125 = .ok (.aload_n 0, 1) := by decide +kernel
theorem d_L_law_1126 : decode code 1126 = .ok (.iload_n 3, 1) := by decide +kernel
theorem d_L_law_1127 : decode code 1127 = .ok (.iconst 1, 1) := by decide +kernel
theorem d_L_law_1128 : decode code 1128 = .ok (.iadd, 1) := by decide +kernel
theorem d_L_law_1129 : decode code 1129 = .ok (.iaload, 1) := by decide +kernel
theorem d_L_law_1130 : decode code 1130 = .ok (.aload_n 0, 1) := by decide +kernel
theorem d_L_law_1131 : decode code 1131 = .ok (.iload_n 3, 1) := by decide +kernel
theorem d_L_law_1132 : decode code 1132 = .ok (.iconst 2, 1) := by decide +kernel
theorem d_L_law_1133 : decode code 1133 = .ok (.iadd, 1) := by decide +kernel
theorem d_L_law_1134 : decode code 1134 = .ok (.iaload, 1) := by decide +kernel
theorem d_L_law_1135 : decode code 1135 = .ok (.aload_n 0, 1) := by decide +kernel
theorem d_L_law_1136 : decode code 1136 = .ok (.iload_n 3, 1) := by decide +kernel
theorem d_L_law_1137 : decode code 1137 = .ok (.iconst 3, 1) := by decide +kernel
theorem d_L_law_1138 : decode code 1138 = .ok (.iadd, 1) := by decide +kernel
theorem d_L_law_1139 : decode code 1139 = .ok (.iaload, 1) := by decide +kernel
theorem d_L_law_1140 : decode code 1140 = .ok (.invokevirtual 129, 3) := by decide +kernel
theorem d_L_law_1143 : decode code 1143 = .ok (.aload_n 2, 1) := by decide +kernel
theorem d_L_law_1144 : decode code 1144 = .ok (.aload_n 0, 1) := by decide +kernel
theorem d_L_law_1145 : decode code 1145 = .ok (.iload_n 3, 1) := by decide +kernel
theorem d_L_law_1146 : decode code 1146 = .ok (.iconst 1, 1) := by decide +kernel
theorem d_L_law_1147 : decode code 1147 = .ok (.iadd, 1) := by decide +kernel
theorem d_L_law_1148 : decode code 1148 = .ok (.iaload, 1) := by decide +kernel
theorem d_L_law_1149 : decode code 1149 = .ok (.aload_n 0, 1) := by decide +kernel
theorem d_L_law_1150 : decode code 1150 = .ok (.iload_n 3, 1) := by decide +kernel
theorem d_L_law_1151 : decode code 1151 = .ok (.iconst 2, 1) := by decide +kernel
theorem d_L_law_1152 : decode code 1152 = .ok (.iadd, 1) := by decide +kernel
theorem d_L_law_1153 : decode code 1153 = .ok (.iaload, 1) := by decide +kernel
theorem d_L_law_1154 : decode code 1154 = .ok (.aload_n 0, 1) := by decide +kernel
theorem d_L_law_1155 : decode code 1155 = .ok (.iload_n 3, 1) := by decide +kernel
theorem d_L_law_1156 : decode code 1156 = .ok (.iconst 3, 1) := by decide +kernel
theorem d_L_law_1157 : decode code 1157 = .ok (.iadd, 1) := by decide +kernel
theorem d_L_law_1158 : decode code 1158 = .ok (.iaload, 1) := by decide +kernel
theorem d_L_law_1159 : decode code 1159 = .ok (.invokevirtual 132, 3) := by decide +kernel
theorem d_L_law_1162 : decode code 1162 = .ok (.if_icmp .eq 168, 3) := by decide +kernel
theorem d_L_law_1165 : decode code 1165 = .ok (.iconst 0, 1) := by decide +kernel
theorem d_L_law_1166 : decode code 1166 = .ok (.ireturn, 1) := by decide +kernel
theorem d_L_law_1167 : decode code 1167 = .ok (.aload_n 1, 1) := by decide +kernel
theorem d_L_law_1168 : decode code 1168 = .ok (.aload_n 0, 1) := by decide +kernel
theorem d_L_law_1169 : decode code 1169 = .ok (.iload_n 3, 1) := by decide +kernel
theorem d_L_law_1170 : decode code 1170 = .ok (.iconst 1, 1) := by decide +kernel
theorem d_L_law_1171 : decode code 1171 = .ok (.iadd, 1) := by decide +kernel
theorem d_L_law_1172 : decode code 1172 = .ok (.iaload, 1) := by decide +kernel
theorem d_L_law_1173 : decode code 1173 = .ok (.aload_n 0, 1) := by decide +kernel
theorem d_L_law_1174 : decode code 1174 = .ok (.iload_n 3, 1) := by decide +kernel
theorem d_L_law_1175 : decode code 1175 = .ok (.iconst 2, 1) := by decide +kernel
theorem d_L_law_1176 : decode code 1176 = .ok (.iadd, 1) := by decide +kernel
theorem d_L_law_1177 : decode code 1177 = .ok (.iaload, 1) := by decide +kernel
theorem d_L_law_1178 : decode code 1178 = .ok (.aload_n 0, 1) := by decide +kernel
theorem d_L_law_1179 : decode code 1179 = .ok (.iload_n 3, 1) := by decide +kernel
theorem d_L_law_1180 : decode code 1180 = .ok (.iconst 3, 1) := by decide +kernel
theorem d_L_law_1181 : decode code 1181 = .ok (.iadd, 1) := by decide +kernel
theorem d_L_law_1182 : decode code 1182 = .ok (.iaload, 1) := by decide +kernel
theorem d_L_law_1183 : decode code 1183 = .ok (.invokevirtual 133, 3) := by decide +kernel
theorem d_L_law_1186 : decode code 1186 = .ok (.aload_n 2, 1) := by decide +kernel
theorem d_L_law_1187 : decode code 1187 = .ok (.aload_n 0, 1) := by decide +kernel
theorem d_L_law_1188 : decode code 1188 = .ok (.iload_n 3, 1) := by decide +kernel
theorem d_L_law_1189 : decode code 1189 = .ok (.iconst 1, 1) := by decide +kernel
theorem d_L_law_1190 : decode code 1190 = .ok (.iadd, 1) := by decide +kernel
theorem d_L_law_1191 : decode code 1191 = .ok (.iaload, 1) := by decide +kernel
theorem d_L_law_1192 : decode code 1192 = .ok (.aload_n 0, 1) := by decide +kernel
theorem d_L_law_1193 : decode code 1193 = .ok (.iload_n 3, 1) := by decide +kernel
theorem d_L_law_1194 : decode code 1194 = .ok (.iconst 2, 1) := by decide +kernel
theorem d_L_law_1195 : decode code 1195 = .ok (.iadd, 1) := by decide +kernel
theorem d_L_law_1196 : decode code 1196 = .ok (.iaload, 1) := by decide +kernel
theorem d_L_law_1197 : decode code 1197 = .ok (.aload_n 0, 1) := by decide +kernel
theorem d_L_law_1198 : decode code 1198 = .ok (.iload_n 3, 1) := by decide +kernel
theorem d_L_law_1199 : decode code 1199 = .ok (.iconst 3, 1) := by decide +kernel
theorem d_L_law_1200 : decode code 1200 = .ok (.iadd, 1) := by decide +kernel
theorem d_L_law_1201 : decode code 1201 = .ok (.iaload, 1) := by decide +kernel
theorem d_L_law_1202 : decode code 1202 = .ok (.invokevirtual 136, 3) := by decide +kernel
theorem d_L_law_1205 : decode code 1205 = .ok (.if_icmp .eq 125, 3) := by decide +kernel
theorem d_L_law_1208 : decode code 1208 = .ok (.iconst 0, 1) := by decide +kernel
theorem d_L_law_1209 : decode code 1209 = .ok (.ireturn, 1) := by decide +kernel
theorem d_L_law_1210 : decode code 1210 = .ok (.aload_n 1, 1) := by decide +kernel
theorem d_L_law_1211 : decode code 1211 = .ok (.aload_n 0, 1) := by decide +kernel
theorem d_L_law_1212 : decode code 1212 = .ok (.iload_n 3, 1) := by decide +kernel
theorem d_L_law_1213 : decode code 1213 = .ok (.iconst 1, 1) := by decide +kernel
theorem d_L_law_1214 : decode code 1214 = .ok (.iadd, 1) := by decide +kernel
theorem d_L_law_1215 : decode code 1215 = .ok (.iaload, 1) := by decide +kernel
theorem d_L_law_1216 : decode code 1216 = .ok (.aload_n 0, 1) := by decide +kernel
theorem d_L_law_1217 : decode code 1217 = .ok (.iload_n 3, 1) := by decide +kernel
theorem d_L_law_1218 : decode code 1218 = .ok (.iconst 2, 1) := by decide +kernel
theorem d_L_law_1219 : decode code 1219 = .ok (.iadd, 1) := by decide +kernel
theorem d_L_law_1220 : decode code 1220 = .ok (.iaload, 1) := by decide +kernel
theorem d_L_law_1221 : decode code 1221 = .ok (.invokevirtual 137, 3) := by decide +kernel
theorem d_L_law_1224 : decode code 1224 = .ok (.aload_n 2, 1) := by decide +kernel
theorem d_L_law_1225 : decode code 1225 = .ok (.aload_n 0, 1) := by decide +kernel
theorem d_L_law_1226 : decode code 1226 = .ok (.iload_n 3, 1) := by decide +kernel
theorem d_L_law_1227 : decode code 1227 = .ok (.iconst 1, 1) := by decide +kernel
theorem d_L_law_1228 : decode code 1228 = .ok (.iadd, 1) := by decide +kernel
theorem d_L_law_1229 : decode code 1229 = .ok (.iaload, 1) := by decide +kernel
theorem d_L_law_1230 : decode code 1230 = .ok (.aload_n 0, 1) := by decide +kernel
theorem d_L_law_1231 : decode code 1231 = .ok (.iload_n 3, 1) := by decide +kernel
theorem d_L_law_1232 : decode code 1232 = .ok (.iconst 2, 1) := by decide +kernel
theorem d_L_law_1233 : decode code 1233 = .ok (.iadd, 1) := by decide +kernel
theorem d_L_law_1234 : decode code 1234 = .ok (.iaload, 1) := by decide +kernel
theorem d_L_law_1235 : decode code 1235 = .ok (.invokevirtual 140, 3) := by decide +kernel
theorem d_L_law_1238 : decode code 1238 = .ok (.lcmp, 1) := by decide +kernel
theorem d_L_law_1239 : decode code 1239 = .ok (.ifCond .eq 91, 3) := by decide +kernel
theorem d_L_law_1242 : decode code 1242 = .ok (.iconst 0, 1) := by decide +kernel
theorem d_L_law_1243 : decode code 1243 = .ok (.ireturn, 1) := by decide +kernel
theorem d_L_law_1244 : decode code 1244 = .ok (.aload_n 1, 1) := by decide +kernel
theorem d_L_law_1245 : decode code 1245 = .ok (.aload_n 0, 1) := by decide +kernel
theorem d_L_law_1246 : decode code 1246 = .ok (.iload_n 3, 1) := by decide +kernel
theorem d_L_law_1247 : decode code 1247 = .ok (.iconst 1, 1) := by decide +kernel
theorem d_L_law_1248 : decode code 1248 = .ok (.iadd, 1) := by decide +kernel
theorem d_L_law_1249 : decode code 1249 = .ok (.iaload, 1) := by decide +kernel
theorem d_L_law_1250 : decode code 1250 = .ok (.aload_n 0, 1) := by decide +kernel
theorem d_L_law_1251 : decode code 1251 = .ok (.iload_n 3, 1) := by decide +kernel
theorem d_L_law_1252 : decode code 1252 = .ok (.iconst 2, 1) := by decide +kernel
theorem d_L_law_1253 : decode code 1253 = .ok (.iadd, 1) := by decide +kernel
theorem d_L_law_1254 : decode code 1254 = .ok (.iaload, 1) := by decide +kernel
theorem d_L_law_1255 : decode code 1255 = .ok (.aload_n 0, 1) := by decide +kernel
theorem d_L_law_1256 : decode code 1256 = .ok (.iload_n 3, 1) := by decide +kernel
theorem d_L_law_1257 : decode code 1257 = .ok (.iconst 3, 1) := by decide +kernel
theorem d_L_law_1258 : decode code 1258 = .ok (.iadd, 1) := by decide +kernel
theorem d_L_law_1259 : decode code 1259 = .ok (.iaload, 1) := by decide +kernel
theorem d_L_law_1260 : decode code 1260 = .ok (.aload_n 0, 1) := by decide +kernel
theorem d_L_law_1261 : decode code 1261 = .ok (.iload_n 3, 1) := by decide +kernel
theorem d_L_law_1262 : decode code 1262 = .ok (.iconst 4, 1) := by decide +kernel
theorem d_L_law_1263 : decode code 1263 = .ok (.iadd, 1) := by decide +kernel
theorem d_L_law_1264 : decode code 1264 = .ok (.iaload, 1) := by decide +kernel
theorem d_L_law_1265 : decode code 1265 = .ok (.aload_n 0, 1) := by decide +kernel
theorem d_L_law_1266 : decode code 1266 = .ok (.iload_n 3, 1) := by decide +kernel
theorem d_L_law_1267 : decode code 1267 = .ok (.iconst 5, 1) := by decide +kernel
theorem d_L_law_1268 : decode code 1268 = .ok (.iadd, 1) := by decide +kernel
theorem d_L_law_1269 : decode code 1269 = .ok (.iaload, 1) := by decide +kernel
theorem d_L_law_1270 : decode code 1270 = .ok (.invokevirtual 141, 3) := by decide +kernel
theorem d_L_law_1273 : decode code 1273 = .ok (.aload_n 2, 1) := by decide +kernel
theorem d_L_law_1274 : decode code 1274 = .ok (.aload_n 0, 1) := by decide +kernel
theorem d_L_law_1275 : decode code 1275 = .ok (.iload_n 3, 1) := by decide +kernel
theorem d_L_law_1276 : decode code 1276 = .ok (.iconst 1, 1) := by decide +kernel
theorem d_L_law_1277 : decode code 1277 = .ok (.iadd, 1) := by decide +kernel
theorem d_L_law_1278 : decode code 1278 = .ok (.iaload, 1) := by decide +kernel
theorem d_L_law_1279 : decode code 1279 = .ok (.aload_n 0, 1) := by decide +kernel
theorem d_L_law_1280 : decode code 1280 = .ok (.iload_n 3, 1) := by decide +kernel
theorem d_L_law_1281 : decode code 1281 = .ok (.iconst 2, 1) := by decide +kernel
theorem d_L_law_1282 : decode code 1282 = .ok (.iadd, 1) := by decide +kernel
theorem d_L_law_1283 : decode code 1283 = .ok (.iaload, 1) := by decide +kernel
theorem d_L_law_1284 : decode code 1284 = .ok (.aload_n 0, 1) := by decide +kernel
theorem d_L_law_1285 : decode code 1285 = .ok (.iload_n 3, 1) := by decide +kernel
theorem d_L_law_1286 : decode code 1286 = .ok (.iconst 3, 1) := by decide +kernel
theorem d_L_law_1287 : decode code 1287 = .ok (.iadd, 1) := by decide +kernel
theorem d_L_law_1288 : decode code 1288 = .ok (.iaload, 1) := by decide +kernel
theorem d_L_law_1289 : decode code 1289 = .ok (.aload_n 0, 1) := by decide +kernel
theorem d_L_law_1290 : decode code 1290 = .ok (.iload_n 3, 1) := by decide +kernel
theorem d_L_law_1291 : decode code 1291 = .ok (.iconst 4, 1) := by decide +kernel
theorem d_L_law_1292 : decode code 1292 = .ok (.iadd, 1) := by decide +kernel
theorem d_L_law_1293 : decode code 1293 = .ok (.iaload, 1) := by decide +kernel
theorem d_L_law_1294 : decode code 1294 = .ok (.aload_n 0, 1) := by decide +kernel
theorem d_L_law_1295 : decode code 1295 = .ok (.iload_n 3, 1) := by decide +kernel
theorem d_L_law_1296 : decode code 1296 = .ok (.iconst 5, 1) := by decide +kernel
theorem d_L_law_1297 : decode code 1297 = .ok (.iadd, 1) := by decide +kernel
theorem d_L_law_1298 : decode code 1298 = .ok (.iaload, 1) := by decide +kernel
theorem d_L_law_1299 : decode code 1299 = .ok (.invokevirtual 144, 3) := by decide +kernel
theorem d_L_law_1302 : decode code 1302 = .ok (.if_icmp .eq 28, 3) := by decide +kernel
theorem d_L_law_1305 : decode code 1305 = .ok (.iconst 0, 1) := by decide +kernel
theorem d_L_law_1306 : decode code 1306 = .ok (.ireturn, 1) := by decide +kernel
theorem d_L_law_1307 : decode code 1307 = .ok (.aload_n 1, 1) := by decide +kernel
theorem d_L_law_1308 : decode code 1308 = .ok (.aload_n 0, 1) := by decide +kernel
theorem d_L_law_1309 : decode code 1309 = .ok (.iload_n 3, 1) := by decide +kernel
theorem d_L_law_1310 : decode code 1310 = .ok (.iconst 1, 1) := by decide +kernel
theorem d_L_law_1311 : decode code 1311 = .ok (.iadd, 1) := by decide +kernel
theorem d_L_law_1312 : decode code 1312 = .ok (.iaload, 1) := by decide +kernel
theorem d_L_law_1313 : decode code 1313 = .ok (.invokevirtual 145, 3) := by decide +kernel
theorem d_L_law_1316 : decode code 1316 = .ok (.aload_n 2, 1) := by decide +kernel
theorem d_L_law_1317 : decode code 1317 = .ok (.aload_n 0, 1) := by decide +kernel
theorem d_L_law_1318 : decode code 1318 = .ok (.iload_n 3, 1) := by decide +kernel
theorem d_L_law_1319 : decode code 1319 = .ok (.iconst 1, 1) := by decide +kernel
theorem d_L_law_1320 : decode code 1320 = .ok (.iadd, 1) := by decide +kernel
theorem d_L_law_1321 : decode code 1321 = .ok (.iaload, 1) := by decide +kernel
theorem d_L_law_1322 : decode code 1322 = .ok (.invokevirtual 148, 3) := by decide +kernel
theorem d_L_law_1325 : decode code 1325 = .ok (.if_icmp .eq 5, 3) := by decide +kernel
theorem d_L_law_1328 : decode code 1328 = .ok (.iconst 0, 1) := by decide +kernel
theorem d_L_law_1329 : decode code 1329 = .ok (.ireturn, 1) := by decide +kernel
theorem d_L_law_1330 : decode code 1330 = .ok (.iinc 3 6, 3) := by decide +kernel
theorem d_L_law_1333 : decode code 1333 = .ok (.goto (-1315), 3) := by decide +kernel
theorem d_L_law_1336 : decode code 1336 = .ok (.iconst 1, 1) := by decide +kernel
theorem d_L_law_1337 : decode code 1337 = .ok (.ireturn, 1) := by decide +kernel
theorem wd_449 : (.code ⟨"TypesAtPrime", "prime", "(I)I"⟩ prog_1_method_2_code 3 (some .int) : Cond) ∈ lw_tbl := List.mem_append_right _ (List.mem_of_getElem? (i := 449) (by decide +kernel))
theorem cs_MainLaw_13 : tp_CS "TypesAtPrimeLaw" 13 y_X10_prime i_X10_prime 1 := ⟨wd_449, wd_1, by decide, by decide, by decide +kernel⟩
theorem wd_446 : (.methodLink "TypesAtPrimeLaw" 13 ⟨"TypesAtPrime", "prime", "(I)I"⟩ : Cond) ∈ lw_tbl := List.mem_append_right _ (List.mem_of_getElem? (i := 446) (by decide +kernel))
theorem wd_447 : (.instanceMethod ⟨"TypesAtPrime", "prime", "(I)I"⟩ : Cond) ∈ lw_tbl := List.mem_append_right _ (List.mem_of_getElem? (i := 447) (by decide +kernel))
theorem wd_448 : (.selects "TypesAtPrime" ⟨"TypesAtPrime", "prime", "(I)I"⟩ ⟨"TypesAtPrime", "prime", "(I)I"⟩ : Cond) ∈ lw_tbl := List.mem_append_right _ (List.mem_of_getElem? (i := 448) (by decide +kernel))
theorem wd_1233 : (.code ⟨"TypesAtPrimeModel", "prime", "(I)I"⟩ prog_13_method_11_code 3 (some .int) : Cond) ∈ lw_tbl := List.mem_append_right _ (List.mem_of_getElem? (i := 1233) (by decide +kernel))
theorem cs_MainLaw_17 : tp_CS "TypesAtPrimeLaw" 17 y_X11_prime i_X11_prime 1 := ⟨wd_1233, wd_12, by decide, by decide, by decide +kernel⟩
theorem wd_1230 : (.methodLink "TypesAtPrimeLaw" 17 ⟨"TypesAtPrimeModel", "prime", "(I)I"⟩ : Cond) ∈ lw_tbl := List.mem_append_right _ (List.mem_of_getElem? (i := 1230) (by decide +kernel))
theorem wd_1231 : (.instanceMethod ⟨"TypesAtPrimeModel", "prime", "(I)I"⟩ : Cond) ∈ lw_tbl := List.mem_append_right _ (List.mem_of_getElem? (i := 1231) (by decide +kernel))
theorem wd_1232 : (.selects "TypesAtPrimeModel" ⟨"TypesAtPrimeModel", "prime", "(I)I"⟩ ⟨"TypesAtPrimeModel", "prime", "(I)I"⟩ : Cond) ∈ lw_tbl := List.mem_append_right _ (List.mem_of_getElem? (i := 1232) (by decide +kernel))
theorem wd_465 : (.code ⟨"TypesAtPrime", "feed", "(I)I"⟩ prog_1_method_3_code 2 (some .int) : Cond) ∈ lw_tbl := List.mem_append_right _ (List.mem_of_getElem? (i := 465) (by decide +kernel))
theorem cs_MainLaw_18 : tp_CS "TypesAtPrimeLaw" 18 y_X10_feed i_X10_feed 1 := ⟨wd_465, wd_1, by decide, by decide, by decide +kernel⟩
theorem wd_462 : (.methodLink "TypesAtPrimeLaw" 18 ⟨"TypesAtPrime", "feed", "(I)I"⟩ : Cond) ∈ lw_tbl := List.mem_append_right _ (List.mem_of_getElem? (i := 462) (by decide +kernel))
theorem wd_463 : (.instanceMethod ⟨"TypesAtPrime", "feed", "(I)I"⟩ : Cond) ∈ lw_tbl := List.mem_append_right _ (List.mem_of_getElem? (i := 463) (by decide +kernel))
theorem wd_464 : (.selects "TypesAtPrime" ⟨"TypesAtPrime", "feed", "(I)I"⟩ ⟨"TypesAtPrime", "feed", "(I)I"⟩ : Cond) ∈ lw_tbl := List.mem_append_right _ (List.mem_of_getElem? (i := 464) (by decide +kernel))
theorem wd_1237 : (.code ⟨"TypesAtPrimeModel", "feed", "(I)I"⟩ prog_13_method_12_code 2 (some .int) : Cond) ∈ lw_tbl := List.mem_append_right _ (List.mem_of_getElem? (i := 1237) (by decide +kernel))
theorem cs_MainLaw_21 : tp_CS "TypesAtPrimeLaw" 21 y_X11_feed i_X11_feed 1 := ⟨wd_1237, wd_12, by decide, by decide, by decide +kernel⟩
theorem wd_1234 : (.methodLink "TypesAtPrimeLaw" 21 ⟨"TypesAtPrimeModel", "feed", "(I)I"⟩ : Cond) ∈ lw_tbl := List.mem_append_right _ (List.mem_of_getElem? (i := 1234) (by decide +kernel))
theorem wd_1235 : (.instanceMethod ⟨"TypesAtPrimeModel", "feed", "(I)I"⟩ : Cond) ∈ lw_tbl := List.mem_append_right _ (List.mem_of_getElem? (i := 1235) (by decide +kernel))
theorem wd_1236 : (.selects "TypesAtPrimeModel" ⟨"TypesAtPrimeModel", "feed", "(I)I"⟩ ⟨"TypesAtPrimeModel", "feed", "(I)I"⟩ : Cond) ∈ lw_tbl := List.mem_append_right _ (List.mem_of_getElem? (i := 1236) (by decide +kernel))
theorem wd_469 : (.code ⟨"TypesAtPrime", "wipe", "()I"⟩ prog_1_method_4_code 2 (some .int) : Cond) ∈ lw_tbl := List.mem_append_right _ (List.mem_of_getElem? (i := 469) (by decide +kernel))
theorem cs_MainLaw_22 : tp_CS "TypesAtPrimeLaw" 22 y_X10_wipe i_X10_wipe 0 := ⟨wd_469, wd_1, by decide, by decide, by decide +kernel⟩
theorem wd_466 : (.methodLink "TypesAtPrimeLaw" 22 ⟨"TypesAtPrime", "wipe", "()I"⟩ : Cond) ∈ lw_tbl := List.mem_append_right _ (List.mem_of_getElem? (i := 466) (by decide +kernel))
theorem wd_467 : (.instanceMethod ⟨"TypesAtPrime", "wipe", "()I"⟩ : Cond) ∈ lw_tbl := List.mem_append_right _ (List.mem_of_getElem? (i := 467) (by decide +kernel))
theorem wd_468 : (.selects "TypesAtPrime" ⟨"TypesAtPrime", "wipe", "()I"⟩ ⟨"TypesAtPrime", "wipe", "()I"⟩ : Cond) ∈ lw_tbl := List.mem_append_right _ (List.mem_of_getElem? (i := 468) (by decide +kernel))
theorem wd_1245 : (.code ⟨"TypesAtPrimeModel", "wipe", "()I"⟩ prog_13_method_13_code 2 (some .int) : Cond) ∈ lw_tbl := List.mem_append_right _ (List.mem_of_getElem? (i := 1245) (by decide +kernel))
theorem cs_MainLaw_26 : tp_CS "TypesAtPrimeLaw" 26 y_X11_wipe i_X11_wipe 0 := ⟨wd_1245, wd_12, by decide, by decide, by decide +kernel⟩
theorem wd_1242 : (.methodLink "TypesAtPrimeLaw" 26 ⟨"TypesAtPrimeModel", "wipe", "()I"⟩ : Cond) ∈ lw_tbl := List.mem_append_right _ (List.mem_of_getElem? (i := 1242) (by decide +kernel))
theorem wd_1243 : (.instanceMethod ⟨"TypesAtPrimeModel", "wipe", "()I"⟩ : Cond) ∈ lw_tbl := List.mem_append_right _ (List.mem_of_getElem? (i := 1243) (by decide +kernel))
theorem wd_1244 : (.selects "TypesAtPrimeModel" ⟨"TypesAtPrimeModel", "wipe", "()I"⟩ ⟨"TypesAtPrimeModel", "wipe", "()I"⟩ : Cond) ∈ lw_tbl := List.mem_append_right _ (List.mem_of_getElem? (i := 1244) (by decide +kernel))
theorem wd_473 : (.code ⟨"TypesAtPrime", "text", "(I)I"⟩ prog_1_method_5_code 4 (some .int) : Cond) ∈ lw_tbl := List.mem_append_right _ (List.mem_of_getElem? (i := 473) (by decide +kernel))
theorem cs_MainLaw_27 : tp_CS "TypesAtPrimeLaw" 27 y_X10_text i_X10_text 1 := ⟨wd_473, wd_1, by decide, by decide, by decide +kernel⟩
theorem wd_470 : (.methodLink "TypesAtPrimeLaw" 27 ⟨"TypesAtPrime", "text", "(I)I"⟩ : Cond) ∈ lw_tbl := List.mem_append_right _ (List.mem_of_getElem? (i := 470) (by decide +kernel))
theorem wd_471 : (.instanceMethod ⟨"TypesAtPrime", "text", "(I)I"⟩ : Cond) ∈ lw_tbl := List.mem_append_right _ (List.mem_of_getElem? (i := 471) (by decide +kernel))
theorem wd_472 : (.selects "TypesAtPrime" ⟨"TypesAtPrime", "text", "(I)I"⟩ ⟨"TypesAtPrime", "text", "(I)I"⟩ : Cond) ∈ lw_tbl := List.mem_append_right _ (List.mem_of_getElem? (i := 472) (by decide +kernel))
theorem wd_1249 : (.code ⟨"TypesAtPrimeModel", "text", "(I)I"⟩ prog_13_method_22_code 3 (some .int) : Cond) ∈ lw_tbl := List.mem_append_right _ (List.mem_of_getElem? (i := 1249) (by decide +kernel))
theorem cs_MainLaw_30 : tp_CS "TypesAtPrimeLaw" 30 y_X11_text i_X11_text 1 := ⟨wd_1249, wd_12, by decide, by decide, by decide +kernel⟩
theorem wd_1246 : (.methodLink "TypesAtPrimeLaw" 30 ⟨"TypesAtPrimeModel", "text", "(I)I"⟩ : Cond) ∈ lw_tbl := List.mem_append_right _ (List.mem_of_getElem? (i := 1246) (by decide +kernel))
theorem wd_1247 : (.instanceMethod ⟨"TypesAtPrimeModel", "text", "(I)I"⟩ : Cond) ∈ lw_tbl := List.mem_append_right _ (List.mem_of_getElem? (i := 1247) (by decide +kernel))
theorem wd_1248 : (.selects "TypesAtPrimeModel" ⟨"TypesAtPrimeModel", "text", "(I)I"⟩ ⟨"TypesAtPrimeModel", "text", "(I)I"⟩ : Cond) ∈ lw_tbl := List.mem_append_right _ (List.mem_of_getElem? (i := 1248) (by decide +kernel))
theorem wd_522 : (.code ⟨"TypesAtPrime", "set", "(III)J"⟩ prog_1_method_6_code 5 (some .long) : Cond) ∈ lw_tbl := List.mem_append_right _ (List.mem_of_getElem? (i := 522) (by decide +kernel))
theorem cs_MainLaw_31 : tp_CS "TypesAtPrimeLaw" 31 y_X10_set i_X10_set 3 := ⟨wd_522, wd_1, by decide, by decide, by decide +kernel⟩
theorem wd_519 : (.methodLink "TypesAtPrimeLaw" 31 ⟨"TypesAtPrime", "set", "(III)J"⟩ : Cond) ∈ lw_tbl := List.mem_append_right _ (List.mem_of_getElem? (i := 519) (by decide +kernel))
theorem wd_520 : (.instanceMethod ⟨"TypesAtPrime", "set", "(III)J"⟩ : Cond) ∈ lw_tbl := List.mem_append_right _ (List.mem_of_getElem? (i := 520) (by decide +kernel))
theorem wd_521 : (.selects "TypesAtPrime" ⟨"TypesAtPrime", "set", "(III)J"⟩ ⟨"TypesAtPrime", "set", "(III)J"⟩ : Cond) ∈ lw_tbl := List.mem_append_right _ (List.mem_of_getElem? (i := 521) (by decide +kernel))
theorem wd_1301 : (.code ⟨"TypesAtPrimeModel", "set", "(III)J"⟩ prog_13_method_23_code 5 (some .long) : Cond) ∈ lw_tbl := List.mem_append_right _ (List.mem_of_getElem? (i := 1301) (by decide +kernel))
theorem cs_MainLaw_35 : tp_CS "TypesAtPrimeLaw" 35 y_X11_set i_X11_set 3 := ⟨wd_1301, wd_12, by decide, by decide, by decide +kernel⟩
theorem wd_1298 : (.methodLink "TypesAtPrimeLaw" 35 ⟨"TypesAtPrimeModel", "set", "(III)J"⟩ : Cond) ∈ lw_tbl := List.mem_append_right _ (List.mem_of_getElem? (i := 1298) (by decide +kernel))
theorem wd_1299 : (.instanceMethod ⟨"TypesAtPrimeModel", "set", "(III)J"⟩ : Cond) ∈ lw_tbl := List.mem_append_right _ (List.mem_of_getElem? (i := 1299) (by decide +kernel))
theorem wd_1300 : (.selects "TypesAtPrimeModel" ⟨"TypesAtPrimeModel", "set", "(III)J"⟩ ⟨"TypesAtPrimeModel", "set", "(III)J"⟩ : Cond) ∈ lw_tbl := List.mem_append_right _ (List.mem_of_getElem? (i := 1300) (by decide +kernel))
theorem wd_530 : (.code ⟨"TypesAtPrime", "at", "(II)J"⟩ prog_1_method_7_code 3 (some .long) : Cond) ∈ lw_tbl := List.mem_append_right _ (List.mem_of_getElem? (i := 530) (by decide +kernel))
theorem cs_MainLaw_36 : tp_CS "TypesAtPrimeLaw" 36 y_X10_at i_X10_at 2 := ⟨wd_530, wd_1, by decide, by decide, by decide +kernel⟩
theorem wd_527 : (.methodLink "TypesAtPrimeLaw" 36 ⟨"TypesAtPrime", "at", "(II)J"⟩ : Cond) ∈ lw_tbl := List.mem_append_right _ (List.mem_of_getElem? (i := 527) (by decide +kernel))
theorem wd_528 : (.instanceMethod ⟨"TypesAtPrime", "at", "(II)J"⟩ : Cond) ∈ lw_tbl := List.mem_append_right _ (List.mem_of_getElem? (i := 528) (by decide +kernel))
theorem wd_529 : (.selects "TypesAtPrime" ⟨"TypesAtPrime", "at", "(II)J"⟩ ⟨"TypesAtPrime", "at", "(II)J"⟩ : Cond) ∈ lw_tbl := List.mem_append_right _ (List.mem_of_getElem? (i := 529) (by decide +kernel))
theorem wd_1309 : (.code ⟨"TypesAtPrimeModel", "at", "(II)J"⟩ prog_13_method_24_code 3 (some .long) : Cond) ∈ lw_tbl := List.mem_append_right _ (List.mem_of_getElem? (i := 1309) (by decide +kernel))
theorem cs_MainLaw_40 : tp_CS "TypesAtPrimeLaw" 40 y_X11_at i_X11_at 2 := ⟨wd_1309, wd_12, by decide, by decide, by decide +kernel⟩
theorem wd_1306 : (.methodLink "TypesAtPrimeLaw" 40 ⟨"TypesAtPrimeModel", "at", "(II)J"⟩ : Cond) ∈ lw_tbl := List.mem_append_right _ (List.mem_of_getElem? (i := 1306) (by decide +kernel))
theorem wd_1307 : (.instanceMethod ⟨"TypesAtPrimeModel", "at", "(II)J"⟩ : Cond) ∈ lw_tbl := List.mem_append_right _ (List.mem_of_getElem? (i := 1307) (by decide +kernel))
theorem wd_1308 : (.selects "TypesAtPrimeModel" ⟨"TypesAtPrimeModel", "at", "(II)J"⟩ ⟨"TypesAtPrimeModel", "at", "(II)J"⟩ : Cond) ∈ lw_tbl := List.mem_append_right _ (List.mem_of_getElem? (i := 1308) (by decide +kernel))
theorem wd_534 : (.code ⟨"TypesAtPrime", "told", "(II)I"⟩ prog_1_method_8_code 3 (some .int) : Cond) ∈ lw_tbl := List.mem_append_right _ (List.mem_of_getElem? (i := 534) (by decide +kernel))
theorem cs_MainLaw_41 : tp_CS "TypesAtPrimeLaw" 41 y_X10_told i_X10_told 2 := ⟨wd_534, wd_1, by decide, by decide, by decide +kernel⟩
theorem wd_531 : (.methodLink "TypesAtPrimeLaw" 41 ⟨"TypesAtPrime", "told", "(II)I"⟩ : Cond) ∈ lw_tbl := List.mem_append_right _ (List.mem_of_getElem? (i := 531) (by decide +kernel))
theorem wd_532 : (.instanceMethod ⟨"TypesAtPrime", "told", "(II)I"⟩ : Cond) ∈ lw_tbl := List.mem_append_right _ (List.mem_of_getElem? (i := 532) (by decide +kernel))
theorem wd_533 : (.selects "TypesAtPrime" ⟨"TypesAtPrime", "told", "(II)I"⟩ ⟨"TypesAtPrime", "told", "(II)I"⟩ : Cond) ∈ lw_tbl := List.mem_append_right _ (List.mem_of_getElem? (i := 533) (by decide +kernel))
theorem wd_1313 : (.code ⟨"TypesAtPrimeModel", "told", "(II)I"⟩ prog_13_method_25_code 3 (some .int) : Cond) ∈ lw_tbl := List.mem_append_right _ (List.mem_of_getElem? (i := 1313) (by decide +kernel))
theorem cs_MainLaw_45 : tp_CS "TypesAtPrimeLaw" 45 y_X11_told i_X11_told 2 := ⟨wd_1313, wd_12, by decide, by decide, by decide +kernel⟩
theorem wd_1310 : (.methodLink "TypesAtPrimeLaw" 45 ⟨"TypesAtPrimeModel", "told", "(II)I"⟩ : Cond) ∈ lw_tbl := List.mem_append_right _ (List.mem_of_getElem? (i := 1310) (by decide +kernel))
theorem wd_1311 : (.instanceMethod ⟨"TypesAtPrimeModel", "told", "(II)I"⟩ : Cond) ∈ lw_tbl := List.mem_append_right _ (List.mem_of_getElem? (i := 1311) (by decide +kernel))
theorem wd_1312 : (.selects "TypesAtPrimeModel" ⟨"TypesAtPrimeModel", "told", "(II)I"⟩ ⟨"TypesAtPrimeModel", "told", "(II)I"⟩ : Cond) ∈ lw_tbl := List.mem_append_right _ (List.mem_of_getElem? (i := 1312) (by decide +kernel))
theorem wd_542 : (.code ⟨"TypesAtPrime", "mix", "(IIIII)I"⟩ prog_1_method_9_code 7 (some .int) : Cond) ∈ lw_tbl := List.mem_append_right _ (List.mem_of_getElem? (i := 542) (by decide +kernel))
theorem cs_MainLaw_46 : tp_CS "TypesAtPrimeLaw" 46 y_X10_mix i_X10_mix 5 := ⟨wd_542, wd_1, by decide, by decide, by decide +kernel⟩
theorem wd_539 : (.methodLink "TypesAtPrimeLaw" 46 ⟨"TypesAtPrime", "mix", "(IIIII)I"⟩ : Cond) ∈ lw_tbl := List.mem_append_right _ (List.mem_of_getElem? (i := 539) (by decide +kernel))
theorem wd_540 : (.instanceMethod ⟨"TypesAtPrime", "mix", "(IIIII)I"⟩ : Cond) ∈ lw_tbl := List.mem_append_right _ (List.mem_of_getElem? (i := 540) (by decide +kernel))
theorem wd_541 : (.selects "TypesAtPrime" ⟨"TypesAtPrime", "mix", "(IIIII)I"⟩ ⟨"TypesAtPrime", "mix", "(IIIII)I"⟩ : Cond) ∈ lw_tbl := List.mem_append_right _ (List.mem_of_getElem? (i := 541) (by decide +kernel))
theorem wd_1321 : (.code ⟨"TypesAtPrimeModel", "mix", "(IIIII)I"⟩ prog_13_method_26_code 7 (some .int) : Cond) ∈ lw_tbl := List.mem_append_right _ (List.mem_of_getElem? (i := 1321) (by decide +kernel))
theorem cs_MainLaw_50 : tp_CS "TypesAtPrimeLaw" 50 y_X11_mix i_X11_mix 5 := ⟨wd_1321, wd_12, by decide, by decide, by decide +kernel⟩
theorem wd_1318 : (.methodLink "TypesAtPrimeLaw" 50 ⟨"TypesAtPrimeModel", "mix", "(IIIII)I"⟩ : Cond) ∈ lw_tbl := List.mem_append_right _ (List.mem_of_getElem? (i := 1318) (by decide +kernel))
theorem wd_1319 : (.instanceMethod ⟨"TypesAtPrimeModel", "mix", "(IIIII)I"⟩ : Cond) ∈ lw_tbl := List.mem_append_right _ (List.mem_of_getElem? (i := 1319) (by decide +kernel))
theorem wd_1320 : (.selects "TypesAtPrimeModel" ⟨"TypesAtPrimeModel", "mix", "(IIIII)I"⟩ ⟨"TypesAtPrimeModel", "mix", "(IIIII)I"⟩ : Cond) ∈ lw_tbl := List.mem_append_right _ (List.mem_of_getElem? (i := 1320) (by decide +kernel))
theorem wd_546 : (.code ⟨"TypesAtPrime", "times", "(III)I"⟩ prog_1_method_10_code 8 (some .int) : Cond) ∈ lw_tbl := List.mem_append_right _ (List.mem_of_getElem? (i := 546) (by decide +kernel))
theorem cs_MainLaw_51 : tp_CS "TypesAtPrimeLaw" 51 y_X10_times i_X10_times 3 := ⟨wd_546, wd_1, by decide, by decide, by decide +kernel⟩
theorem wd_543 : (.methodLink "TypesAtPrimeLaw" 51 ⟨"TypesAtPrime", "times", "(III)I"⟩ : Cond) ∈ lw_tbl := List.mem_append_right _ (List.mem_of_getElem? (i := 543) (by decide +kernel))
theorem wd_544 : (.instanceMethod ⟨"TypesAtPrime", "times", "(III)I"⟩ : Cond) ∈ lw_tbl := List.mem_append_right _ (List.mem_of_getElem? (i := 544) (by decide +kernel))
theorem wd_545 : (.selects "TypesAtPrime" ⟨"TypesAtPrime", "times", "(III)I"⟩ ⟨"TypesAtPrime", "times", "(III)I"⟩ : Cond) ∈ lw_tbl := List.mem_append_right _ (List.mem_of_getElem? (i := 545) (by decide +kernel))
theorem wd_1325 : (.code ⟨"TypesAtPrimeModel", "times", "(III)I"⟩ prog_13_method_27_code 8 (some .int) : Cond) ∈ lw_tbl := List.mem_append_right _ (List.mem_of_getElem? (i := 1325) (by decide +kernel))
theorem cs_MainLaw_55 : tp_CS "TypesAtPrimeLaw" 55 y_X11_times i_X11_times 3 := ⟨wd_1325, wd_12, by decide, by decide, by decide +kernel⟩
theorem wd_1322 : (.methodLink "TypesAtPrimeLaw" 55 ⟨"TypesAtPrimeModel", "times", "(III)I"⟩ : Cond) ∈ lw_tbl := List.mem_append_right _ (List.mem_of_getElem? (i := 1322) (by decide +kernel))
theorem wd_1323 : (.instanceMethod ⟨"TypesAtPrimeModel", "times", "(III)I"⟩ : Cond) ∈ lw_tbl := List.mem_append_right _ (List.mem_of_getElem? (i := 1323) (by decide +kernel))
theorem wd_1324 : (.selects "TypesAtPrimeModel" ⟨"TypesAtPrimeModel", "times", "(III)I"⟩ ⟨"TypesAtPrimeModel", "times", "(III)I"⟩ : Cond) ∈ lw_tbl := List.mem_append_right _ (List.mem_of_getElem? (i := 1324) (by decide +kernel))
theorem wd_553 : (.code ⟨"TypesAtPrime", "worth", "(II)J"⟩ prog_1_method_11_code 8 (some .long) : Cond) ∈ lw_tbl := List.mem_append_right _ (List.mem_of_getElem? (i := 553) (by decide +kernel))
theorem cs_MainLaw_56 : tp_CS "TypesAtPrimeLaw" 56 y_X10_worth i_X10_worth 2 := ⟨wd_553, wd_1, by decide, by decide, by decide +kernel⟩
theorem wd_550 : (.methodLink "TypesAtPrimeLaw" 56 ⟨"TypesAtPrime", "worth", "(II)J"⟩ : Cond) ∈ lw_tbl := List.mem_append_right _ (List.mem_of_getElem? (i := 550) (by decide +kernel))
theorem wd_551 : (.instanceMethod ⟨"TypesAtPrime", "worth", "(II)J"⟩ : Cond) ∈ lw_tbl := List.mem_append_right _ (List.mem_of_getElem? (i := 551) (by decide +kernel))
theorem wd_552 : (.selects "TypesAtPrime" ⟨"TypesAtPrime", "worth", "(II)J"⟩ ⟨"TypesAtPrime", "worth", "(II)J"⟩ : Cond) ∈ lw_tbl := List.mem_append_right _ (List.mem_of_getElem? (i := 552) (by decide +kernel))
theorem wd_1329 : (.code ⟨"TypesAtPrimeModel", "worth", "(II)J"⟩ prog_13_method_29_code 10 (some .long) : Cond) ∈ lw_tbl := List.mem_append_right _ (List.mem_of_getElem? (i := 1329) (by decide +kernel))
theorem cs_MainLaw_59 : tp_CS "TypesAtPrimeLaw" 59 y_X11_worth i_X11_worth 2 := ⟨wd_1329, wd_12, by decide, by decide, by decide +kernel⟩
theorem wd_1326 : (.methodLink "TypesAtPrimeLaw" 59 ⟨"TypesAtPrimeModel", "worth", "(II)J"⟩ : Cond) ∈ lw_tbl := List.mem_append_right _ (List.mem_of_getElem? (i := 1326) (by decide +kernel))
theorem wd_1327 : (.instanceMethod ⟨"TypesAtPrimeModel", "worth", "(II)J"⟩ : Cond) ∈ lw_tbl := List.mem_append_right _ (List.mem_of_getElem? (i := 1327) (by decide +kernel))
theorem wd_1328 : (.selects "TypesAtPrimeModel" ⟨"TypesAtPrimeModel", "worth", "(II)J"⟩ ⟨"TypesAtPrimeModel", "worth", "(II)J"⟩ : Cond) ∈ lw_tbl := List.mem_append_right _ (List.mem_of_getElem? (i := 1328) (by decide +kernel))
theorem wd_560 : (.code ⟨"TypesAtPrime", "expansion", "(IIII)J"⟩ prog_1_method_12_code 8 (some .long) : Cond) ∈ lw_tbl := List.mem_append_right _ (List.mem_of_getElem? (i := 560) (by decide +kernel))
theorem cs_MainLaw_60 : tp_CS "TypesAtPrimeLaw" 60 y_X10_expansion i_X10_expansion 4 := ⟨wd_560, wd_1, by decide, by decide, by decide +kernel⟩
theorem wd_557 : (.methodLink "TypesAtPrimeLaw" 60 ⟨"TypesAtPrime", "expansion", "(IIII)J"⟩ : Cond) ∈ lw_tbl := List.mem_append_right _ (List.mem_of_getElem? (i := 557) (by decide +kernel))
theorem wd_558 : (.instanceMethod ⟨"TypesAtPrime", "expansion", "(IIII)J"⟩ : Cond) ∈ lw_tbl := List.mem_append_right _ (List.mem_of_getElem? (i := 558) (by decide +kernel))
theorem wd_559 : (.selects "TypesAtPrime" ⟨"TypesAtPrime", "expansion", "(IIII)J"⟩ ⟨"TypesAtPrime", "expansion", "(IIII)J"⟩ : Cond) ∈ lw_tbl := List.mem_append_right _ (List.mem_of_getElem? (i := 559) (by decide +kernel))
theorem wd_1337 : (.code ⟨"TypesAtPrimeModel", "expansion", "(IIII)J"⟩ prog_13_method_31_code 7 (some .long) : Cond) ∈ lw_tbl := List.mem_append_right _ (List.mem_of_getElem? (i := 1337) (by decide +kernel))
theorem cs_MainLaw_64 : tp_CS "TypesAtPrimeLaw" 64 y_X11_expansion i_X11_expansion 4 := ⟨wd_1337, wd_12, by decide, by decide, by decide +kernel⟩
theorem wd_1334 : (.methodLink "TypesAtPrimeLaw" 64 ⟨"TypesAtPrimeModel", "expansion", "(IIII)J"⟩ : Cond) ∈ lw_tbl := List.mem_append_right _ (List.mem_of_getElem? (i := 1334) (by decide +kernel))
theorem wd_1335 : (.instanceMethod ⟨"TypesAtPrimeModel", "expansion", "(IIII)J"⟩ : Cond) ∈ lw_tbl := List.mem_append_right _ (List.mem_of_getElem? (i := 1335) (by decide +kernel))
theorem wd_1336 : (.selects "TypesAtPrimeModel" ⟨"TypesAtPrimeModel", "expansion", "(IIII)J"⟩ ⟨"TypesAtPrimeModel", "expansion", "(IIII)J"⟩ : Cond) ∈ lw_tbl := List.mem_append_right _ (List.mem_of_getElem? (i := 1336) (by decide +kernel))
theorem wd_573 : (.code ⟨"TypesAtPrime", "factor", "(III)J"⟩ prog_1_method_13_code 4 (some .long) : Cond) ∈ lw_tbl := List.mem_append_right _ (List.mem_of_getElem? (i := 573) (by decide +kernel))
theorem cs_MainLaw_65 : tp_CS "TypesAtPrimeLaw" 65 y_X10_factor i_X10_factor 3 := ⟨wd_573, wd_1, by decide, by decide, by decide +kernel⟩
theorem wd_570 : (.methodLink "TypesAtPrimeLaw" 65 ⟨"TypesAtPrime", "factor", "(III)J"⟩ : Cond) ∈ lw_tbl := List.mem_append_right _ (List.mem_of_getElem? (i := 570) (by decide +kernel))
theorem wd_571 : (.instanceMethod ⟨"TypesAtPrime", "factor", "(III)J"⟩ : Cond) ∈ lw_tbl := List.mem_append_right _ (List.mem_of_getElem? (i := 571) (by decide +kernel))
theorem wd_572 : (.selects "TypesAtPrime" ⟨"TypesAtPrime", "factor", "(III)J"⟩ ⟨"TypesAtPrime", "factor", "(III)J"⟩ : Cond) ∈ lw_tbl := List.mem_append_right _ (List.mem_of_getElem? (i := 572) (by decide +kernel))
theorem wd_1349 : (.code ⟨"TypesAtPrimeModel", "factor", "(III)J"⟩ prog_13_method_39_code 4 (some .long) : Cond) ∈ lw_tbl := List.mem_append_right _ (List.mem_of_getElem? (i := 1349) (by decide +kernel))
theorem cs_MainLaw_68 : tp_CS "TypesAtPrimeLaw" 68 y_X11_factor i_X11_factor 3 := ⟨wd_1349, wd_12, by decide, by decide, by decide +kernel⟩
theorem wd_1346 : (.methodLink "TypesAtPrimeLaw" 68 ⟨"TypesAtPrimeModel", "factor", "(III)J"⟩ : Cond) ∈ lw_tbl := List.mem_append_right _ (List.mem_of_getElem? (i := 1346) (by decide +kernel))
theorem wd_1347 : (.instanceMethod ⟨"TypesAtPrimeModel", "factor", "(III)J"⟩ : Cond) ∈ lw_tbl := List.mem_append_right _ (List.mem_of_getElem? (i := 1347) (by decide +kernel))
theorem wd_1348 : (.selects "TypesAtPrimeModel" ⟨"TypesAtPrimeModel", "factor", "(III)J"⟩ ⟨"TypesAtPrimeModel", "factor", "(III)J"⟩ : Cond) ∈ lw_tbl := List.mem_append_right _ (List.mem_of_getElem? (i := 1348) (by decide +kernel))
theorem wd_635 : (.code ⟨"TypesAtPrime", "grow", "(I)I"⟩ prog_1_method_14_code 2 (some .int) : Cond) ∈ lw_tbl := List.mem_append_right _ (List.mem_of_getElem? (i := 635) (by decide +kernel))
theorem cs_MainLaw_69 : tp_CS "TypesAtPrimeLaw" 69 y_X10_grow i_X10_grow 1 := ⟨wd_635, wd_1, by decide, by decide, by decide +kernel⟩
theorem wd_632 : (.methodLink "TypesAtPrimeLaw" 69 ⟨"TypesAtPrime", "grow", "(I)I"⟩ : Cond) ∈ lw_tbl := List.mem_append_right _ (List.mem_of_getElem? (i := 632) (by decide +kernel))
theorem wd_633 : (.instanceMethod ⟨"TypesAtPrime", "grow", "(I)I"⟩ : Cond) ∈ lw_tbl := List.mem_append_right _ (List.mem_of_getElem? (i := 633) (by decide +kernel))
theorem wd_634 : (.selects "TypesAtPrime" ⟨"TypesAtPrime", "grow", "(I)I"⟩ ⟨"TypesAtPrime", "grow", "(I)I"⟩ : Cond) ∈ lw_tbl := List.mem_append_right _ (List.mem_of_getElem? (i := 634) (by decide +kernel))
theorem wd_1387 : (.code ⟨"TypesAtPrimeModel", "grow", "(I)I"⟩ prog_13_method_69_code 3 (some .int) : Cond) ∈ lw_tbl := List.mem_append_right _ (List.mem_of_getElem? (i := 1387) (by decide +kernel))
theorem cs_MainLaw_72 : tp_CS "TypesAtPrimeLaw" 72 y_X11_grow i_X11_grow 1 := ⟨wd_1387, wd_12, by decide, by decide, by decide +kernel⟩
theorem wd_1384 : (.methodLink "TypesAtPrimeLaw" 72 ⟨"TypesAtPrimeModel", "grow", "(I)I"⟩ : Cond) ∈ lw_tbl := List.mem_append_right _ (List.mem_of_getElem? (i := 1384) (by decide +kernel))
theorem wd_1385 : (.instanceMethod ⟨"TypesAtPrimeModel", "grow", "(I)I"⟩ : Cond) ∈ lw_tbl := List.mem_append_right _ (List.mem_of_getElem? (i := 1385) (by decide +kernel))
theorem wd_1386 : (.selects "TypesAtPrimeModel" ⟨"TypesAtPrimeModel", "grow", "(I)I"⟩ ⟨"TypesAtPrimeModel", "grow", "(I)I"⟩ : Cond) ∈ lw_tbl := List.mem_append_right _ (List.mem_of_getElem? (i := 1386) (by decide +kernel))
theorem cs_MainLaw_73 : tp_CS "TypesAtPrimeLaw" 73 y_X10_tree i_X10_tree 1 := ⟨wd_813, wd_1, by decide, by decide, by decide +kernel⟩
theorem wd_810 : (.methodLink "TypesAtPrimeLaw" 73 ⟨"TypesAtPrime", "tree", "(I)I"⟩ : Cond) ∈ lw_tbl := List.mem_append_right _ (List.mem_of_getElem? (i := 810) (by decide +kernel))
theorem wd_1506 : (.code ⟨"TypesAtPrimeModel", "tree", "(I)I"⟩ prog_13_method_71_code 2 (some .int) : Cond) ∈ lw_tbl := List.mem_append_right _ (List.mem_of_getElem? (i := 1506) (by decide +kernel))
theorem cs_MainLaw_76 : tp_CS "TypesAtPrimeLaw" 76 y_X11_tree i_X11_tree 1 := ⟨wd_1506, wd_12, by decide, by decide, by decide +kernel⟩
theorem wd_1503 : (.methodLink "TypesAtPrimeLaw" 76 ⟨"TypesAtPrimeModel", "tree", "(I)I"⟩ : Cond) ∈ lw_tbl := List.mem_append_right _ (List.mem_of_getElem? (i := 1503) (by decide +kernel))
theorem wd_1504 : (.instanceMethod ⟨"TypesAtPrimeModel", "tree", "(I)I"⟩ : Cond) ∈ lw_tbl := List.mem_append_right _ (List.mem_of_getElem? (i := 1504) (by decide +kernel))
theorem wd_1505 : (.selects "TypesAtPrimeModel" ⟨"TypesAtPrimeModel", "tree", "(I)I"⟩ ⟨"TypesAtPrimeModel", "tree", "(I)I"⟩ : Cond) ∈ lw_tbl := List.mem_append_right _ (List.mem_of_getElem? (i := 1505) (by decide +kernel))
theorem wd_834 : (.code ⟨"TypesAtPrime", "knot", "(II)I"⟩ prog_1_method_16_code 4 (some .int) : Cond) ∈ lw_tbl := List.mem_append_right _ (List.mem_of_getElem? (i := 834) (by decide +kernel))
theorem cs_MainLaw_77 : tp_CS "TypesAtPrimeLaw" 77 y_X10_knot i_X10_knot 2 := ⟨wd_834, wd_1, by decide, by decide, by decide +kernel⟩
theorem wd_831 : (.methodLink "TypesAtPrimeLaw" 77 ⟨"TypesAtPrime", "knot", "(II)I"⟩ : Cond) ∈ lw_tbl := List.mem_append_right _ (List.mem_of_getElem? (i := 831) (by decide +kernel))
theorem wd_832 : (.instanceMethod ⟨"TypesAtPrime", "knot", "(II)I"⟩ : Cond) ∈ lw_tbl := List.mem_append_right _ (List.mem_of_getElem? (i := 832) (by decide +kernel))
theorem wd_833 : (.selects "TypesAtPrime" ⟨"TypesAtPrime", "knot", "(II)I"⟩ ⟨"TypesAtPrime", "knot", "(II)I"⟩ : Cond) ∈ lw_tbl := List.mem_append_right _ (List.mem_of_getElem? (i := 833) (by decide +kernel))
theorem wd_1515 : (.code ⟨"TypesAtPrimeModel", "knot", "(II)I"⟩ prog_13_method_73_code 3 (some .int) : Cond) ∈ lw_tbl := List.mem_append_right _ (List.mem_of_getElem? (i := 1515) (by decide +kernel))
theorem cs_MainLaw_80 : tp_CS "TypesAtPrimeLaw" 80 y_X11_knot i_X11_knot 2 := ⟨wd_1515, wd_12, by decide, by decide, by decide +kernel⟩
theorem wd_1512 : (.methodLink "TypesAtPrimeLaw" 80 ⟨"TypesAtPrimeModel", "knot", "(II)I"⟩ : Cond) ∈ lw_tbl := List.mem_append_right _ (List.mem_of_getElem? (i := 1512) (by decide +kernel))
theorem wd_1513 : (.instanceMethod ⟨"TypesAtPrimeModel", "knot", "(II)I"⟩ : Cond) ∈ lw_tbl := List.mem_append_right _ (List.mem_of_getElem? (i := 1513) (by decide +kernel))
theorem wd_1514 : (.selects "TypesAtPrimeModel" ⟨"TypesAtPrimeModel", "knot", "(II)I"⟩ ⟨"TypesAtPrimeModel", "knot", "(II)I"⟩ : Cond) ∈ lw_tbl := List.mem_append_right _ (List.mem_of_getElem? (i := 1514) (by decide +kernel))
theorem wd_839 : (.code ⟨"TypesAtPrime", "key", "(II)J"⟩ prog_1_method_17_code 4 (some .long) : Cond) ∈ lw_tbl := List.mem_append_right _ (List.mem_of_getElem? (i := 839) (by decide +kernel))
theorem cs_MainLaw_81 : tp_CS "TypesAtPrimeLaw" 81 y_X10_key i_X10_key 2 := ⟨wd_839, wd_1, by decide, by decide, by decide +kernel⟩
theorem wd_836 : (.methodLink "TypesAtPrimeLaw" 81 ⟨"TypesAtPrime", "key", "(II)J"⟩ : Cond) ∈ lw_tbl := List.mem_append_right _ (List.mem_of_getElem? (i := 836) (by decide +kernel))
theorem wd_837 : (.instanceMethod ⟨"TypesAtPrime", "key", "(II)J"⟩ : Cond) ∈ lw_tbl := List.mem_append_right _ (List.mem_of_getElem? (i := 837) (by decide +kernel))
theorem wd_838 : (.selects "TypesAtPrime" ⟨"TypesAtPrime", "key", "(II)J"⟩ ⟨"TypesAtPrime", "key", "(II)J"⟩ : Cond) ∈ lw_tbl := List.mem_append_right _ (List.mem_of_getElem? (i := 838) (by decide +kernel))
theorem wd_1524 : (.code ⟨"TypesAtPrimeModel", "key", "(II)J"⟩ prog_13_method_74_code 3 (some .long) : Cond) ∈ lw_tbl := List.mem_append_right _ (List.mem_of_getElem? (i := 1524) (by decide +kernel))
theorem cs_MainLaw_84 : tp_CS "TypesAtPrimeLaw" 84 y_X11_key i_X11_key 2 := ⟨wd_1524, wd_12, by decide, by decide, by decide +kernel⟩
theorem wd_1521 : (.methodLink "TypesAtPrimeLaw" 84 ⟨"TypesAtPrimeModel", "key", "(II)J"⟩ : Cond) ∈ lw_tbl := List.mem_append_right _ (List.mem_of_getElem? (i := 1521) (by decide +kernel))
theorem wd_1522 : (.instanceMethod ⟨"TypesAtPrimeModel", "key", "(II)J"⟩ : Cond) ∈ lw_tbl := List.mem_append_right _ (List.mem_of_getElem? (i := 1522) (by decide +kernel))
theorem wd_1523 : (.selects "TypesAtPrimeModel" ⟨"TypesAtPrimeModel", "key", "(II)J"⟩ ⟨"TypesAtPrimeModel", "key", "(II)J"⟩ : Cond) ∈ lw_tbl := List.mem_append_right _ (List.mem_of_getElem? (i := 1523) (by decide +kernel))
theorem wd_843 : (.code ⟨"TypesAtPrime", "point", "(II)I"⟩ prog_1_method_18_code 4 (some .int) : Cond) ∈ lw_tbl := List.mem_append_right _ (List.mem_of_getElem? (i := 843) (by decide +kernel))
theorem cs_MainLaw_85 : tp_CS "TypesAtPrimeLaw" 85 y_X10_point i_X10_point 2 := ⟨wd_843, wd_1, by decide, by decide, by decide +kernel⟩
theorem wd_840 : (.methodLink "TypesAtPrimeLaw" 85 ⟨"TypesAtPrime", "point", "(II)I"⟩ : Cond) ∈ lw_tbl := List.mem_append_right _ (List.mem_of_getElem? (i := 840) (by decide +kernel))
theorem wd_841 : (.instanceMethod ⟨"TypesAtPrime", "point", "(II)I"⟩ : Cond) ∈ lw_tbl := List.mem_append_right _ (List.mem_of_getElem? (i := 841) (by decide +kernel))
theorem wd_842 : (.selects "TypesAtPrime" ⟨"TypesAtPrime", "point", "(II)I"⟩ ⟨"TypesAtPrime", "point", "(II)I"⟩ : Cond) ∈ lw_tbl := List.mem_append_right _ (List.mem_of_getElem? (i := 842) (by decide +kernel))
theorem wd_1528 : (.code ⟨"TypesAtPrimeModel", "point", "(II)I"⟩ prog_13_method_75_code 3 (some .int) : Cond) ∈ lw_tbl := List.mem_append_right _ (List.mem_of_getElem? (i := 1528) (by decide +kernel))
theorem cs_MainLaw_88 : tp_CS "TypesAtPrimeLaw" 88 y_X11_point i_X11_point 2 := ⟨wd_1528, wd_12, by decide, by decide, by decide +kernel⟩
theorem wd_1525 : (.methodLink "TypesAtPrimeLaw" 88 ⟨"TypesAtPrimeModel", "point", "(II)I"⟩ : Cond) ∈ lw_tbl := List.mem_append_right _ (List.mem_of_getElem? (i := 1525) (by decide +kernel))
theorem wd_1526 : (.instanceMethod ⟨"TypesAtPrimeModel", "point", "(II)I"⟩ : Cond) ∈ lw_tbl := List.mem_append_right _ (List.mem_of_getElem? (i := 1526) (by decide +kernel))
theorem wd_1527 : (.selects "TypesAtPrimeModel" ⟨"TypesAtPrimeModel", "point", "(II)I"⟩ ⟨"TypesAtPrimeModel", "point", "(II)I"⟩ : Cond) ∈ lw_tbl := List.mem_append_right _ (List.mem_of_getElem? (i := 1527) (by decide +kernel))
theorem wd_847 : (.code ⟨"TypesAtPrime", "side", "(III)I"⟩ prog_1_method_19_code 5 (some .int) : Cond) ∈ lw_tbl := List.mem_append_right _ (List.mem_of_getElem? (i := 847) (by decide +kernel))
theorem cs_MainLaw_89 : tp_CS "TypesAtPrimeLaw" 89 y_X10_side i_X10_side 3 := ⟨wd_847, wd_1, by decide, by decide, by decide +kernel⟩
theorem wd_844 : (.methodLink "TypesAtPrimeLaw" 89 ⟨"TypesAtPrime", "side", "(III)I"⟩ : Cond) ∈ lw_tbl := List.mem_append_right _ (List.mem_of_getElem? (i := 844) (by decide +kernel))
theorem wd_845 : (.instanceMethod ⟨"TypesAtPrime", "side", "(III)I"⟩ : Cond) ∈ lw_tbl := List.mem_append_right _ (List.mem_of_getElem? (i := 845) (by decide +kernel))
theorem wd_846 : (.selects "TypesAtPrime" ⟨"TypesAtPrime", "side", "(III)I"⟩ ⟨"TypesAtPrime", "side", "(III)I"⟩ : Cond) ∈ lw_tbl := List.mem_append_right _ (List.mem_of_getElem? (i := 846) (by decide +kernel))
theorem wd_1532 : (.code ⟨"TypesAtPrimeModel", "side", "(III)I"⟩ prog_13_method_77_code 5 (some .int) : Cond) ∈ lw_tbl := List.mem_append_right _ (List.mem_of_getElem? (i := 1532) (by decide +kernel))
theorem cs_MainLaw_92 : tp_CS "TypesAtPrimeLaw" 92 y_X11_side i_X11_side 3 := ⟨wd_1532, wd_12, by decide, by decide, by decide +kernel⟩
theorem wd_1529 : (.methodLink "TypesAtPrimeLaw" 92 ⟨"TypesAtPrimeModel", "side", "(III)I"⟩ : Cond) ∈ lw_tbl := List.mem_append_right _ (List.mem_of_getElem? (i := 1529) (by decide +kernel))
theorem wd_1530 : (.instanceMethod ⟨"TypesAtPrimeModel", "side", "(III)I"⟩ : Cond) ∈ lw_tbl := List.mem_append_right _ (List.mem_of_getElem? (i := 1530) (by decide +kernel))
theorem wd_1531 : (.selects "TypesAtPrimeModel" ⟨"TypesAtPrimeModel", "side", "(III)I"⟩ ⟨"TypesAtPrimeModel", "side", "(III)I"⟩ : Cond) ∈ lw_tbl := List.mem_append_right _ (List.mem_of_getElem? (i := 1531) (by decide +kernel))
theorem wd_852 : (.code ⟨"TypesAtPrime", "residual", "(III)I"⟩ prog_1_method_20_code 5 (some .int) : Cond) ∈ lw_tbl := List.mem_append_right _ (List.mem_of_getElem? (i := 852) (by decide +kernel))
theorem cs_MainLaw_93 : tp_CS "TypesAtPrimeLaw" 93 y_X10_residual i_X10_residual 3 := ⟨wd_852, wd_1, by decide, by decide, by decide +kernel⟩
theorem wd_849 : (.methodLink "TypesAtPrimeLaw" 93 ⟨"TypesAtPrime", "residual", "(III)I"⟩ : Cond) ∈ lw_tbl := List.mem_append_right _ (List.mem_of_getElem? (i := 849) (by decide +kernel))
theorem wd_850 : (.instanceMethod ⟨"TypesAtPrime", "residual", "(III)I"⟩ : Cond) ∈ lw_tbl := List.mem_append_right _ (List.mem_of_getElem? (i := 850) (by decide +kernel))
theorem wd_851 : (.selects "TypesAtPrime" ⟨"TypesAtPrime", "residual", "(III)I"⟩ ⟨"TypesAtPrime", "residual", "(III)I"⟩ : Cond) ∈ lw_tbl := List.mem_append_right _ (List.mem_of_getElem? (i := 851) (by decide +kernel))
theorem wd_1541 : (.code ⟨"TypesAtPrimeModel", "residual", "(III)I"⟩ prog_13_method_78_code 4 (some .int) : Cond) ∈ lw_tbl := List.mem_append_right _ (List.mem_of_getElem? (i := 1541) (by decide +kernel))
theorem cs_MainLaw_96 : tp_CS "TypesAtPrimeLaw" 96 y_X11_residual i_X11_residual 3 := ⟨wd_1541, wd_12, by decide, by decide, by decide +kernel⟩
theorem wd_1538 : (.methodLink "TypesAtPrimeLaw" 96 ⟨"TypesAtPrimeModel", "residual", "(III)I"⟩ : Cond) ∈ lw_tbl := List.mem_append_right _ (List.mem_of_getElem? (i := 1538) (by decide +kernel))
theorem wd_1539 : (.instanceMethod ⟨"TypesAtPrimeModel", "residual", "(III)I"⟩ : Cond) ∈ lw_tbl := List.mem_append_right _ (List.mem_of_getElem? (i := 1539) (by decide +kernel))
theorem wd_1540 : (.selects "TypesAtPrimeModel" ⟨"TypesAtPrimeModel", "residual", "(III)I"⟩ ⟨"TypesAtPrimeModel", "residual", "(III)I"⟩ : Cond) ∈ lw_tbl := List.mem_append_right _ (List.mem_of_getElem? (i := 1540) (by decide +kernel))
theorem wd_856 : (.code ⟨"TypesAtPrime", "monomial", "(III)I"⟩ prog_1_method_21_code 5 (some .int) : Cond) ∈ lw_tbl := List.mem_append_right _ (List.mem_of_getElem? (i := 856) (by decide +kernel))
theorem cs_MainLaw_97 : tp_CS "TypesAtPrimeLaw" 97 y_X10_monomial i_X10_monomial 3 := ⟨wd_856, wd_1, by decide, by decide, by decide +kernel⟩
theorem wd_853 : (.methodLink "TypesAtPrimeLaw" 97 ⟨"TypesAtPrime", "monomial", "(III)I"⟩ : Cond) ∈ lw_tbl := List.mem_append_right _ (List.mem_of_getElem? (i := 853) (by decide +kernel))
theorem wd_854 : (.instanceMethod ⟨"TypesAtPrime", "monomial", "(III)I"⟩ : Cond) ∈ lw_tbl := List.mem_append_right _ (List.mem_of_getElem? (i := 854) (by decide +kernel))
theorem wd_855 : (.selects "TypesAtPrime" ⟨"TypesAtPrime", "monomial", "(III)I"⟩ ⟨"TypesAtPrime", "monomial", "(III)I"⟩ : Cond) ∈ lw_tbl := List.mem_append_right _ (List.mem_of_getElem? (i := 855) (by decide +kernel))
theorem wd_1545 : (.code ⟨"TypesAtPrimeModel", "monomial", "(III)I"⟩ prog_13_method_79_code 4 (some .int) : Cond) ∈ lw_tbl := List.mem_append_right _ (List.mem_of_getElem? (i := 1545) (by decide +kernel))
theorem cs_MainLaw_100 : tp_CS "TypesAtPrimeLaw" 100 y_X11_monomial i_X11_monomial 3 := ⟨wd_1545, wd_12, by decide, by decide, by decide +kernel⟩
theorem wd_1542 : (.methodLink "TypesAtPrimeLaw" 100 ⟨"TypesAtPrimeModel", "monomial", "(III)I"⟩ : Cond) ∈ lw_tbl := List.mem_append_right _ (List.mem_of_getElem? (i := 1542) (by decide +kernel))
theorem wd_1543 : (.instanceMethod ⟨"TypesAtPrimeModel", "monomial", "(III)I"⟩ : Cond) ∈ lw_tbl := List.mem_append_right _ (List.mem_of_getElem? (i := 1543) (by decide +kernel))
theorem wd_1544 : (.selects "TypesAtPrimeModel" ⟨"TypesAtPrimeModel", "monomial", "(III)I"⟩ ⟨"TypesAtPrimeModel", "monomial", "(III)I"⟩ : Cond) ∈ lw_tbl := List.mem_append_right _ (List.mem_of_getElem? (i := 1544) (by decide +kernel))
theorem wd_860 : (.code ⟨"TypesAtPrime", "leaf", "(II)I"⟩ prog_1_method_22_code 4 (some .int) : Cond) ∈ lw_tbl := List.mem_append_right _ (List.mem_of_getElem? (i := 860) (by decide +kernel))
theorem cs_MainLaw_101 : tp_CS "TypesAtPrimeLaw" 101 y_X10_leaf i_X10_leaf 2 := ⟨wd_860, wd_1, by decide, by decide, by decide +kernel⟩
theorem wd_857 : (.methodLink "TypesAtPrimeLaw" 101 ⟨"TypesAtPrime", "leaf", "(II)I"⟩ : Cond) ∈ lw_tbl := List.mem_append_right _ (List.mem_of_getElem? (i := 857) (by decide +kernel))
theorem wd_858 : (.instanceMethod ⟨"TypesAtPrime", "leaf", "(II)I"⟩ : Cond) ∈ lw_tbl := List.mem_append_right _ (List.mem_of_getElem? (i := 858) (by decide +kernel))
theorem wd_859 : (.selects "TypesAtPrime" ⟨"TypesAtPrime", "leaf", "(II)I"⟩ ⟨"TypesAtPrime", "leaf", "(II)I"⟩ : Cond) ∈ lw_tbl := List.mem_append_right _ (List.mem_of_getElem? (i := 859) (by decide +kernel))
theorem wd_1549 : (.code ⟨"TypesAtPrimeModel", "leaf", "(II)I"⟩ prog_13_method_80_code 3 (some .int) : Cond) ∈ lw_tbl := List.mem_append_right _ (List.mem_of_getElem? (i := 1549) (by decide +kernel))
theorem cs_MainLaw_104 : tp_CS "TypesAtPrimeLaw" 104 y_X11_leaf i_X11_leaf 2 := ⟨wd_1549, wd_12, by decide, by decide, by decide +kernel⟩
theorem wd_1546 : (.methodLink "TypesAtPrimeLaw" 104 ⟨"TypesAtPrimeModel", "leaf", "(II)I"⟩ : Cond) ∈ lw_tbl := List.mem_append_right _ (List.mem_of_getElem? (i := 1546) (by decide +kernel))
theorem wd_1547 : (.instanceMethod ⟨"TypesAtPrimeModel", "leaf", "(II)I"⟩ : Cond) ∈ lw_tbl := List.mem_append_right _ (List.mem_of_getElem? (i := 1547) (by decide +kernel))
theorem wd_1548 : (.selects "TypesAtPrimeModel" ⟨"TypesAtPrimeModel", "leaf", "(II)I"⟩ ⟨"TypesAtPrimeModel", "leaf", "(II)I"⟩ : Cond) ∈ lw_tbl := List.mem_append_right _ (List.mem_of_getElem? (i := 1548) (by decide +kernel))
theorem wd_865 : (.code ⟨"TypesAtPrime", "spelling", "(I)I"⟩ prog_1_method_23_code 2 (some .int) : Cond) ∈ lw_tbl := List.mem_append_right _ (List.mem_of_getElem? (i := 865) (by decide +kernel))
theorem cs_MainLaw_105 : tp_CS "TypesAtPrimeLaw" 105 y_X10_spelling i_X10_spelling 1 := ⟨wd_865, wd_1, by decide, by decide, by decide +kernel⟩
theorem wd_862 : (.methodLink "TypesAtPrimeLaw" 105 ⟨"TypesAtPrime", "spelling", "(I)I"⟩ : Cond) ∈ lw_tbl := List.mem_append_right _ (List.mem_of_getElem? (i := 862) (by decide +kernel))
theorem wd_863 : (.instanceMethod ⟨"TypesAtPrime", "spelling", "(I)I"⟩ : Cond) ∈ lw_tbl := List.mem_append_right _ (List.mem_of_getElem? (i := 863) (by decide +kernel))
theorem wd_864 : (.selects "TypesAtPrime" ⟨"TypesAtPrime", "spelling", "(I)I"⟩ ⟨"TypesAtPrime", "spelling", "(I)I"⟩ : Cond) ∈ lw_tbl := List.mem_append_right _ (List.mem_of_getElem? (i := 864) (by decide +kernel))
theorem wd_1554 : (.code ⟨"TypesAtPrimeModel", "spelling", "(I)I"⟩ prog_13_method_81_code 2 (some .int) : Cond) ∈ lw_tbl := List.mem_append_right _ (List.mem_of_getElem? (i := 1554) (by decide +kernel))
theorem cs_MainLaw_108 : tp_CS "TypesAtPrimeLaw" 108 y_X11_spelling i_X11_spelling 1 := ⟨wd_1554, wd_12, by decide, by decide, by decide +kernel⟩
theorem wd_1551 : (.methodLink "TypesAtPrimeLaw" 108 ⟨"TypesAtPrimeModel", "spelling", "(I)I"⟩ : Cond) ∈ lw_tbl := List.mem_append_right _ (List.mem_of_getElem? (i := 1551) (by decide +kernel))
theorem wd_1552 : (.instanceMethod ⟨"TypesAtPrimeModel", "spelling", "(I)I"⟩ : Cond) ∈ lw_tbl := List.mem_append_right _ (List.mem_of_getElem? (i := 1552) (by decide +kernel))
theorem wd_1553 : (.selects "TypesAtPrimeModel" ⟨"TypesAtPrimeModel", "spelling", "(I)I"⟩ ⟨"TypesAtPrimeModel", "spelling", "(I)I"⟩ : Cond) ∈ lw_tbl := List.mem_append_right _ (List.mem_of_getElem? (i := 1553) (by decide +kernel))
theorem wd_869 : (.code ⟨"TypesAtPrime", "ask", "()I"⟩ prog_1_method_24_code 2 (some .int) : Cond) ∈ lw_tbl := List.mem_append_right _ (List.mem_of_getElem? (i := 869) (by decide +kernel))
theorem cs_MainLaw_109 : tp_CS "TypesAtPrimeLaw" 109 y_X10_ask i_X10_ask 0 := ⟨wd_869, wd_1, by decide, by decide, by decide +kernel⟩
theorem wd_866 : (.methodLink "TypesAtPrimeLaw" 109 ⟨"TypesAtPrime", "ask", "()I"⟩ : Cond) ∈ lw_tbl := List.mem_append_right _ (List.mem_of_getElem? (i := 866) (by decide +kernel))
theorem wd_867 : (.instanceMethod ⟨"TypesAtPrime", "ask", "()I"⟩ : Cond) ∈ lw_tbl := List.mem_append_right _ (List.mem_of_getElem? (i := 867) (by decide +kernel))
theorem wd_868 : (.selects "TypesAtPrime" ⟨"TypesAtPrime", "ask", "()I"⟩ ⟨"TypesAtPrime", "ask", "()I"⟩ : Cond) ∈ lw_tbl := List.mem_append_right _ (List.mem_of_getElem? (i := 868) (by decide +kernel))
theorem wd_1558 : (.code ⟨"TypesAtPrimeModel", "ask", "()I"⟩ prog_13_method_83_code 2 (some .int) : Cond) ∈ lw_tbl := List.mem_append_right _ (List.mem_of_getElem? (i := 1558) (by decide +kernel))
theorem cs_MainLaw_112 : tp_CS "TypesAtPrimeLaw" 112 y_X11_ask i_X11_ask 0 := ⟨wd_1558, wd_12, by decide, by decide, by decide +kernel⟩
theorem wd_1555 : (.methodLink "TypesAtPrimeLaw" 112 ⟨"TypesAtPrimeModel", "ask", "()I"⟩ : Cond) ∈ lw_tbl := List.mem_append_right _ (List.mem_of_getElem? (i := 1555) (by decide +kernel))
theorem wd_1556 : (.instanceMethod ⟨"TypesAtPrimeModel", "ask", "()I"⟩ : Cond) ∈ lw_tbl := List.mem_append_right _ (List.mem_of_getElem? (i := 1556) (by decide +kernel))
theorem wd_1557 : (.selects "TypesAtPrimeModel" ⟨"TypesAtPrimeModel", "ask", "()I"⟩ ⟨"TypesAtPrimeModel", "ask", "()I"⟩ : Cond) ∈ lw_tbl := List.mem_append_right _ (List.mem_of_getElem? (i := 1557) (by decide +kernel))
theorem wd_938 : (.code ⟨"TypesAtPrime", "corner", "(II)I"⟩ prog_1_method_25_code 6 (some .int) : Cond) ∈ lw_tbl := List.mem_append_right _ (List.mem_of_getElem? (i := 938) (by decide +kernel))
theorem cs_MainLaw_113 : tp_CS "TypesAtPrimeLaw" 113 y_X10_corner i_X10_corner 2 := ⟨wd_938, wd_1, by decide, by decide, by decide +kernel⟩
theorem wd_935 : (.methodLink "TypesAtPrimeLaw" 113 ⟨"TypesAtPrime", "corner", "(II)I"⟩ : Cond) ∈ lw_tbl := List.mem_append_right _ (List.mem_of_getElem? (i := 935) (by decide +kernel))
theorem wd_936 : (.instanceMethod ⟨"TypesAtPrime", "corner", "(II)I"⟩ : Cond) ∈ lw_tbl := List.mem_append_right _ (List.mem_of_getElem? (i := 936) (by decide +kernel))
theorem wd_937 : (.selects "TypesAtPrime" ⟨"TypesAtPrime", "corner", "(II)I"⟩ ⟨"TypesAtPrime", "corner", "(II)I"⟩ : Cond) ∈ lw_tbl := List.mem_append_right _ (List.mem_of_getElem? (i := 937) (by decide +kernel))
theorem wd_1579 : (.code ⟨"TypesAtPrimeModel", "corner", "(II)I"⟩ prog_13_method_87_code 5 (some .int) : Cond) ∈ lw_tbl := List.mem_append_right _ (List.mem_of_getElem? (i := 1579) (by decide +kernel))
theorem cs_MainLaw_116 : tp_CS "TypesAtPrimeLaw" 116 y_X11_corner i_X11_corner 2 := ⟨wd_1579, wd_12, by decide, by decide, by decide +kernel⟩
theorem wd_1576 : (.methodLink "TypesAtPrimeLaw" 116 ⟨"TypesAtPrimeModel", "corner", "(II)I"⟩ : Cond) ∈ lw_tbl := List.mem_append_right _ (List.mem_of_getElem? (i := 1576) (by decide +kernel))
theorem wd_1577 : (.instanceMethod ⟨"TypesAtPrimeModel", "corner", "(II)I"⟩ : Cond) ∈ lw_tbl := List.mem_append_right _ (List.mem_of_getElem? (i := 1577) (by decide +kernel))
theorem wd_1578 : (.selects "TypesAtPrimeModel" ⟨"TypesAtPrimeModel", "corner", "(II)I"⟩ ⟨"TypesAtPrimeModel", "corner", "(II)I"⟩ : Cond) ∈ lw_tbl := List.mem_append_right _ (List.mem_of_getElem? (i := 1578) (by decide +kernel))
theorem wd_960 : (.code ⟨"TypesAtPrime", "slope", "(IIII)J"⟩ prog_1_method_26_code 10 (some .long) : Cond) ∈ lw_tbl := List.mem_append_right _ (List.mem_of_getElem? (i := 960) (by decide +kernel))
theorem cs_MainLaw_117 : tp_CS "TypesAtPrimeLaw" 117 y_X10_slope i_X10_slope 4 := ⟨wd_960, wd_1, by decide, by decide, by decide +kernel⟩
theorem wd_957 : (.methodLink "TypesAtPrimeLaw" 117 ⟨"TypesAtPrime", "slope", "(IIII)J"⟩ : Cond) ∈ lw_tbl := List.mem_append_right _ (List.mem_of_getElem? (i := 957) (by decide +kernel))
theorem wd_958 : (.instanceMethod ⟨"TypesAtPrime", "slope", "(IIII)J"⟩ : Cond) ∈ lw_tbl := List.mem_append_right _ (List.mem_of_getElem? (i := 958) (by decide +kernel))
theorem wd_959 : (.selects "TypesAtPrime" ⟨"TypesAtPrime", "slope", "(IIII)J"⟩ ⟨"TypesAtPrime", "slope", "(IIII)J"⟩ : Cond) ∈ lw_tbl := List.mem_append_right _ (List.mem_of_getElem? (i := 959) (by decide +kernel))
theorem wd_1594 : (.code ⟨"TypesAtPrimeModel", "slope", "(IIII)J"⟩ prog_13_method_89_code 9 (some .long) : Cond) ∈ lw_tbl := List.mem_append_right _ (List.mem_of_getElem? (i := 1594) (by decide +kernel))
theorem cs_MainLaw_120 : tp_CS "TypesAtPrimeLaw" 120 y_X11_slope i_X11_slope 4 := ⟨wd_1594, wd_12, by decide, by decide, by decide +kernel⟩
theorem wd_1591 : (.methodLink "TypesAtPrimeLaw" 120 ⟨"TypesAtPrimeModel", "slope", "(IIII)J"⟩ : Cond) ∈ lw_tbl := List.mem_append_right _ (List.mem_of_getElem? (i := 1591) (by decide +kernel))
theorem wd_1592 : (.instanceMethod ⟨"TypesAtPrimeModel", "slope", "(IIII)J"⟩ : Cond) ∈ lw_tbl := List.mem_append_right _ (List.mem_of_getElem? (i := 1592) (by decide +kernel))
theorem wd_1593 : (.selects "TypesAtPrimeModel" ⟨"TypesAtPrimeModel", "slope", "(IIII)J"⟩ ⟨"TypesAtPrimeModel", "slope", "(IIII)J"⟩ : Cond) ∈ lw_tbl := List.mem_append_right _ (List.mem_of_getElem? (i := 1593) (by decide +kernel))
theorem cs_MainLaw_121 : tp_CS "TypesAtPrimeLaw" 121 y_X10_whyNot i_X10_whyNot 3 := ⟨wd_964, wd_1, by decide, by decide, by decide +kernel⟩
theorem wd_969 : (.methodLink "TypesAtPrimeLaw" 121 ⟨"TypesAtPrime", "whyNot", "(III)I"⟩ : Cond) ∈ lw_tbl := List.mem_append_right _ (List.mem_of_getElem? (i := 969) (by decide +kernel))
theorem wd_1602 : (.code ⟨"TypesAtPrimeModel", "whyNot", "(III)I"⟩ prog_13_method_90_code 4 (some .int) : Cond) ∈ lw_tbl := List.mem_append_right _ (List.mem_of_getElem? (i := 1602) (by decide +kernel))
theorem cs_MainLaw_124 : tp_CS "TypesAtPrimeLaw" 124 y_X11_whyNot i_X11_whyNot 3 := ⟨wd_1602, wd_12, by decide, by decide, by decide +kernel⟩
theorem wd_1599 : (.methodLink "TypesAtPrimeLaw" 124 ⟨"TypesAtPrimeModel", "whyNot", "(III)I"⟩ : Cond) ∈ lw_tbl := List.mem_append_right _ (List.mem_of_getElem? (i := 1599) (by decide +kernel))
theorem wd_1600 : (.instanceMethod ⟨"TypesAtPrimeModel", "whyNot", "(III)I"⟩ : Cond) ∈ lw_tbl := List.mem_append_right _ (List.mem_of_getElem? (i := 1600) (by decide +kernel))
theorem wd_1601 : (.selects "TypesAtPrimeModel" ⟨"TypesAtPrimeModel", "whyNot", "(III)I"⟩ ⟨"TypesAtPrimeModel", "whyNot", "(III)I"⟩ : Cond) ∈ lw_tbl := List.mem_append_right _ (List.mem_of_getElem? (i := 1601) (by decide +kernel))
theorem wd_973 : (.code ⟨"TypesAtPrime", "spill", "(III)I"⟩ prog_1_method_28_code 8 (some .int) : Cond) ∈ lw_tbl := List.mem_append_right _ (List.mem_of_getElem? (i := 973) (by decide +kernel))
theorem cs_MainLaw_125 : tp_CS "TypesAtPrimeLaw" 125 y_X10_spill i_X10_spill 3 := ⟨wd_973, wd_1, by decide, by decide, by decide +kernel⟩
theorem wd_970 : (.methodLink "TypesAtPrimeLaw" 125 ⟨"TypesAtPrime", "spill", "(III)I"⟩ : Cond) ∈ lw_tbl := List.mem_append_right _ (List.mem_of_getElem? (i := 970) (by decide +kernel))
theorem wd_971 : (.instanceMethod ⟨"TypesAtPrime", "spill", "(III)I"⟩ : Cond) ∈ lw_tbl := List.mem_append_right _ (List.mem_of_getElem? (i := 971) (by decide +kernel))
theorem wd_972 : (.selects "TypesAtPrime" ⟨"TypesAtPrime", "spill", "(III)I"⟩ ⟨"TypesAtPrime", "spill", "(III)I"⟩ : Cond) ∈ lw_tbl := List.mem_append_right _ (List.mem_of_getElem? (i := 972) (by decide +kernel))
theorem wd_1606 : (.code ⟨"TypesAtPrimeModel", "spill", "(III)I"⟩ prog_13_method_92_code 5 (some .int) : Cond) ∈ lw_tbl := List.mem_append_right _ (List.mem_of_getElem? (i := 1606) (by decide +kernel))
theorem cs_MainLaw_128 : tp_CS "TypesAtPrimeLaw" 128 y_X11_spill i_X11_spill 3 := ⟨wd_1606, wd_12, by decide, by decide, by decide +kernel⟩
theorem wd_1603 : (.methodLink "TypesAtPrimeLaw" 128 ⟨"TypesAtPrimeModel", "spill", "(III)I"⟩ : Cond) ∈ lw_tbl := List.mem_append_right _ (List.mem_of_getElem? (i := 1603) (by decide +kernel))
theorem wd_1604 : (.instanceMethod ⟨"TypesAtPrimeModel", "spill", "(III)I"⟩ : Cond) ∈ lw_tbl := List.mem_append_right _ (List.mem_of_getElem? (i := 1604) (by decide +kernel))
theorem wd_1605 : (.selects "TypesAtPrimeModel" ⟨"TypesAtPrimeModel", "spill", "(III)I"⟩ ⟨"TypesAtPrimeModel", "spill", "(III)I"⟩ : Cond) ∈ lw_tbl := List.mem_append_right _ (List.mem_of_getElem? (i := 1605) (by decide +kernel))
theorem wd_983 : (.code ⟨"TypesAtPrime", "sheet", "(III)I"⟩ prog_1_method_29_code 5 (some .int) : Cond) ∈ lw_tbl := List.mem_append_right _ (List.mem_of_getElem? (i := 983) (by decide +kernel))
theorem cs_MainLaw_129 : tp_CS "TypesAtPrimeLaw" 129 y_X10_sheet i_X10_sheet 3 := ⟨wd_983, wd_1, by decide, by decide, by decide +kernel⟩
theorem wd_980 : (.methodLink "TypesAtPrimeLaw" 129 ⟨"TypesAtPrime", "sheet", "(III)I"⟩ : Cond) ∈ lw_tbl := List.mem_append_right _ (List.mem_of_getElem? (i := 980) (by decide +kernel))
theorem wd_981 : (.instanceMethod ⟨"TypesAtPrime", "sheet", "(III)I"⟩ : Cond) ∈ lw_tbl := List.mem_append_right _ (List.mem_of_getElem? (i := 981) (by decide +kernel))
theorem wd_982 : (.selects "TypesAtPrime" ⟨"TypesAtPrime", "sheet", "(III)I"⟩ ⟨"TypesAtPrime", "sheet", "(III)I"⟩ : Cond) ∈ lw_tbl := List.mem_append_right _ (List.mem_of_getElem? (i := 982) (by decide +kernel))
theorem wd_1614 : (.code ⟨"TypesAtPrimeModel", "sheet", "(III)I"⟩ prog_13_method_93_code 5 (some .int) : Cond) ∈ lw_tbl := List.mem_append_right _ (List.mem_of_getElem? (i := 1614) (by decide +kernel))
theorem cs_MainLaw_132 : tp_CS "TypesAtPrimeLaw" 132 y_X11_sheet i_X11_sheet 3 := ⟨wd_1614, wd_12, by decide, by decide, by decide +kernel⟩
theorem wd_1611 : (.methodLink "TypesAtPrimeLaw" 132 ⟨"TypesAtPrimeModel", "sheet", "(III)I"⟩ : Cond) ∈ lw_tbl := List.mem_append_right _ (List.mem_of_getElem? (i := 1611) (by decide +kernel))
theorem wd_1612 : (.instanceMethod ⟨"TypesAtPrimeModel", "sheet", "(III)I"⟩ : Cond) ∈ lw_tbl := List.mem_append_right _ (List.mem_of_getElem? (i := 1612) (by decide +kernel))
theorem wd_1613 : (.selects "TypesAtPrimeModel" ⟨"TypesAtPrimeModel", "sheet", "(III)I"⟩ ⟨"TypesAtPrimeModel", "sheet", "(III)I"⟩ : Cond) ∈ lw_tbl := List.mem_append_right _ (List.mem_of_getElem? (i := 1613) (by decide +kernel))
theorem wd_992 : (.code ⟨"TypesAtPrime", "cell", "(III)I"⟩ prog_1_method_30_code 5 (some .int) : Cond) ∈ lw_tbl := List.mem_append_right _ (List.mem_of_getElem? (i := 992) (by decide +kernel))
theorem cs_MainLaw_133 : tp_CS "TypesAtPrimeLaw" 133 y_X10_cell i_X10_cell 3 := ⟨wd_992, wd_1, by decide, by decide, by decide +kernel⟩
theorem wd_989 : (.methodLink "TypesAtPrimeLaw" 133 ⟨"TypesAtPrime", "cell", "(III)I"⟩ : Cond) ∈ lw_tbl := List.mem_append_right _ (List.mem_of_getElem? (i := 989) (by decide +kernel))
theorem wd_990 : (.instanceMethod ⟨"TypesAtPrime", "cell", "(III)I"⟩ : Cond) ∈ lw_tbl := List.mem_append_right _ (List.mem_of_getElem? (i := 990) (by decide +kernel))
theorem wd_991 : (.selects "TypesAtPrime" ⟨"TypesAtPrime", "cell", "(III)I"⟩ ⟨"TypesAtPrime", "cell", "(III)I"⟩ : Cond) ∈ lw_tbl := List.mem_append_right _ (List.mem_of_getElem? (i := 991) (by decide +kernel))
theorem wd_1618 : (.code ⟨"TypesAtPrimeModel", "cell", "(III)I"⟩ prog_13_method_94_code 4 (some .int) : Cond) ∈ lw_tbl := List.mem_append_right _ (List.mem_of_getElem? (i := 1618) (by decide +kernel))
theorem cs_MainLaw_136 : tp_CS "TypesAtPrimeLaw" 136 y_X11_cell i_X11_cell 3 := ⟨wd_1618, wd_12, by decide, by decide, by decide +kernel⟩
theorem wd_1615 : (.methodLink "TypesAtPrimeLaw" 136 ⟨"TypesAtPrimeModel", "cell", "(III)I"⟩ : Cond) ∈ lw_tbl := List.mem_append_right _ (List.mem_of_getElem? (i := 1615) (by decide +kernel))
theorem wd_1616 : (.instanceMethod ⟨"TypesAtPrimeModel", "cell", "(III)I"⟩ : Cond) ∈ lw_tbl := List.mem_append_right _ (List.mem_of_getElem? (i := 1616) (by decide +kernel))
theorem wd_1617 : (.selects "TypesAtPrimeModel" ⟨"TypesAtPrimeModel", "cell", "(III)I"⟩ ⟨"TypesAtPrimeModel", "cell", "(III)I"⟩ : Cond) ∈ lw_tbl := List.mem_append_right _ (List.mem_of_getElem? (i := 1617) (by decide +kernel))
theorem wd_996 : (.code ⟨"TypesAtPrime", "item", "(II)J"⟩ prog_1_method_31_code 4 (some .long) : Cond) ∈ lw_tbl := List.mem_append_right _ (List.mem_of_getElem? (i := 996) (by decide +kernel))
theorem cs_MainLaw_137 : tp_CS "TypesAtPrimeLaw" 137 y_X10_item i_X10_item 2 := ⟨wd_996, wd_1, by decide, by decide, by decide +kernel⟩
theorem wd_993 : (.methodLink "TypesAtPrimeLaw" 137 ⟨"TypesAtPrime", "item", "(II)J"⟩ : Cond) ∈ lw_tbl := List.mem_append_right _ (List.mem_of_getElem? (i := 993) (by decide +kernel))
theorem wd_994 : (.instanceMethod ⟨"TypesAtPrime", "item", "(II)J"⟩ : Cond) ∈ lw_tbl := List.mem_append_right _ (List.mem_of_getElem? (i := 994) (by decide +kernel))
theorem wd_995 : (.selects "TypesAtPrime" ⟨"TypesAtPrime", "item", "(II)J"⟩ ⟨"TypesAtPrime", "item", "(II)J"⟩ : Cond) ∈ lw_tbl := List.mem_append_right _ (List.mem_of_getElem? (i := 995) (by decide +kernel))
theorem wd_1622 : (.code ⟨"TypesAtPrimeModel", "item", "(II)J"⟩ prog_13_method_95_code 3 (some .long) : Cond) ∈ lw_tbl := List.mem_append_right _ (List.mem_of_getElem? (i := 1622) (by decide +kernel))
theorem cs_MainLaw_140 : tp_CS "TypesAtPrimeLaw" 140 y_X11_item i_X11_item 2 := ⟨wd_1622, wd_12, by decide, by decide, by decide +kernel⟩
theorem wd_1619 : (.methodLink "TypesAtPrimeLaw" 140 ⟨"TypesAtPrimeModel", "item", "(II)J"⟩ : Cond) ∈ lw_tbl := List.mem_append_right _ (List.mem_of_getElem? (i := 1619) (by decide +kernel))
theorem wd_1620 : (.instanceMethod ⟨"TypesAtPrimeModel", "item", "(II)J"⟩ : Cond) ∈ lw_tbl := List.mem_append_right _ (List.mem_of_getElem? (i := 1620) (by decide +kernel))
theorem wd_1621 : (.selects "TypesAtPrimeModel" ⟨"TypesAtPrimeModel", "item", "(II)J"⟩ ⟨"TypesAtPrimeModel", "item", "(II)J"⟩ : Cond) ∈ lw_tbl := List.mem_append_right _ (List.mem_of_getElem? (i := 1621) (by decide +kernel))
theorem wd_1000 : (.code ⟨"TypesAtPrime", "shift", "(IIIII)I"⟩ prog_1_method_32_code 8 (some .int) : Cond) ∈ lw_tbl := List.mem_append_right _ (List.mem_of_getElem? (i := 1000) (by decide +kernel))
theorem cs_MainLaw_141 : tp_CS "TypesAtPrimeLaw" 141 y_X10_shift i_X10_shift 5 := ⟨wd_1000, wd_1, by decide, by decide, by decide +kernel⟩
theorem wd_997 : (.methodLink "TypesAtPrimeLaw" 141 ⟨"TypesAtPrime", "shift", "(IIIII)I"⟩ : Cond) ∈ lw_tbl := List.mem_append_right _ (List.mem_of_getElem? (i := 997) (by decide +kernel))
theorem wd_998 : (.instanceMethod ⟨"TypesAtPrime", "shift", "(IIIII)I"⟩ : Cond) ∈ lw_tbl := List.mem_append_right _ (List.mem_of_getElem? (i := 998) (by decide +kernel))
theorem wd_999 : (.selects "TypesAtPrime" ⟨"TypesAtPrime", "shift", "(IIIII)I"⟩ ⟨"TypesAtPrime", "shift", "(IIIII)I"⟩ : Cond) ∈ lw_tbl := List.mem_append_right _ (List.mem_of_getElem? (i := 999) (by decide +kernel))
theorem wd_1626 : (.code ⟨"TypesAtPrimeModel", "shift", "(IIIII)I"⟩ prog_13_method_96_code 9 (some .int) : Cond) ∈ lw_tbl := List.mem_append_right _ (List.mem_of_getElem? (i := 1626) (by decide +kernel))
theorem cs_MainLaw_144 : tp_CS "TypesAtPrimeLaw" 144 y_X11_shift i_X11_shift 5 := ⟨wd_1626, wd_12, by decide, by decide, by decide +kernel⟩
theorem wd_1623 : (.methodLink "TypesAtPrimeLaw" 144 ⟨"TypesAtPrimeModel", "shift", "(IIIII)I"⟩ : Cond) ∈ lw_tbl := List.mem_append_right _ (List.mem_of_getElem? (i := 1623) (by decide +kernel))
theorem wd_1624 : (.instanceMethod ⟨"TypesAtPrimeModel", "shift", "(IIIII)I"⟩ : Cond) ∈ lw_tbl := List.mem_append_right _ (List.mem_of_getElem? (i := 1624) (by decide +kernel))
theorem wd_1625 : (.selects "TypesAtPrimeModel" ⟨"TypesAtPrimeModel", "shift", "(IIIII)I"⟩ ⟨"TypesAtPrimeModel", "shift", "(IIIII)I"⟩ : Cond) ∈ lw_tbl := List.mem_append_right _ (List.mem_of_getElem? (i := 1625) (by decide +kernel))
theorem wd_1009 : (.code ⟨"TypesAtPrime", "count", "(I)I"⟩ prog_1_method_33_code 2 (some .int) : Cond) ∈ lw_tbl := List.mem_append_right _ (List.mem_of_getElem? (i := 1009) (by decide +kernel))
theorem cs_MainLaw_145 : tp_CS "TypesAtPrimeLaw" 145 y_X10_count i_X10_count 1 := ⟨wd_1009, wd_1, by decide, by decide, by decide +kernel⟩
theorem wd_1006 : (.methodLink "TypesAtPrimeLaw" 145 ⟨"TypesAtPrime", "count", "(I)I"⟩ : Cond) ∈ lw_tbl := List.mem_append_right _ (List.mem_of_getElem? (i := 1006) (by decide +kernel))
theorem wd_1007 : (.instanceMethod ⟨"TypesAtPrime", "count", "(I)I"⟩ : Cond) ∈ lw_tbl := List.mem_append_right _ (List.mem_of_getElem? (i := 1007) (by decide +kernel))
theorem wd_1008 : (.selects "TypesAtPrime" ⟨"TypesAtPrime", "count", "(I)I"⟩ ⟨"TypesAtPrime", "count", "(I)I"⟩ : Cond) ∈ lw_tbl := List.mem_append_right _ (List.mem_of_getElem? (i := 1008) (by decide +kernel))
theorem wd_1630 : (.code ⟨"TypesAtPrimeModel", "count", "(I)I"⟩ prog_13_method_97_code 4 (some .int) : Cond) ∈ lw_tbl := List.mem_append_right _ (List.mem_of_getElem? (i := 1630) (by decide +kernel))
theorem cs_MainLaw_148 : tp_CS "TypesAtPrimeLaw" 148 y_X11_count i_X11_count 1 := ⟨wd_1630, wd_12, by decide, by decide, by decide +kernel⟩
theorem wd_1627 : (.methodLink "TypesAtPrimeLaw" 148 ⟨"TypesAtPrimeModel", "count", "(I)I"⟩ : Cond) ∈ lw_tbl := List.mem_append_right _ (List.mem_of_getElem? (i := 1627) (by decide +kernel))
theorem wd_1628 : (.instanceMethod ⟨"TypesAtPrimeModel", "count", "(I)I"⟩ : Cond) ∈ lw_tbl := List.mem_append_right _ (List.mem_of_getElem? (i := 1628) (by decide +kernel))
theorem wd_1629 : (.selects "TypesAtPrimeModel" ⟨"TypesAtPrimeModel", "count", "(I)I"⟩ ⟨"TypesAtPrimeModel", "count", "(I)I"⟩ : Cond) ∈ lw_tbl := List.mem_append_right _ (List.mem_of_getElem? (i := 1629) (by decide +kernel))
def f_L_law_1330 (L : Int) (xs : Int → Int) (rec_18 : Int → tp_M → Option (Int × tp_M)) (x3 : Int) (M0 : tp_M) : Option (Int × tp_M) :=
  tp_lt (tp_w (x3 + 6)) fun y8 =>
  rec_18 y8 M0
set_option maxHeartbeats 4000000 in
set_option maxRecDepth 100000 in
theorem T_L_law_1330 (G : tp_G) (L : Int) (xs : Int → Int) (hL : (G.2.1 301 : Int) = L ∧ G.2.1 301 ≤ 3072) (hxs : ∀ i : Int, (Int32.ofNat (G.2.1 (302 + i.toNat))).toInt = xs i) (rec_18 : Int → tp_M → Option (Int × tp_M)) (x3 : Int) (M0 : tp_M) (hrec_18 : ∀ (x3' : Int) (M' : tp_M), tp_J i_L_law room_1 G 600000 7302250 o_L_law tp_NC (tp_st M') 535 8334 [some (.inr (.inr (-302))), some (.inr (.inr 0)), some (.inr (.inr 483)), some (.inl (x3'))] 18 [] (rec_18 x3' M')) : tp_J i_L_law room_1 G 600000 7302250 o_L_law tp_NC (tp_st M0) 535 8334 [some (.inr (.inr (-302))), some (.inr (.inr 0)), some (.inr (.inr 483)), some (.inl x3)] 1330 [] (f_L_law_1330 L xs rec_18 x3 M0) := by
  unfold f_L_law_1330
  refine j_iincN (lv' := fun y8 => [some (.inr (.inr (-302))), some (.inr (.inr 0)), some (.inr (.inr 483)), some (.inl y8)]) d_L_law_1330 rfl (Nat.le_of_ble_eq_true rfl) (fun _ => rfl) (fun y8 hy8 => ?_)
  refine j_goto (tgt := 18) d_L_law_1333 (by decide) ?_
  exact j_wk [true, true, true, true] rfl rfl (hrec_18 y8 M0)
def f_L_law_18B (L : Int) (xs : Int → Int) (rec_18 : Int → tp_M → Option (Int × tp_M)) (x3 : Int) (M0 : tp_M) : Option (Int × tp_M) :=
  if (tp_w (L - 6)) < x3 then
    some (1, M0)
  else
    if 0 ≤ x3 ∧ x3 < L then
      if (tp_and (xs x3) 31) = 0 then
        if 0 ≤ (tp_w (x3 + 1)) ∧ (tp_w (x3 + 1)) < L then
          (f_X10_prime (xs (tp_w (x3 + 1))) M0).bind fun r3 =>
          if 0 ≤ (tp_w (x3 + 1)) ∧ (tp_w (x3 + 1)) < L then
            (f_X11_prime (xs (tp_w (x3 + 1))) r3.2).bind fun r5 =>
            if r3.1 = r5.1 then
              f_L_law_1330 L xs rec_18 x3 r5.2
            else
              some (0, r5.2) else none else none
      else if (tp_and (xs x3) 31) = 1 then
        if 0 ≤ (tp_w (x3 + 1)) ∧ (tp_w (x3 + 1)) < L then
          (f_X10_feed (xs (tp_w (x3 + 1))) M0).bind fun r10 =>
          if 0 ≤ (tp_w (x3 + 1)) ∧ (tp_w (x3 + 1)) < L then
            (f_X11_feed (xs (tp_w (x3 + 1))) r10.2).bind fun r12 =>
            if r10.1 = r12.1 then
              f_L_law_1330 L xs rec_18 x3 r12.2
            else
              some (0, r12.2) else none else none
      else if (tp_and (xs x3) 31) = 2 then
        (f_X10_wipe M0).bind fun r16 =>
        (f_X11_wipe r16.2).bind fun r18 =>
        if r16.1 = r18.1 then
          f_L_law_1330 L xs rec_18 x3 r18.2
        else
          some (0, r18.2)
      else if (tp_and (xs x3) 31) = 3 then
        if 0 ≤ (tp_w (x3 + 1)) ∧ (tp_w (x3 + 1)) < L then
          (f_X10_text (xs (tp_w (x3 + 1))) M0).bind fun r22 =>
          if 0 ≤ (tp_w (x3 + 1)) ∧ (tp_w (x3 + 1)) < L then
            (f_X11_text (xs (tp_w (x3 + 1))) r22.2).bind fun r24 =>
            if r22.1 = r24.1 then
              f_L_law_1330 L xs rec_18 x3 r24.2
            else
              some (0, r24.2) else none else none
      else if (tp_and (xs x3) 31) = 4 then
        if 0 ≤ (tp_w (x3 + 1)) ∧ (tp_w (x3 + 1)) < L then
          if 0 ≤ (tp_w (x3 + 2)) ∧ (tp_w (x3 + 2)) < L then
            if 0 ≤ (tp_w (x3 + 3)) ∧ (tp_w (x3 + 3)) < L then
              (f_X10_set (xs (tp_w (x3 + 1))) (xs (tp_w (x3 + 2))) (xs (tp_w (x3 + 3))) M0).bind fun r28 =>
              if 0 ≤ (tp_w (x3 + 1)) ∧ (tp_w (x3 + 1)) < L then
                if 0 ≤ (tp_w (x3 + 2)) ∧ (tp_w (x3 + 2)) < L then
                  if 0 ≤ (tp_w (x3 + 3)) ∧ (tp_w (x3 + 3)) < L then
                    (f_X11_set (xs (tp_w (x3 + 1))) (xs (tp_w (x3 + 2))) (xs (tp_w (x3 + 3))) r28.2).bind fun r30 =>
                    if r28.1 = r30.1 then
                      f_L_law_1330 L xs rec_18 x3 r30.2
                    else
                      some (0, r30.2) else none else none else none else none else none else none
      else if (tp_and (xs x3) 31) = 5 then
        if 0 ≤ (tp_w (x3 + 1)) ∧ (tp_w (x3 + 1)) < L then
          if 0 ≤ (tp_w (x3 + 2)) ∧ (tp_w (x3 + 2)) < L then
            (f_X10_at (xs (tp_w (x3 + 1))) (xs (tp_w (x3 + 2))) M0).bind fun r34 =>
            if 0 ≤ (tp_w (x3 + 1)) ∧ (tp_w (x3 + 1)) < L then
              if 0 ≤ (tp_w (x3 + 2)) ∧ (tp_w (x3 + 2)) < L then
                (f_X11_at (xs (tp_w (x3 + 1))) (xs (tp_w (x3 + 2))) M0).bind fun r36 =>
                if r34 = r36 then
                  f_L_law_1330 L xs rec_18 x3 M0
                else
                  some (0, M0) else none else none else none else none
      else if (tp_and (xs x3) 31) = 6 then
        if 0 ≤ (tp_w (x3 + 1)) ∧ (tp_w (x3 + 1)) < L then
          if 0 ≤ (tp_w (x3 + 2)) ∧ (tp_w (x3 + 2)) < L then
            (f_X10_told (xs (tp_w (x3 + 1))) (xs (tp_w (x3 + 2))) M0).bind fun r40 =>
            if 0 ≤ (tp_w (x3 + 1)) ∧ (tp_w (x3 + 1)) < L then
              if 0 ≤ (tp_w (x3 + 2)) ∧ (tp_w (x3 + 2)) < L then
                (f_X11_told (xs (tp_w (x3 + 1))) (xs (tp_w (x3 + 2))) M0).bind fun r42 =>
                if r40 = r42 then
                  f_L_law_1330 L xs rec_18 x3 M0
                else
                  some (0, M0) else none else none else none else none
      else if (tp_and (xs x3) 31) = 7 then
        if 0 ≤ (tp_w (x3 + 1)) ∧ (tp_w (x3 + 1)) < L then
          if 0 ≤ (tp_w (x3 + 2)) ∧ (tp_w (x3 + 2)) < L then
            if 0 ≤ (tp_w (x3 + 3)) ∧ (tp_w (x3 + 3)) < L then
              if 0 ≤ (tp_w (x3 + 4)) ∧ (tp_w (x3 + 4)) < L then
                if 0 ≤ (tp_w (x3 + 5)) ∧ (tp_w (x3 + 5)) < L then
                  (f_X10_mix (xs (tp_w (x3 + 1))) (xs (tp_w (x3 + 2))) (xs (tp_w (x3 + 3))) (xs (tp_w (x3 + 4))) (xs (tp_w (x3 + 5))) M0).bind fun r46 =>
                  if 0 ≤ (tp_w (x3 + 1)) ∧ (tp_w (x3 + 1)) < L then
                    if 0 ≤ (tp_w (x3 + 2)) ∧ (tp_w (x3 + 2)) < L then
                      if 0 ≤ (tp_w (x3 + 3)) ∧ (tp_w (x3 + 3)) < L then
                        if 0 ≤ (tp_w (x3 + 4)) ∧ (tp_w (x3 + 4)) < L then
                          if 0 ≤ (tp_w (x3 + 5)) ∧ (tp_w (x3 + 5)) < L then
                            (f_X11_mix (xs (tp_w (x3 + 1))) (xs (tp_w (x3 + 2))) (xs (tp_w (x3 + 3))) (xs (tp_w (x3 + 4))) (xs (tp_w (x3 + 5))) r46.2).bind fun r48 =>
                            if r46.1 = r48.1 then
                              f_L_law_1330 L xs rec_18 x3 r48.2
                            else
                              some (0, r48.2) else none else none else none else none else none else none else none else none else none else none
      else if (tp_and (xs x3) 31) = 8 then
        if 0 ≤ (tp_w (x3 + 1)) ∧ (tp_w (x3 + 1)) < L then
          if 0 ≤ (tp_w (x3 + 2)) ∧ (tp_w (x3 + 2)) < L then
            if 0 ≤ (tp_w (x3 + 3)) ∧ (tp_w (x3 + 3)) < L then
              (f_X10_times (xs (tp_w (x3 + 1))) (xs (tp_w (x3 + 2))) (xs (tp_w (x3 + 3))) M0).bind fun r52 =>
              if 0 ≤ (tp_w (x3 + 1)) ∧ (tp_w (x3 + 1)) < L then
                if 0 ≤ (tp_w (x3 + 2)) ∧ (tp_w (x3 + 2)) < L then
                  if 0 ≤ (tp_w (x3 + 3)) ∧ (tp_w (x3 + 3)) < L then
                    (f_X11_times (xs (tp_w (x3 + 1))) (xs (tp_w (x3 + 2))) (xs (tp_w (x3 + 3))) r52.2).bind fun r54 =>
                    if r52.1 = r54.1 then
                      f_L_law_1330 L xs rec_18 x3 r54.2
                    else
                      some (0, r54.2) else none else none else none else none else none else none
      else if (tp_and (xs x3) 31) = 9 then
        if 0 ≤ (tp_w (x3 + 1)) ∧ (tp_w (x3 + 1)) < L then
          if 0 ≤ (tp_w (x3 + 2)) ∧ (tp_w (x3 + 2)) < L then
            (f_X10_worth (xs (tp_w (x3 + 1))) (xs (tp_w (x3 + 2))) M0).bind fun r58 =>
            if 0 ≤ (tp_w (x3 + 1)) ∧ (tp_w (x3 + 1)) < L then
              if 0 ≤ (tp_w (x3 + 2)) ∧ (tp_w (x3 + 2)) < L then
                (f_X11_worth (xs (tp_w (x3 + 1))) (xs (tp_w (x3 + 2))) M0).bind fun r60 =>
                if r58 = r60 then
                  f_L_law_1330 L xs rec_18 x3 M0
                else
                  some (0, M0) else none else none else none else none
      else if (tp_and (xs x3) 31) = 10 then
        if 0 ≤ (tp_w (x3 + 1)) ∧ (tp_w (x3 + 1)) < L then
          if 0 ≤ (tp_w (x3 + 2)) ∧ (tp_w (x3 + 2)) < L then
            if 0 ≤ (tp_w (x3 + 3)) ∧ (tp_w (x3 + 3)) < L then
              if 0 ≤ (tp_w (x3 + 4)) ∧ (tp_w (x3 + 4)) < L then
                (f_X10_expansion (xs (tp_w (x3 + 1))) (xs (tp_w (x3 + 2))) (xs (tp_w (x3 + 3))) (xs (tp_w (x3 + 4))) M0).bind fun r64 =>
                if 0 ≤ (tp_w (x3 + 1)) ∧ (tp_w (x3 + 1)) < L then
                  if 0 ≤ (tp_w (x3 + 2)) ∧ (tp_w (x3 + 2)) < L then
                    if 0 ≤ (tp_w (x3 + 3)) ∧ (tp_w (x3 + 3)) < L then
                      if 0 ≤ (tp_w (x3 + 4)) ∧ (tp_w (x3 + 4)) < L then
                        (f_X11_expansion (xs (tp_w (x3 + 1))) (xs (tp_w (x3 + 2))) (xs (tp_w (x3 + 3))) (xs (tp_w (x3 + 4))) r64.2).bind fun r66 =>
                        if r64.1 = r66.1 then
                          f_L_law_1330 L xs rec_18 x3 r66.2
                        else
                          some (0, r66.2) else none else none else none else none else none else none else none else none
      else if (tp_and (xs x3) 31) = 11 then
        if 0 ≤ (tp_w (x3 + 1)) ∧ (tp_w (x3 + 1)) < L then
          if 0 ≤ (tp_w (x3 + 2)) ∧ (tp_w (x3 + 2)) < L then
            if 0 ≤ (tp_w (x3 + 3)) ∧ (tp_w (x3 + 3)) < L then
              (f_X10_factor (xs (tp_w (x3 + 1))) (xs (tp_w (x3 + 2))) (xs (tp_w (x3 + 3))) M0).bind fun r70 =>
              if 0 ≤ (tp_w (x3 + 1)) ∧ (tp_w (x3 + 1)) < L then
                if 0 ≤ (tp_w (x3 + 2)) ∧ (tp_w (x3 + 2)) < L then
                  if 0 ≤ (tp_w (x3 + 3)) ∧ (tp_w (x3 + 3)) < L then
                    (f_X11_factor (xs (tp_w (x3 + 1))) (xs (tp_w (x3 + 2))) (xs (tp_w (x3 + 3))) r70.2).bind fun r72 =>
                    if r70.1 = r72.1 then
                      f_L_law_1330 L xs rec_18 x3 r72.2
                    else
                      some (0, r72.2) else none else none else none else none else none else none
      else if (tp_and (xs x3) 31) = 12 then
        if 0 ≤ (tp_w (x3 + 1)) ∧ (tp_w (x3 + 1)) < L then
          (f_X10_grow (xs (tp_w (x3 + 1))) M0).bind fun r76 =>
          if 0 ≤ (tp_w (x3 + 1)) ∧ (tp_w (x3 + 1)) < L then
            (f_X11_grow (xs (tp_w (x3 + 1))) r76.2).bind fun r78 =>
            if r76.1 = r78.1 then
              f_L_law_1330 L xs rec_18 x3 r78.2
            else
              some (0, r78.2) else none else none
      else if (tp_and (xs x3) 31) = 13 then
        if 0 ≤ (tp_w (x3 + 1)) ∧ (tp_w (x3 + 1)) < L then
          (f_X10_tree (xs (tp_w (x3 + 1))) M0).bind fun r82 =>
          if 0 ≤ (tp_w (x3 + 1)) ∧ (tp_w (x3 + 1)) < L then
            (f_X11_tree (xs (tp_w (x3 + 1))) M0).bind fun r84 =>
            if r82 = r84 then
              f_L_law_1330 L xs rec_18 x3 M0
            else
              some (0, M0) else none else none
      else if (tp_and (xs x3) 31) = 14 then
        if 0 ≤ (tp_w (x3 + 1)) ∧ (tp_w (x3 + 1)) < L then
          if 0 ≤ (tp_w (x3 + 2)) ∧ (tp_w (x3 + 2)) < L then
            (f_X10_knot (xs (tp_w (x3 + 1))) (xs (tp_w (x3 + 2))) M0).bind fun r88 =>
            if 0 ≤ (tp_w (x3 + 1)) ∧ (tp_w (x3 + 1)) < L then
              if 0 ≤ (tp_w (x3 + 2)) ∧ (tp_w (x3 + 2)) < L then
                (f_X11_knot (xs (tp_w (x3 + 1))) (xs (tp_w (x3 + 2))) M0).bind fun r90 =>
                if r88 = r90.1 then
                  f_L_law_1330 L xs rec_18 x3 r90.2
                else
                  some (0, r90.2) else none else none else none else none
      else if (tp_and (xs x3) 31) = 15 then
        if 0 ≤ (tp_w (x3 + 1)) ∧ (tp_w (x3 + 1)) < L then
          if 0 ≤ (tp_w (x3 + 2)) ∧ (tp_w (x3 + 2)) < L then
            (f_X10_key (xs (tp_w (x3 + 1))) (xs (tp_w (x3 + 2))) M0).bind fun r94 =>
            if 0 ≤ (tp_w (x3 + 1)) ∧ (tp_w (x3 + 1)) < L then
              if 0 ≤ (tp_w (x3 + 2)) ∧ (tp_w (x3 + 2)) < L then
                (f_X11_key (xs (tp_w (x3 + 1))) (xs (tp_w (x3 + 2))) M0).bind fun r96 =>
                if r94 = r96 then
                  f_L_law_1330 L xs rec_18 x3 M0
                else
                  some (0, M0) else none else none else none else none
      else if (tp_and (xs x3) 31) = 16 then
        if 0 ≤ (tp_w (x3 + 1)) ∧ (tp_w (x3 + 1)) < L then
          if 0 ≤ (tp_w (x3 + 2)) ∧ (tp_w (x3 + 2)) < L then
            (f_X10_point (xs (tp_w (x3 + 1))) (xs (tp_w (x3 + 2))) M0).bind fun r100 =>
            if 0 ≤ (tp_w (x3 + 1)) ∧ (tp_w (x3 + 1)) < L then
              if 0 ≤ (tp_w (x3 + 2)) ∧ (tp_w (x3 + 2)) < L then
                (f_X11_point (xs (tp_w (x3 + 1))) (xs (tp_w (x3 + 2))) M0).bind fun r102 =>
                if r100 = r102 then
                  f_L_law_1330 L xs rec_18 x3 M0
                else
                  some (0, M0) else none else none else none else none
      else if (tp_and (xs x3) 31) = 17 then
        if 0 ≤ (tp_w (x3 + 1)) ∧ (tp_w (x3 + 1)) < L then
          if 0 ≤ (tp_w (x3 + 2)) ∧ (tp_w (x3 + 2)) < L then
            if 0 ≤ (tp_w (x3 + 3)) ∧ (tp_w (x3 + 3)) < L then
              (f_X10_side (xs (tp_w (x3 + 1))) (xs (tp_w (x3 + 2))) (xs (tp_w (x3 + 3))) M0).bind fun r106 =>
              if 0 ≤ (tp_w (x3 + 1)) ∧ (tp_w (x3 + 1)) < L then
                if 0 ≤ (tp_w (x3 + 2)) ∧ (tp_w (x3 + 2)) < L then
                  if 0 ≤ (tp_w (x3 + 3)) ∧ (tp_w (x3 + 3)) < L then
                    (f_X11_side (xs (tp_w (x3 + 1))) (xs (tp_w (x3 + 2))) (xs (tp_w (x3 + 3))) M0).bind fun r108 =>
                    if r106 = r108 then
                      f_L_law_1330 L xs rec_18 x3 M0
                    else
                      some (0, M0) else none else none else none else none else none else none
      else if (tp_and (xs x3) 31) = 18 then
        if 0 ≤ (tp_w (x3 + 1)) ∧ (tp_w (x3 + 1)) < L then
          if 0 ≤ (tp_w (x3 + 2)) ∧ (tp_w (x3 + 2)) < L then
            if 0 ≤ (tp_w (x3 + 3)) ∧ (tp_w (x3 + 3)) < L then
              (f_X10_residual (xs (tp_w (x3 + 1))) (xs (tp_w (x3 + 2))) (xs (tp_w (x3 + 3))) M0).bind fun r112 =>
              if 0 ≤ (tp_w (x3 + 1)) ∧ (tp_w (x3 + 1)) < L then
                if 0 ≤ (tp_w (x3 + 2)) ∧ (tp_w (x3 + 2)) < L then
                  if 0 ≤ (tp_w (x3 + 3)) ∧ (tp_w (x3 + 3)) < L then
                    (f_X11_residual (xs (tp_w (x3 + 1))) (xs (tp_w (x3 + 2))) (xs (tp_w (x3 + 3))) M0).bind fun r114 =>
                    if r112 = r114 then
                      f_L_law_1330 L xs rec_18 x3 M0
                    else
                      some (0, M0) else none else none else none else none else none else none
      else if (tp_and (xs x3) 31) = 19 then
        if 0 ≤ (tp_w (x3 + 1)) ∧ (tp_w (x3 + 1)) < L then
          if 0 ≤ (tp_w (x3 + 2)) ∧ (tp_w (x3 + 2)) < L then
            if 0 ≤ (tp_w (x3 + 3)) ∧ (tp_w (x3 + 3)) < L then
              (f_X10_monomial (xs (tp_w (x3 + 1))) (xs (tp_w (x3 + 2))) (xs (tp_w (x3 + 3))) M0).bind fun r118 =>
              if 0 ≤ (tp_w (x3 + 1)) ∧ (tp_w (x3 + 1)) < L then
                if 0 ≤ (tp_w (x3 + 2)) ∧ (tp_w (x3 + 2)) < L then
                  if 0 ≤ (tp_w (x3 + 3)) ∧ (tp_w (x3 + 3)) < L then
                    (f_X11_monomial (xs (tp_w (x3 + 1))) (xs (tp_w (x3 + 2))) (xs (tp_w (x3 + 3))) M0).bind fun r120 =>
                    if r118 = r120 then
                      f_L_law_1330 L xs rec_18 x3 M0
                    else
                      some (0, M0) else none else none else none else none else none else none
      else if (tp_and (xs x3) 31) = 20 then
        if 0 ≤ (tp_w (x3 + 1)) ∧ (tp_w (x3 + 1)) < L then
          if 0 ≤ (tp_w (x3 + 2)) ∧ (tp_w (x3 + 2)) < L then
            (f_X10_leaf (xs (tp_w (x3 + 1))) (xs (tp_w (x3 + 2))) M0).bind fun r124 =>
            if 0 ≤ (tp_w (x3 + 1)) ∧ (tp_w (x3 + 1)) < L then
              if 0 ≤ (tp_w (x3 + 2)) ∧ (tp_w (x3 + 2)) < L then
                (f_X11_leaf (xs (tp_w (x3 + 1))) (xs (tp_w (x3 + 2))) M0).bind fun r126 =>
                if r124 = r126 then
                  f_L_law_1330 L xs rec_18 x3 M0
                else
                  some (0, M0) else none else none else none else none
      else if (tp_and (xs x3) 31) = 21 then
        if 0 ≤ (tp_w (x3 + 1)) ∧ (tp_w (x3 + 1)) < L then
          (f_X10_spelling (xs (tp_w (x3 + 1))) M0).bind fun r130 =>
          if 0 ≤ (tp_w (x3 + 1)) ∧ (tp_w (x3 + 1)) < L then
            (f_X11_spelling (xs (tp_w (x3 + 1))) M0).bind fun r132 =>
            if r130 = r132 then
              f_L_law_1330 L xs rec_18 x3 M0
            else
              some (0, M0) else none else none
      else if (tp_and (xs x3) 31) = 22 then
        (f_X10_ask M0).bind fun r136 =>
        (f_X11_ask r136.2).bind fun r138 =>
        if r136.1 = r138.1 then
          f_L_law_1330 L xs rec_18 x3 r138.2
        else
          some (0, r138.2)
      else if (tp_and (xs x3) 31) = 23 then
        if 0 ≤ (tp_w (x3 + 1)) ∧ (tp_w (x3 + 1)) < L then
          if 0 ≤ (tp_w (x3 + 2)) ∧ (tp_w (x3 + 2)) < L then
            (f_X10_corner (xs (tp_w (x3 + 1))) (xs (tp_w (x3 + 2))) M0).bind fun r142 =>
            if 0 ≤ (tp_w (x3 + 1)) ∧ (tp_w (x3 + 1)) < L then
              if 0 ≤ (tp_w (x3 + 2)) ∧ (tp_w (x3 + 2)) < L then
                (f_X11_corner (xs (tp_w (x3 + 1))) (xs (tp_w (x3 + 2))) r142.2).bind fun r144 =>
                if r142.1 = r144 then
                  f_L_law_1330 L xs rec_18 x3 r142.2
                else
                  some (0, r142.2) else none else none else none else none
      else if (tp_and (xs x3) 31) = 24 then
        if 0 ≤ (tp_w (x3 + 1)) ∧ (tp_w (x3 + 1)) < L then
          if 0 ≤ (tp_w (x3 + 2)) ∧ (tp_w (x3 + 2)) < L then
            if 0 ≤ (tp_w (x3 + 3)) ∧ (tp_w (x3 + 3)) < L then
              if 0 ≤ (tp_w (x3 + 4)) ∧ (tp_w (x3 + 4)) < L then
                (f_X10_slope (xs (tp_w (x3 + 1))) (xs (tp_w (x3 + 2))) (xs (tp_w (x3 + 3))) (xs (tp_w (x3 + 4))) M0).bind fun r148 =>
                if 0 ≤ (tp_w (x3 + 1)) ∧ (tp_w (x3 + 1)) < L then
                  if 0 ≤ (tp_w (x3 + 2)) ∧ (tp_w (x3 + 2)) < L then
                    if 0 ≤ (tp_w (x3 + 3)) ∧ (tp_w (x3 + 3)) < L then
                      if 0 ≤ (tp_w (x3 + 4)) ∧ (tp_w (x3 + 4)) < L then
                        (f_X11_slope (xs (tp_w (x3 + 1))) (xs (tp_w (x3 + 2))) (xs (tp_w (x3 + 3))) (xs (tp_w (x3 + 4))) M0).bind fun r150 =>
                        if r148 = r150 then
                          f_L_law_1330 L xs rec_18 x3 M0
                        else
                          some (0, M0) else none else none else none else none else none else none else none else none
      else if (tp_and (xs x3) 31) = 25 then
        if 0 ≤ (tp_w (x3 + 1)) ∧ (tp_w (x3 + 1)) < L then
          if 0 ≤ (tp_w (x3 + 2)) ∧ (tp_w (x3 + 2)) < L then
            if 0 ≤ (tp_w (x3 + 3)) ∧ (tp_w (x3 + 3)) < L then
              (f_X10_whyNot (xs (tp_w (x3 + 1))) (xs (tp_w (x3 + 2))) (xs (tp_w (x3 + 3))) M0).bind fun r154 =>
              if 0 ≤ (tp_w (x3 + 1)) ∧ (tp_w (x3 + 1)) < L then
                if 0 ≤ (tp_w (x3 + 2)) ∧ (tp_w (x3 + 2)) < L then
                  if 0 ≤ (tp_w (x3 + 3)) ∧ (tp_w (x3 + 3)) < L then
                    (f_X11_whyNot (xs (tp_w (x3 + 1))) (xs (tp_w (x3 + 2))) (xs (tp_w (x3 + 3))) M0).bind fun r156 =>
                    if r154 = r156 then
                      f_L_law_1330 L xs rec_18 x3 M0
                    else
                      some (0, M0) else none else none else none else none else none else none
      else if (tp_and (xs x3) 31) = 26 then
        if 0 ≤ (tp_w (x3 + 1)) ∧ (tp_w (x3 + 1)) < L then
          if 0 ≤ (tp_w (x3 + 2)) ∧ (tp_w (x3 + 2)) < L then
            if 0 ≤ (tp_w (x3 + 3)) ∧ (tp_w (x3 + 3)) < L then
              (f_X10_spill (xs (tp_w (x3 + 1))) (xs (tp_w (x3 + 2))) (xs (tp_w (x3 + 3))) M0).bind fun r160 =>
              if 0 ≤ (tp_w (x3 + 1)) ∧ (tp_w (x3 + 1)) < L then
                if 0 ≤ (tp_w (x3 + 2)) ∧ (tp_w (x3 + 2)) < L then
                  if 0 ≤ (tp_w (x3 + 3)) ∧ (tp_w (x3 + 3)) < L then
                    (f_X11_spill (xs (tp_w (x3 + 1))) (xs (tp_w (x3 + 2))) (xs (tp_w (x3 + 3))) r160.2).bind fun r162 =>
                    if r160.1 = r162.1 then
                      f_L_law_1330 L xs rec_18 x3 r162.2
                    else
                      some (0, r162.2) else none else none else none else none else none else none
      else if (tp_and (xs x3) 31) = 27 then
        if 0 ≤ (tp_w (x3 + 1)) ∧ (tp_w (x3 + 1)) < L then
          if 0 ≤ (tp_w (x3 + 2)) ∧ (tp_w (x3 + 2)) < L then
            if 0 ≤ (tp_w (x3 + 3)) ∧ (tp_w (x3 + 3)) < L then
              (f_X10_sheet (xs (tp_w (x3 + 1))) (xs (tp_w (x3 + 2))) (xs (tp_w (x3 + 3))) M0).bind fun r166 =>
              if 0 ≤ (tp_w (x3 + 1)) ∧ (tp_w (x3 + 1)) < L then
                if 0 ≤ (tp_w (x3 + 2)) ∧ (tp_w (x3 + 2)) < L then
                  if 0 ≤ (tp_w (x3 + 3)) ∧ (tp_w (x3 + 3)) < L then
                    (f_X11_sheet (xs (tp_w (x3 + 1))) (xs (tp_w (x3 + 2))) (xs (tp_w (x3 + 3))) r166.2).bind fun r168 =>
                    if r166.1 = r168.1 then
                      f_L_law_1330 L xs rec_18 x3 r168.2
                    else
                      some (0, r168.2) else none else none else none else none else none else none
      else if (tp_and (xs x3) 31) = 28 then
        if 0 ≤ (tp_w (x3 + 1)) ∧ (tp_w (x3 + 1)) < L then
          if 0 ≤ (tp_w (x3 + 2)) ∧ (tp_w (x3 + 2)) < L then
            if 0 ≤ (tp_w (x3 + 3)) ∧ (tp_w (x3 + 3)) < L then
              (f_X10_cell (xs (tp_w (x3 + 1))) (xs (tp_w (x3 + 2))) (xs (tp_w (x3 + 3))) M0).bind fun r172 =>
              if 0 ≤ (tp_w (x3 + 1)) ∧ (tp_w (x3 + 1)) < L then
                if 0 ≤ (tp_w (x3 + 2)) ∧ (tp_w (x3 + 2)) < L then
                  if 0 ≤ (tp_w (x3 + 3)) ∧ (tp_w (x3 + 3)) < L then
                    (f_X11_cell (xs (tp_w (x3 + 1))) (xs (tp_w (x3 + 2))) (xs (tp_w (x3 + 3))) r172.2).bind fun r174 =>
                    if r172.1 = r174.1 then
                      f_L_law_1330 L xs rec_18 x3 r174.2
                    else
                      some (0, r174.2) else none else none else none else none else none else none
      else if (tp_and (xs x3) 31) = 29 then
        if 0 ≤ (tp_w (x3 + 1)) ∧ (tp_w (x3 + 1)) < L then
          if 0 ≤ (tp_w (x3 + 2)) ∧ (tp_w (x3 + 2)) < L then
            (f_X10_item (xs (tp_w (x3 + 1))) (xs (tp_w (x3 + 2))) M0).bind fun r178 =>
            if 0 ≤ (tp_w (x3 + 1)) ∧ (tp_w (x3 + 1)) < L then
              if 0 ≤ (tp_w (x3 + 2)) ∧ (tp_w (x3 + 2)) < L then
                (f_X11_item (xs (tp_w (x3 + 1))) (xs (tp_w (x3 + 2))) M0).bind fun r180 =>
                if r178 = r180 then
                  f_L_law_1330 L xs rec_18 x3 M0
                else
                  some (0, M0) else none else none else none else none
      else if (tp_and (xs x3) 31) = 30 then
        if 0 ≤ (tp_w (x3 + 1)) ∧ (tp_w (x3 + 1)) < L then
          if 0 ≤ (tp_w (x3 + 2)) ∧ (tp_w (x3 + 2)) < L then
            if 0 ≤ (tp_w (x3 + 3)) ∧ (tp_w (x3 + 3)) < L then
              if 0 ≤ (tp_w (x3 + 4)) ∧ (tp_w (x3 + 4)) < L then
                if 0 ≤ (tp_w (x3 + 5)) ∧ (tp_w (x3 + 5)) < L then
                  (f_X10_shift (xs (tp_w (x3 + 1))) (xs (tp_w (x3 + 2))) (xs (tp_w (x3 + 3))) (xs (tp_w (x3 + 4))) (xs (tp_w (x3 + 5))) M0).bind fun r184 =>
                  if 0 ≤ (tp_w (x3 + 1)) ∧ (tp_w (x3 + 1)) < L then
                    if 0 ≤ (tp_w (x3 + 2)) ∧ (tp_w (x3 + 2)) < L then
                      if 0 ≤ (tp_w (x3 + 3)) ∧ (tp_w (x3 + 3)) < L then
                        if 0 ≤ (tp_w (x3 + 4)) ∧ (tp_w (x3 + 4)) < L then
                          if 0 ≤ (tp_w (x3 + 5)) ∧ (tp_w (x3 + 5)) < L then
                            (f_X11_shift (xs (tp_w (x3 + 1))) (xs (tp_w (x3 + 2))) (xs (tp_w (x3 + 3))) (xs (tp_w (x3 + 4))) (xs (tp_w (x3 + 5))) r184.2).bind fun r186 =>
                            if r184.1 = r186.1 then
                              f_L_law_1330 L xs rec_18 x3 r186.2
                            else
                              some (0, r186.2) else none else none else none else none else none else none else none else none else none else none
      else if (tp_and (xs x3) 31) = 31 then
        if 0 ≤ (tp_w (x3 + 1)) ∧ (tp_w (x3 + 1)) < L then
          (f_X10_count (xs (tp_w (x3 + 1))) M0).bind fun r190 =>
          if 0 ≤ (tp_w (x3 + 1)) ∧ (tp_w (x3 + 1)) < L then
            (f_X11_count (xs (tp_w (x3 + 1))) M0).bind fun r192 =>
            if r190 = r192 then
              f_L_law_1330 L xs rec_18 x3 M0
            else
              some (0, M0) else none else none
      else 
        f_L_law_1330 L xs rec_18 x3 M0 else none
set_option maxHeartbeats 4000000 in
set_option maxRecDepth 100000 in
theorem T_L_law_18B (G : tp_G) (L : Int) (xs : Int → Int) (hL : (G.2.1 301 : Int) = L ∧ G.2.1 301 ≤ 3072) (hxs : ∀ i : Int, (Int32.ofNat (G.2.1 (302 + i.toNat))).toInt = xs i) (rec_18 : Int → tp_M → Option (Int × tp_M)) (hrec_18 : ∀ (x3' : Int) (M' : tp_M), tp_J i_L_law room_1 G 600000 7302250 o_L_law tp_NC (tp_st M') 535 8334 [some (.inr (.inr (-302))), some (.inr (.inr 0)), some (.inr (.inr 483)), some (.inl (x3'))] 18 [] (rec_18 x3' M')) (x3 : Int) (M0 : tp_M) : tp_J i_L_law room_1 G 600000 7302250 o_L_law tp_NC (tp_st M0) 535 8334 [some (.inr (.inr (-302))), some (.inr (.inr 0)), some (.inr (.inr 483)), some (.inl x3)] 18 [] (f_L_law_18B L xs rec_18 x3 M0) := by
  unfold f_L_law_18B
  refine j_iload_n rfl d_L_law_18 rfl ?_
  refine j_aload_n rfl d_L_law_19 rfl ?_
  refine j_slenL hL d_L_law_20 ?_
  refine j_bipush ⟨by decide, by decide⟩ (by decide +kernel) d_L_law_21 ?_
  refine j_isub d_L_law_23 ?_
  refine j_icmp_gt (tgt := 1336) d_L_law_24 (by decide) (fun h1 => ?_) (fun h1 => ?_)
  · refine j_iconst ⟨by decide, by decide⟩ d_L_law_1336 ?_
    refine j_wid (k' := 600000) (q' := 7302250) (by decide) (by decide) ?_
    exact j_zret d_L_law_1337 rfl (Or.inr rfl) rfl ⟨rfl, rfl⟩
  · refine j_aload_n rfl d_L_law_27 rfl ?_
    refine j_iload_n rfl d_L_law_28 rfl ?_
    refine j_sldL hL hxs d_L_law_29 ?_
    refine j_bipush ⟨by decide, by decide⟩ (by decide +kernel) d_L_law_30 ?_
    refine j_iand d_L_law_32 ?_
    refine tp_ite (fun h2 => ?_) (fun h2 => ?_)
    · refine j_tsin (tgt := 176) d_L_law_33 (by omega) (by omega) (off := 143) (by rw [h2]; decide +kernel) (by decide) ?_
      refine j_aload_n rfl d_L_law_176 rfl ?_
      refine j_aload_n rfl d_L_law_177 rfl ?_
      refine j_iload_n rfl d_L_law_178 rfl ?_
      refine j_iconst ⟨by decide, by decide⟩ d_L_law_179 ?_
      refine j_iadd d_L_law_180 ?_
      refine j_sldL hL hxs d_L_law_181 ?_
      refine j_bind (fun r3 h4 => ?_)
      refine j_callV (y := y_X10_prime) (I' := i_X10_prime) (avs := [.inl (xs (tp_w (x3 + 1)))]) (c := 0) (st := []) (c_X10_prime G (xs (tp_w (x3 + 1))) M0 r3 h4) cs_MainLaw_13 wd_446 wd_447 wd_448 tg_0 rfl rfl rfl (Nat.le_of_ble_eq_true rfl) ⟨rfl, rfl⟩ ⟨by decide, by decide⟩ ⟨Nat.le_of_ble_eq_true rfl, Nat.le_of_ble_eq_true rfl⟩ d_L_law_182 ?_
      refine j_aload_n rfl d_L_law_185 rfl ?_
      refine j_aload_n rfl d_L_law_186 rfl ?_
      refine j_iload_n rfl d_L_law_187 rfl ?_
      refine j_iconst ⟨by decide, by decide⟩ d_L_law_188 ?_
      refine j_iadd d_L_law_189 ?_
      refine j_sldL hL hxs d_L_law_190 ?_
      refine j_bind (fun r5 h6 => ?_)
      refine j_callV (y := y_X11_prime) (I' := i_X11_prime) (avs := [.inl (xs (tp_w (x3 + 1)))]) (c := 483) (st := [.inl r3.1]) (c_X11_prime G (xs (tp_w (x3 + 1))) r3.2 r5 h6) cs_MainLaw_17 wd_1230 wd_1231 wd_1232 tg_483 rfl rfl rfl (Nat.le_of_ble_eq_true rfl) ⟨rfl, rfl⟩ ⟨by decide, by decide⟩ ⟨Nat.le_of_ble_eq_true rfl, Nat.le_of_ble_eq_true rfl⟩ d_L_law_191 ?_
      refine j_icmp_eq (tgt := 1330) d_L_law_194 (by decide) (fun h7 => ?_) (fun h7 => ?_)
      · exact j_wk [true, true, true, true] rfl rfl (T_L_law_1330 G L xs hL hxs rec_18 x3 r5.2 hrec_18)
      · refine j_iconst ⟨by decide, by decide⟩ d_L_law_197 ?_
        refine j_wid (k' := 600000) (q' := 7302250) (by decide) (by decide) ?_
        exact j_zret d_L_law_198 rfl (Or.inl rfl) rfl ⟨rfl, rfl⟩
    refine tp_ite (fun h9 => ?_) (fun h9 => ?_)
    · refine j_tsin (tgt := 199) d_L_law_33 (by omega) (by omega) (off := 166) (by rw [h9]; decide +kernel) (by decide) ?_
      refine j_aload_n rfl d_L_law_199 rfl ?_
      refine j_aload_n rfl d_L_law_200 rfl ?_
      refine j_iload_n rfl d_L_law_201 rfl ?_
      refine j_iconst ⟨by decide, by decide⟩ d_L_law_202 ?_
      refine j_iadd d_L_law_203 ?_
      refine j_sldL hL hxs d_L_law_204 ?_
      refine j_bind (fun r10 h11 => ?_)
      refine j_callV (y := y_X10_feed) (I' := i_X10_feed) (avs := [.inl (xs (tp_w (x3 + 1)))]) (c := 0) (st := []) (c_X10_feed G (xs (tp_w (x3 + 1))) M0 r10 h11) cs_MainLaw_18 wd_462 wd_463 wd_464 tg_0 rfl rfl rfl (Nat.le_of_ble_eq_true rfl) ⟨rfl, rfl⟩ ⟨by decide, by decide⟩ ⟨Nat.le_of_ble_eq_true rfl, Nat.le_of_ble_eq_true rfl⟩ d_L_law_205 ?_
      refine j_aload_n rfl d_L_law_208 rfl ?_
      refine j_aload_n rfl d_L_law_209 rfl ?_
      refine j_iload_n rfl d_L_law_210 rfl ?_
      refine j_iconst ⟨by decide, by decide⟩ d_L_law_211 ?_
      refine j_iadd d_L_law_212 ?_
      refine j_sldL hL hxs d_L_law_213 ?_
      refine j_bind (fun r12 h13 => ?_)
      refine j_callV (y := y_X11_feed) (I' := i_X11_feed) (avs := [.inl (xs (tp_w (x3 + 1)))]) (c := 483) (st := [.inl r10.1]) (c_X11_feed G (xs (tp_w (x3 + 1))) r10.2 r12 h13) cs_MainLaw_21 wd_1234 wd_1235 wd_1236 tg_483 rfl rfl rfl (Nat.le_of_ble_eq_true rfl) ⟨rfl, rfl⟩ ⟨by decide, by decide⟩ ⟨Nat.le_of_ble_eq_true rfl, Nat.le_of_ble_eq_true rfl⟩ d_L_law_214 ?_
      refine j_icmp_eq (tgt := 1330) d_L_law_217 (by decide) (fun h14 => ?_) (fun h14 => ?_)
      · exact j_wk [true, true, true, true] rfl rfl (T_L_law_1330 G L xs hL hxs rec_18 x3 r12.2 hrec_18)
      · refine j_iconst ⟨by decide, by decide⟩ d_L_law_220 ?_
        refine j_wid (k' := 600000) (q' := 7302250) (by decide) (by decide) ?_
        exact j_zret d_L_law_221 rfl (Or.inl rfl) rfl ⟨rfl, rfl⟩
    refine tp_ite (fun h15 => ?_) (fun h15 => ?_)
    · refine j_tsin (tgt := 222) d_L_law_33 (by omega) (by omega) (off := 189) (by rw [h15]; decide +kernel) (by decide) ?_
      refine j_aload_n rfl d_L_law_222 rfl ?_
      refine j_bind (fun r16 h17 => ?_)
      refine j_callV (y := y_X10_wipe) (I' := i_X10_wipe) (avs := []) (c := 0) (st := []) (c_X10_wipe G M0 r16 h17) cs_MainLaw_22 wd_466 wd_467 wd_468 tg_0 rfl rfl rfl (Nat.le_of_ble_eq_true rfl) ⟨rfl, rfl⟩ ⟨by decide, by decide⟩ ⟨Nat.le_of_ble_eq_true rfl, Nat.le_of_ble_eq_true rfl⟩ d_L_law_223 ?_
      refine j_aload_n rfl d_L_law_226 rfl ?_
      refine j_bind (fun r18 h19 => ?_)
      refine j_callV (y := y_X11_wipe) (I' := i_X11_wipe) (avs := []) (c := 483) (st := [.inl r16.1]) (c_X11_wipe G r16.2 r18 h19) cs_MainLaw_26 wd_1242 wd_1243 wd_1244 tg_483 rfl rfl rfl (Nat.le_of_ble_eq_true rfl) ⟨rfl, rfl⟩ ⟨by decide, by decide⟩ ⟨Nat.le_of_ble_eq_true rfl, Nat.le_of_ble_eq_true rfl⟩ d_L_law_227 ?_
      refine j_icmp_eq (tgt := 1330) d_L_law_230 (by decide) (fun h20 => ?_) (fun h20 => ?_)
      · exact j_wk [true, true, true, true] rfl rfl (T_L_law_1330 G L xs hL hxs rec_18 x3 r18.2 hrec_18)
      · refine j_iconst ⟨by decide, by decide⟩ d_L_law_233 ?_
        refine j_wid (k' := 600000) (q' := 7302250) (by decide) (by decide) ?_
        exact j_zret d_L_law_234 rfl (Or.inl rfl) rfl ⟨rfl, rfl⟩
    refine tp_ite (fun h21 => ?_) (fun h21 => ?_)
    · refine j_tsin (tgt := 235) d_L_law_33 (by omega) (by omega) (off := 202) (by rw [h21]; decide +kernel) (by decide) ?_
      refine j_aload_n rfl d_L_law_235 rfl ?_
      refine j_aload_n rfl d_L_law_236 rfl ?_
      refine j_iload_n rfl d_L_law_237 rfl ?_
      refine j_iconst ⟨by decide, by decide⟩ d_L_law_238 ?_
      refine j_iadd d_L_law_239 ?_
      refine j_sldL hL hxs d_L_law_240 ?_
      refine j_bind (fun r22 h23 => ?_)
      refine j_callV (y := y_X10_text) (I' := i_X10_text) (avs := [.inl (xs (tp_w (x3 + 1)))]) (c := 0) (st := []) (c_X10_text G (xs (tp_w (x3 + 1))) M0 r22 h23) cs_MainLaw_27 wd_470 wd_471 wd_472 tg_0 rfl rfl rfl (Nat.le_of_ble_eq_true rfl) ⟨rfl, rfl⟩ ⟨by decide, by decide⟩ ⟨Nat.le_of_ble_eq_true rfl, Nat.le_of_ble_eq_true rfl⟩ d_L_law_241 ?_
      refine j_aload_n rfl d_L_law_244 rfl ?_
      refine j_aload_n rfl d_L_law_245 rfl ?_
      refine j_iload_n rfl d_L_law_246 rfl ?_
      refine j_iconst ⟨by decide, by decide⟩ d_L_law_247 ?_
      refine j_iadd d_L_law_248 ?_
      refine j_sldL hL hxs d_L_law_249 ?_
      refine j_bind (fun r24 h25 => ?_)
      refine j_callV (y := y_X11_text) (I' := i_X11_text) (avs := [.inl (xs (tp_w (x3 + 1)))]) (c := 483) (st := [.inl r22.1]) (c_X11_text G (xs (tp_w (x3 + 1))) r22.2 r24 h25) cs_MainLaw_30 wd_1246 wd_1247 wd_1248 tg_483 rfl rfl rfl (Nat.le_of_ble_eq_true rfl) ⟨rfl, rfl⟩ ⟨by decide, by decide⟩ ⟨Nat.le_of_ble_eq_true rfl, Nat.le_of_ble_eq_true rfl⟩ d_L_law_250 ?_
      refine j_icmp_eq (tgt := 1330) d_L_law_253 (by decide) (fun h26 => ?_) (fun h26 => ?_)
      · exact j_wk [true, true, true, true] rfl rfl (T_L_law_1330 G L xs hL hxs rec_18 x3 r24.2 hrec_18)
      · refine j_iconst ⟨by decide, by decide⟩ d_L_law_256 ?_
        refine j_wid (k' := 600000) (q' := 7302250) (by decide) (by decide) ?_
        exact j_zret d_L_law_257 rfl (Or.inl rfl) rfl ⟨rfl, rfl⟩
    refine tp_ite (fun h27 => ?_) (fun h27 => ?_)
    · refine j_tsin (tgt := 258) d_L_law_33 (by omega) (by omega) (off := 225) (by rw [h27]; decide +kernel) (by decide) ?_
      refine j_aload_n rfl d_L_law_258 rfl ?_
      refine j_aload_n rfl d_L_law_259 rfl ?_
      refine j_iload_n rfl d_L_law_260 rfl ?_
      refine j_iconst ⟨by decide, by decide⟩ d_L_law_261 ?_
      refine j_iadd d_L_law_262 ?_
      refine j_sldL hL hxs d_L_law_263 ?_
      refine j_aload_n rfl d_L_law_264 rfl ?_
      refine j_iload_n rfl d_L_law_265 rfl ?_
      refine j_iconst ⟨by decide, by decide⟩ d_L_law_266 ?_
      refine j_iadd d_L_law_267 ?_
      refine j_sldL hL hxs d_L_law_268 ?_
      refine j_aload_n rfl d_L_law_269 rfl ?_
      refine j_iload_n rfl d_L_law_270 rfl ?_
      refine j_iconst ⟨by decide, by decide⟩ d_L_law_271 ?_
      refine j_iadd d_L_law_272 ?_
      refine j_sldL hL hxs d_L_law_273 ?_
      refine j_bind (fun r28 h29 => ?_)
      refine j_callV (y := y_X10_set) (I' := i_X10_set) (avs := [.inl (xs (tp_w (x3 + 1))), .inl (xs (tp_w (x3 + 2))), .inl (xs (tp_w (x3 + 3)))]) (c := 0) (st := []) (c_X10_set G (xs (tp_w (x3 + 1))) (xs (tp_w (x3 + 2))) (xs (tp_w (x3 + 3))) M0 r28 h29) cs_MainLaw_31 wd_519 wd_520 wd_521 tg_0 rfl rfl rfl (Nat.le_of_ble_eq_true rfl) ⟨rfl, rfl⟩ ⟨by decide, by decide⟩ ⟨Nat.le_of_ble_eq_true rfl, Nat.le_of_ble_eq_true rfl⟩ d_L_law_274 ?_
      refine j_aload_n rfl d_L_law_277 rfl ?_
      refine j_aload_n rfl d_L_law_278 rfl ?_
      refine j_iload_n rfl d_L_law_279 rfl ?_
      refine j_iconst ⟨by decide, by decide⟩ d_L_law_280 ?_
      refine j_iadd d_L_law_281 ?_
      refine j_sldL hL hxs d_L_law_282 ?_
      refine j_aload_n rfl d_L_law_283 rfl ?_
      refine j_iload_n rfl d_L_law_284 rfl ?_
      refine j_iconst ⟨by decide, by decide⟩ d_L_law_285 ?_
      refine j_iadd d_L_law_286 ?_
      refine j_sldL hL hxs d_L_law_287 ?_
      refine j_aload_n rfl d_L_law_288 rfl ?_
      refine j_iload_n rfl d_L_law_289 rfl ?_
      refine j_iconst ⟨by decide, by decide⟩ d_L_law_290 ?_
      refine j_iadd d_L_law_291 ?_
      refine j_sldL hL hxs d_L_law_292 ?_
      refine j_bind (fun r30 h31 => ?_)
      refine j_callV (y := y_X11_set) (I' := i_X11_set) (avs := [.inl (xs (tp_w (x3 + 1))), .inl (xs (tp_w (x3 + 2))), .inl (xs (tp_w (x3 + 3)))]) (c := 483) (st := [.inr (.inl r28.1)]) (c_X11_set G (xs (tp_w (x3 + 1))) (xs (tp_w (x3 + 2))) (xs (tp_w (x3 + 3))) r28.2 r30 h31) cs_MainLaw_35 wd_1298 wd_1299 wd_1300 tg_483 rfl rfl rfl (Nat.le_of_ble_eq_true rfl) ⟨rfl, rfl⟩ ⟨by decide, by decide⟩ ⟨Nat.le_of_ble_eq_true rfl, Nat.le_of_ble_eq_true rfl⟩ d_L_law_293 ?_
      refine j_lcmp_eq (tgt := 1330) d_L_law_296 rfl d_L_law_297 (by decide) (fun h32 => ?_) (fun h32 => ?_)
      · exact j_wk [true, true, true, true] rfl rfl (T_L_law_1330 G L xs hL hxs rec_18 x3 r30.2 hrec_18)
      · refine j_iconst ⟨by decide, by decide⟩ d_L_law_300 ?_
        refine j_wid (k' := 600000) (q' := 7302250) (by decide) (by decide) ?_
        exact j_zret d_L_law_301 rfl (Or.inl rfl) rfl ⟨rfl, rfl⟩
    refine tp_ite (fun h33 => ?_) (fun h33 => ?_)
    · refine j_tsin (tgt := 302) d_L_law_33 (by omega) (by omega) (off := 269) (by rw [h33]; decide +kernel) (by decide) ?_
      refine j_aload_n rfl d_L_law_302 rfl ?_
      refine j_aload_n rfl d_L_law_303 rfl ?_
      refine j_iload_n rfl d_L_law_304 rfl ?_
      refine j_iconst ⟨by decide, by decide⟩ d_L_law_305 ?_
      refine j_iadd d_L_law_306 ?_
      refine j_sldL hL hxs d_L_law_307 ?_
      refine j_aload_n rfl d_L_law_308 rfl ?_
      refine j_iload_n rfl d_L_law_309 rfl ?_
      refine j_iconst ⟨by decide, by decide⟩ d_L_law_310 ?_
      refine j_iadd d_L_law_311 ?_
      refine j_sldL hL hxs d_L_law_312 ?_
      refine j_bind (fun r34 h35 => ?_)
      refine j_callV (y := y_X10_at) (I' := i_X10_at) (avs := [.inl (xs (tp_w (x3 + 1))), .inl (xs (tp_w (x3 + 2)))]) (c := 0) (st := []) (c_X10_at G (xs (tp_w (x3 + 1))) (xs (tp_w (x3 + 2))) M0 r34 h35) cs_MainLaw_36 wd_527 wd_528 wd_529 tg_0 rfl rfl rfl (Nat.le_of_ble_eq_true rfl) ⟨rfl, rfl⟩ ⟨by decide, by decide⟩ ⟨Nat.le_of_ble_eq_true rfl, Nat.le_of_ble_eq_true rfl⟩ d_L_law_313 ?_
      refine j_aload_n rfl d_L_law_316 rfl ?_
      refine j_aload_n rfl d_L_law_317 rfl ?_
      refine j_iload_n rfl d_L_law_318 rfl ?_
      refine j_iconst ⟨by decide, by decide⟩ d_L_law_319 ?_
      refine j_iadd d_L_law_320 ?_
      refine j_sldL hL hxs d_L_law_321 ?_
      refine j_aload_n rfl d_L_law_322 rfl ?_
      refine j_iload_n rfl d_L_law_323 rfl ?_
      refine j_iconst ⟨by decide, by decide⟩ d_L_law_324 ?_
      refine j_iadd d_L_law_325 ?_
      refine j_sldL hL hxs d_L_law_326 ?_
      refine j_bind (fun r36 h37 => ?_)
      refine j_callV (y := y_X11_at) (I' := i_X11_at) (avs := [.inl (xs (tp_w (x3 + 1))), .inl (xs (tp_w (x3 + 2)))]) (c := 483) (st := [.inr (.inl r34)]) (c_X11_at G (xs (tp_w (x3 + 1))) (xs (tp_w (x3 + 2))) M0 r36 h37) cs_MainLaw_40 wd_1306 wd_1307 wd_1308 tg_483 rfl rfl rfl (Nat.le_of_ble_eq_true rfl) ⟨rfl, rfl⟩ ⟨by decide, by decide⟩ ⟨Nat.le_of_ble_eq_true rfl, Nat.le_of_ble_eq_true rfl⟩ d_L_law_327 ?_
      refine j_lcmp_eq (tgt := 1330) d_L_law_330 rfl d_L_law_331 (by decide) (fun h38 => ?_) (fun h38 => ?_)
      · exact j_wk [true, true, true, true] rfl rfl (T_L_law_1330 G L xs hL hxs rec_18 x3 M0 hrec_18)
      · refine j_iconst ⟨by decide, by decide⟩ d_L_law_334 ?_
        refine j_wid (k' := 600000) (q' := 7302250) (by decide) (by decide) ?_
        exact j_zret d_L_law_335 rfl (Or.inl rfl) rfl ⟨rfl, rfl⟩
    refine tp_ite (fun h39 => ?_) (fun h39 => ?_)
    · refine j_tsin (tgt := 336) d_L_law_33 (by omega) (by omega) (off := 303) (by rw [h39]; decide +kernel) (by decide) ?_
      refine j_aload_n rfl d_L_law_336 rfl ?_
      refine j_aload_n rfl d_L_law_337 rfl ?_
      refine j_iload_n rfl d_L_law_338 rfl ?_
      refine j_iconst ⟨by decide, by decide⟩ d_L_law_339 ?_
      refine j_iadd d_L_law_340 ?_
      refine j_sldL hL hxs d_L_law_341 ?_
      refine j_aload_n rfl d_L_law_342 rfl ?_
      refine j_iload_n rfl d_L_law_343 rfl ?_
      refine j_iconst ⟨by decide, by decide⟩ d_L_law_344 ?_
      refine j_iadd d_L_law_345 ?_
      refine j_sldL hL hxs d_L_law_346 ?_
      refine j_bind (fun r40 h41 => ?_)
      refine j_callV (y := y_X10_told) (I' := i_X10_told) (avs := [.inl (xs (tp_w (x3 + 1))), .inl (xs (tp_w (x3 + 2)))]) (c := 0) (st := []) (c_X10_told G (xs (tp_w (x3 + 1))) (xs (tp_w (x3 + 2))) M0 r40 h41) cs_MainLaw_41 wd_531 wd_532 wd_533 tg_0 rfl rfl rfl (Nat.le_of_ble_eq_true rfl) ⟨rfl, rfl⟩ ⟨by decide, by decide⟩ ⟨Nat.le_of_ble_eq_true rfl, Nat.le_of_ble_eq_true rfl⟩ d_L_law_347 ?_
      refine j_aload_n rfl d_L_law_350 rfl ?_
      refine j_aload_n rfl d_L_law_351 rfl ?_
      refine j_iload_n rfl d_L_law_352 rfl ?_
      refine j_iconst ⟨by decide, by decide⟩ d_L_law_353 ?_
      refine j_iadd d_L_law_354 ?_
      refine j_sldL hL hxs d_L_law_355 ?_
      refine j_aload_n rfl d_L_law_356 rfl ?_
      refine j_iload_n rfl d_L_law_357 rfl ?_
      refine j_iconst ⟨by decide, by decide⟩ d_L_law_358 ?_
      refine j_iadd d_L_law_359 ?_
      refine j_sldL hL hxs d_L_law_360 ?_
      refine j_bind (fun r42 h43 => ?_)
      refine j_callV (y := y_X11_told) (I' := i_X11_told) (avs := [.inl (xs (tp_w (x3 + 1))), .inl (xs (tp_w (x3 + 2)))]) (c := 483) (st := [.inl r40]) (c_X11_told G (xs (tp_w (x3 + 1))) (xs (tp_w (x3 + 2))) M0 r42 h43) cs_MainLaw_45 wd_1310 wd_1311 wd_1312 tg_483 rfl rfl rfl (Nat.le_of_ble_eq_true rfl) ⟨rfl, rfl⟩ ⟨by decide, by decide⟩ ⟨Nat.le_of_ble_eq_true rfl, Nat.le_of_ble_eq_true rfl⟩ d_L_law_361 ?_
      refine j_icmp_eq (tgt := 1330) d_L_law_364 (by decide) (fun h44 => ?_) (fun h44 => ?_)
      · exact j_wk [true, true, true, true] rfl rfl (T_L_law_1330 G L xs hL hxs rec_18 x3 M0 hrec_18)
      · refine j_iconst ⟨by decide, by decide⟩ d_L_law_367 ?_
        refine j_wid (k' := 600000) (q' := 7302250) (by decide) (by decide) ?_
        exact j_zret d_L_law_368 rfl (Or.inl rfl) rfl ⟨rfl, rfl⟩
    refine tp_ite (fun h45 => ?_) (fun h45 => ?_)
    · refine j_tsin (tgt := 369) d_L_law_33 (by omega) (by omega) (off := 336) (by rw [h45]; decide +kernel) (by decide) ?_
      refine j_aload_n rfl d_L_law_369 rfl ?_
      refine j_aload_n rfl d_L_law_370 rfl ?_
      refine j_iload_n rfl d_L_law_371 rfl ?_
      refine j_iconst ⟨by decide, by decide⟩ d_L_law_372 ?_
      refine j_iadd d_L_law_373 ?_
      refine j_sldL hL hxs d_L_law_374 ?_
      refine j_aload_n rfl d_L_law_375 rfl ?_
      refine j_iload_n rfl d_L_law_376 rfl ?_
      refine j_iconst ⟨by decide, by decide⟩ d_L_law_377 ?_
      refine j_iadd d_L_law_378 ?_
      refine j_sldL hL hxs d_L_law_379 ?_
      refine j_aload_n rfl d_L_law_380 rfl ?_
      refine j_iload_n rfl d_L_law_381 rfl ?_
      refine j_iconst ⟨by decide, by decide⟩ d_L_law_382 ?_
      refine j_iadd d_L_law_383 ?_
      refine j_sldL hL hxs d_L_law_384 ?_
      refine j_aload_n rfl d_L_law_385 rfl ?_
      refine j_iload_n rfl d_L_law_386 rfl ?_
      refine j_iconst ⟨by decide, by decide⟩ d_L_law_387 ?_
      refine j_iadd d_L_law_388 ?_
      refine j_sldL hL hxs d_L_law_389 ?_
      refine j_aload_n rfl d_L_law_390 rfl ?_
      refine j_iload_n rfl d_L_law_391 rfl ?_
      refine j_iconst ⟨by decide, by decide⟩ d_L_law_392 ?_
      refine j_iadd d_L_law_393 ?_
      refine j_sldL hL hxs d_L_law_394 ?_
      refine j_bind (fun r46 h47 => ?_)
      refine j_callV (y := y_X10_mix) (I' := i_X10_mix) (avs := [.inl (xs (tp_w (x3 + 1))), .inl (xs (tp_w (x3 + 2))), .inl (xs (tp_w (x3 + 3))), .inl (xs (tp_w (x3 + 4))), .inl (xs (tp_w (x3 + 5)))]) (c := 0) (st := []) (c_X10_mix G (xs (tp_w (x3 + 1))) (xs (tp_w (x3 + 2))) (xs (tp_w (x3 + 3))) (xs (tp_w (x3 + 4))) (xs (tp_w (x3 + 5))) M0 r46 h47) cs_MainLaw_46 wd_539 wd_540 wd_541 tg_0 rfl rfl rfl (Nat.le_of_ble_eq_true rfl) ⟨rfl, rfl⟩ ⟨by decide, by decide⟩ ⟨Nat.le_of_ble_eq_true rfl, Nat.le_of_ble_eq_true rfl⟩ d_L_law_395 ?_
      refine j_aload_n rfl d_L_law_398 rfl ?_
      refine j_aload_n rfl d_L_law_399 rfl ?_
      refine j_iload_n rfl d_L_law_400 rfl ?_
      refine j_iconst ⟨by decide, by decide⟩ d_L_law_401 ?_
      refine j_iadd d_L_law_402 ?_
      refine j_sldL hL hxs d_L_law_403 ?_
      refine j_aload_n rfl d_L_law_404 rfl ?_
      refine j_iload_n rfl d_L_law_405 rfl ?_
      refine j_iconst ⟨by decide, by decide⟩ d_L_law_406 ?_
      refine j_iadd d_L_law_407 ?_
      refine j_sldL hL hxs d_L_law_408 ?_
      refine j_aload_n rfl d_L_law_409 rfl ?_
      refine j_iload_n rfl d_L_law_410 rfl ?_
      refine j_iconst ⟨by decide, by decide⟩ d_L_law_411 ?_
      refine j_iadd d_L_law_412 ?_
      refine j_sldL hL hxs d_L_law_413 ?_
      refine j_aload_n rfl d_L_law_414 rfl ?_
      refine j_iload_n rfl d_L_law_415 rfl ?_
      refine j_iconst ⟨by decide, by decide⟩ d_L_law_416 ?_
      refine j_iadd d_L_law_417 ?_
      refine j_sldL hL hxs d_L_law_418 ?_
      refine j_aload_n rfl d_L_law_419 rfl ?_
      refine j_iload_n rfl d_L_law_420 rfl ?_
      refine j_iconst ⟨by decide, by decide⟩ d_L_law_421 ?_
      refine j_iadd d_L_law_422 ?_
      refine j_sldL hL hxs d_L_law_423 ?_
      refine j_bind (fun r48 h49 => ?_)
      refine j_callV (y := y_X11_mix) (I' := i_X11_mix) (avs := [.inl (xs (tp_w (x3 + 1))), .inl (xs (tp_w (x3 + 2))), .inl (xs (tp_w (x3 + 3))), .inl (xs (tp_w (x3 + 4))), .inl (xs (tp_w (x3 + 5)))]) (c := 483) (st := [.inl r46.1]) (c_X11_mix G (xs (tp_w (x3 + 1))) (xs (tp_w (x3 + 2))) (xs (tp_w (x3 + 3))) (xs (tp_w (x3 + 4))) (xs (tp_w (x3 + 5))) r46.2 r48 h49) cs_MainLaw_50 wd_1318 wd_1319 wd_1320 tg_483 rfl rfl rfl (Nat.le_of_ble_eq_true rfl) ⟨rfl, rfl⟩ ⟨by decide, by decide⟩ ⟨Nat.le_of_ble_eq_true rfl, Nat.le_of_ble_eq_true rfl⟩ d_L_law_424 ?_
      refine j_icmp_eq (tgt := 1330) d_L_law_427 (by decide) (fun h50 => ?_) (fun h50 => ?_)
      · exact j_wk [true, true, true, true] rfl rfl (T_L_law_1330 G L xs hL hxs rec_18 x3 r48.2 hrec_18)
      · refine j_iconst ⟨by decide, by decide⟩ d_L_law_430 ?_
        refine j_wid (k' := 600000) (q' := 7302250) (by decide) (by decide) ?_
        exact j_zret d_L_law_431 rfl (Or.inl rfl) rfl ⟨rfl, rfl⟩
    refine tp_ite (fun h51 => ?_) (fun h51 => ?_)
    · refine j_tsin (tgt := 432) d_L_law_33 (by omega) (by omega) (off := 399) (by rw [h51]; decide +kernel) (by decide) ?_
      refine j_aload_n rfl d_L_law_432 rfl ?_
      refine j_aload_n rfl d_L_law_433 rfl ?_
      refine j_iload_n rfl d_L_law_434 rfl ?_
      refine j_iconst ⟨by decide, by decide⟩ d_L_law_435 ?_
      refine j_iadd d_L_law_436 ?_
      refine j_sldL hL hxs d_L_law_437 ?_
      refine j_aload_n rfl d_L_law_438 rfl ?_
      refine j_iload_n rfl d_L_law_439 rfl ?_
      refine j_iconst ⟨by decide, by decide⟩ d_L_law_440 ?_
      refine j_iadd d_L_law_441 ?_
      refine j_sldL hL hxs d_L_law_442 ?_
      refine j_aload_n rfl d_L_law_443 rfl ?_
      refine j_iload_n rfl d_L_law_444 rfl ?_
      refine j_iconst ⟨by decide, by decide⟩ d_L_law_445 ?_
      refine j_iadd d_L_law_446 ?_
      refine j_sldL hL hxs d_L_law_447 ?_
      refine j_bind (fun r52 h53 => ?_)
      refine j_callV (y := y_X10_times) (I' := i_X10_times) (avs := [.inl (xs (tp_w (x3 + 1))), .inl (xs (tp_w (x3 + 2))), .inl (xs (tp_w (x3 + 3)))]) (c := 0) (st := []) (c_X10_times G (xs (tp_w (x3 + 1))) (xs (tp_w (x3 + 2))) (xs (tp_w (x3 + 3))) M0 r52 h53) cs_MainLaw_51 wd_543 wd_544 wd_545 tg_0 rfl rfl rfl (Nat.le_of_ble_eq_true rfl) ⟨rfl, rfl⟩ ⟨by decide, by decide⟩ ⟨Nat.le_of_ble_eq_true rfl, Nat.le_of_ble_eq_true rfl⟩ d_L_law_448 ?_
      refine j_aload_n rfl d_L_law_451 rfl ?_
      refine j_aload_n rfl d_L_law_452 rfl ?_
      refine j_iload_n rfl d_L_law_453 rfl ?_
      refine j_iconst ⟨by decide, by decide⟩ d_L_law_454 ?_
      refine j_iadd d_L_law_455 ?_
      refine j_sldL hL hxs d_L_law_456 ?_
      refine j_aload_n rfl d_L_law_457 rfl ?_
      refine j_iload_n rfl d_L_law_458 rfl ?_
      refine j_iconst ⟨by decide, by decide⟩ d_L_law_459 ?_
      refine j_iadd d_L_law_460 ?_
      refine j_sldL hL hxs d_L_law_461 ?_
      refine j_aload_n rfl d_L_law_462 rfl ?_
      refine j_iload_n rfl d_L_law_463 rfl ?_
      refine j_iconst ⟨by decide, by decide⟩ d_L_law_464 ?_
      refine j_iadd d_L_law_465 ?_
      refine j_sldL hL hxs d_L_law_466 ?_
      refine j_bind (fun r54 h55 => ?_)
      refine j_callV (y := y_X11_times) (I' := i_X11_times) (avs := [.inl (xs (tp_w (x3 + 1))), .inl (xs (tp_w (x3 + 2))), .inl (xs (tp_w (x3 + 3)))]) (c := 483) (st := [.inl r52.1]) (c_X11_times G (xs (tp_w (x3 + 1))) (xs (tp_w (x3 + 2))) (xs (tp_w (x3 + 3))) r52.2 r54 h55) cs_MainLaw_55 wd_1322 wd_1323 wd_1324 tg_483 rfl rfl rfl (Nat.le_of_ble_eq_true rfl) ⟨rfl, rfl⟩ ⟨by decide, by decide⟩ ⟨Nat.le_of_ble_eq_true rfl, Nat.le_of_ble_eq_true rfl⟩ d_L_law_467 ?_
      refine j_icmp_eq (tgt := 1330) d_L_law_470 (by decide) (fun h56 => ?_) (fun h56 => ?_)
      · exact j_wk [true, true, true, true] rfl rfl (T_L_law_1330 G L xs hL hxs rec_18 x3 r54.2 hrec_18)
      · refine j_iconst ⟨by decide, by decide⟩ d_L_law_473 ?_
        refine j_wid (k' := 600000) (q' := 7302250) (by decide) (by decide) ?_
        exact j_zret d_L_law_474 rfl (Or.inl rfl) rfl ⟨rfl, rfl⟩
    refine tp_ite (fun h57 => ?_) (fun h57 => ?_)
    · refine j_tsin (tgt := 475) d_L_law_33 (by omega) (by omega) (off := 442) (by rw [h57]; decide +kernel) (by decide) ?_
      refine j_aload_n rfl d_L_law_475 rfl ?_
      refine j_aload_n rfl d_L_law_476 rfl ?_
      refine j_iload_n rfl d_L_law_477 rfl ?_
      refine j_iconst ⟨by decide, by decide⟩ d_L_law_478 ?_
      refine j_iadd d_L_law_479 ?_
      refine j_sldL hL hxs d_L_law_480 ?_
      refine j_aload_n rfl d_L_law_481 rfl ?_
      refine j_iload_n rfl d_L_law_482 rfl ?_
      refine j_iconst ⟨by decide, by decide⟩ d_L_law_483 ?_
      refine j_iadd d_L_law_484 ?_
      refine j_sldL hL hxs d_L_law_485 ?_
      refine j_bind (fun r58 h59 => ?_)
      refine j_callV (y := y_X10_worth) (I' := i_X10_worth) (avs := [.inl (xs (tp_w (x3 + 1))), .inl (xs (tp_w (x3 + 2)))]) (c := 0) (st := []) (c_X10_worth G (xs (tp_w (x3 + 1))) (xs (tp_w (x3 + 2))) M0 r58 h59) cs_MainLaw_56 wd_550 wd_551 wd_552 tg_0 rfl rfl rfl (Nat.le_of_ble_eq_true rfl) ⟨rfl, rfl⟩ ⟨by decide, by decide⟩ ⟨Nat.le_of_ble_eq_true rfl, Nat.le_of_ble_eq_true rfl⟩ d_L_law_486 ?_
      refine j_aload_n rfl d_L_law_489 rfl ?_
      refine j_aload_n rfl d_L_law_490 rfl ?_
      refine j_iload_n rfl d_L_law_491 rfl ?_
      refine j_iconst ⟨by decide, by decide⟩ d_L_law_492 ?_
      refine j_iadd d_L_law_493 ?_
      refine j_sldL hL hxs d_L_law_494 ?_
      refine j_aload_n rfl d_L_law_495 rfl ?_
      refine j_iload_n rfl d_L_law_496 rfl ?_
      refine j_iconst ⟨by decide, by decide⟩ d_L_law_497 ?_
      refine j_iadd d_L_law_498 ?_
      refine j_sldL hL hxs d_L_law_499 ?_
      refine j_bind (fun r60 h61 => ?_)
      refine j_callV (y := y_X11_worth) (I' := i_X11_worth) (avs := [.inl (xs (tp_w (x3 + 1))), .inl (xs (tp_w (x3 + 2)))]) (c := 483) (st := [.inr (.inl r58)]) (c_X11_worth G (xs (tp_w (x3 + 1))) (xs (tp_w (x3 + 2))) M0 r60 h61) cs_MainLaw_59 wd_1326 wd_1327 wd_1328 tg_483 rfl rfl rfl (Nat.le_of_ble_eq_true rfl) ⟨rfl, rfl⟩ ⟨by decide, by decide⟩ ⟨Nat.le_of_ble_eq_true rfl, Nat.le_of_ble_eq_true rfl⟩ d_L_law_500 ?_
      refine j_lcmp_eq (tgt := 1330) d_L_law_503 rfl d_L_law_504 (by decide) (fun h62 => ?_) (fun h62 => ?_)
      · exact j_wk [true, true, true, true] rfl rfl (T_L_law_1330 G L xs hL hxs rec_18 x3 M0 hrec_18)
      · refine j_iconst ⟨by decide, by decide⟩ d_L_law_507 ?_
        refine j_wid (k' := 600000) (q' := 7302250) (by decide) (by decide) ?_
        exact j_zret d_L_law_508 rfl (Or.inl rfl) rfl ⟨rfl, rfl⟩
    refine tp_ite (fun h63 => ?_) (fun h63 => ?_)
    · refine j_tsin (tgt := 509) d_L_law_33 (by omega) (by omega) (off := 476) (by rw [h63]; decide +kernel) (by decide) ?_
      refine j_aload_n rfl d_L_law_509 rfl ?_
      refine j_aload_n rfl d_L_law_510 rfl ?_
      refine j_iload_n rfl d_L_law_511 rfl ?_
      refine j_iconst ⟨by decide, by decide⟩ d_L_law_512 ?_
      refine j_iadd d_L_law_513 ?_
      refine j_sldL hL hxs d_L_law_514 ?_
      refine j_aload_n rfl d_L_law_515 rfl ?_
      refine j_iload_n rfl d_L_law_516 rfl ?_
      refine j_iconst ⟨by decide, by decide⟩ d_L_law_517 ?_
      refine j_iadd d_L_law_518 ?_
      refine j_sldL hL hxs d_L_law_519 ?_
      refine j_aload_n rfl d_L_law_520 rfl ?_
      refine j_iload_n rfl d_L_law_521 rfl ?_
      refine j_iconst ⟨by decide, by decide⟩ d_L_law_522 ?_
      refine j_iadd d_L_law_523 ?_
      refine j_sldL hL hxs d_L_law_524 ?_
      refine j_aload_n rfl d_L_law_525 rfl ?_
      refine j_iload_n rfl d_L_law_526 rfl ?_
      refine j_iconst ⟨by decide, by decide⟩ d_L_law_527 ?_
      refine j_iadd d_L_law_528 ?_
      refine j_sldL hL hxs d_L_law_529 ?_
      refine j_bind (fun r64 h65 => ?_)
      refine j_callV (y := y_X10_expansion) (I' := i_X10_expansion) (avs := [.inl (xs (tp_w (x3 + 1))), .inl (xs (tp_w (x3 + 2))), .inl (xs (tp_w (x3 + 3))), .inl (xs (tp_w (x3 + 4)))]) (c := 0) (st := []) (c_X10_expansion G (xs (tp_w (x3 + 1))) (xs (tp_w (x3 + 2))) (xs (tp_w (x3 + 3))) (xs (tp_w (x3 + 4))) M0 r64 h65) cs_MainLaw_60 wd_557 wd_558 wd_559 tg_0 rfl rfl rfl (Nat.le_of_ble_eq_true rfl) ⟨rfl, rfl⟩ ⟨by decide, by decide⟩ ⟨Nat.le_of_ble_eq_true rfl, Nat.le_of_ble_eq_true rfl⟩ d_L_law_530 ?_
      refine j_aload_n rfl d_L_law_533 rfl ?_
      refine j_aload_n rfl d_L_law_534 rfl ?_
      refine j_iload_n rfl d_L_law_535 rfl ?_
      refine j_iconst ⟨by decide, by decide⟩ d_L_law_536 ?_
      refine j_iadd d_L_law_537 ?_
      refine j_sldL hL hxs d_L_law_538 ?_
      refine j_aload_n rfl d_L_law_539 rfl ?_
      refine j_iload_n rfl d_L_law_540 rfl ?_
      refine j_iconst ⟨by decide, by decide⟩ d_L_law_541 ?_
      refine j_iadd d_L_law_542 ?_
      refine j_sldL hL hxs d_L_law_543 ?_
      refine j_aload_n rfl d_L_law_544 rfl ?_
      refine j_iload_n rfl d_L_law_545 rfl ?_
      refine j_iconst ⟨by decide, by decide⟩ d_L_law_546 ?_
      refine j_iadd d_L_law_547 ?_
      refine j_sldL hL hxs d_L_law_548 ?_
      refine j_aload_n rfl d_L_law_549 rfl ?_
      refine j_iload_n rfl d_L_law_550 rfl ?_
      refine j_iconst ⟨by decide, by decide⟩ d_L_law_551 ?_
      refine j_iadd d_L_law_552 ?_
      refine j_sldL hL hxs d_L_law_553 ?_
      refine j_bind (fun r66 h67 => ?_)
      refine j_callV (y := y_X11_expansion) (I' := i_X11_expansion) (avs := [.inl (xs (tp_w (x3 + 1))), .inl (xs (tp_w (x3 + 2))), .inl (xs (tp_w (x3 + 3))), .inl (xs (tp_w (x3 + 4)))]) (c := 483) (st := [.inr (.inl r64.1)]) (c_X11_expansion G (xs (tp_w (x3 + 1))) (xs (tp_w (x3 + 2))) (xs (tp_w (x3 + 3))) (xs (tp_w (x3 + 4))) r64.2 r66 h67) cs_MainLaw_64 wd_1334 wd_1335 wd_1336 tg_483 rfl rfl rfl (Nat.le_of_ble_eq_true rfl) ⟨rfl, rfl⟩ ⟨by decide, by decide⟩ ⟨Nat.le_of_ble_eq_true rfl, Nat.le_of_ble_eq_true rfl⟩ d_L_law_554 ?_
      refine j_lcmp_eq (tgt := 1330) d_L_law_557 rfl d_L_law_558 (by decide) (fun h68 => ?_) (fun h68 => ?_)
      · exact j_wk [true, true, true, true] rfl rfl (T_L_law_1330 G L xs hL hxs rec_18 x3 r66.2 hrec_18)
      · refine j_iconst ⟨by decide, by decide⟩ d_L_law_561 ?_
        refine j_wid (k' := 600000) (q' := 7302250) (by decide) (by decide) ?_
        exact j_zret d_L_law_562 rfl (Or.inl rfl) rfl ⟨rfl, rfl⟩
    refine tp_ite (fun h69 => ?_) (fun h69 => ?_)
    · refine j_tsin (tgt := 563) d_L_law_33 (by omega) (by omega) (off := 530) (by rw [h69]; decide +kernel) (by decide) ?_
      refine j_aload_n rfl d_L_law_563 rfl ?_
      refine j_aload_n rfl d_L_law_564 rfl ?_
      refine j_iload_n rfl d_L_law_565 rfl ?_
      refine j_iconst ⟨by decide, by decide⟩ d_L_law_566 ?_
      refine j_iadd d_L_law_567 ?_
      refine j_sldL hL hxs d_L_law_568 ?_
      refine j_aload_n rfl d_L_law_569 rfl ?_
      refine j_iload_n rfl d_L_law_570 rfl ?_
      refine j_iconst ⟨by decide, by decide⟩ d_L_law_571 ?_
      refine j_iadd d_L_law_572 ?_
      refine j_sldL hL hxs d_L_law_573 ?_
      refine j_aload_n rfl d_L_law_574 rfl ?_
      refine j_iload_n rfl d_L_law_575 rfl ?_
      refine j_iconst ⟨by decide, by decide⟩ d_L_law_576 ?_
      refine j_iadd d_L_law_577 ?_
      refine j_sldL hL hxs d_L_law_578 ?_
      refine j_bind (fun r70 h71 => ?_)
      refine j_callV (y := y_X10_factor) (I' := i_X10_factor) (avs := [.inl (xs (tp_w (x3 + 1))), .inl (xs (tp_w (x3 + 2))), .inl (xs (tp_w (x3 + 3)))]) (c := 0) (st := []) (c_X10_factor G (xs (tp_w (x3 + 1))) (xs (tp_w (x3 + 2))) (xs (tp_w (x3 + 3))) M0 r70 h71) cs_MainLaw_65 wd_570 wd_571 wd_572 tg_0 rfl rfl rfl (Nat.le_of_ble_eq_true rfl) ⟨rfl, rfl⟩ ⟨by decide, by decide⟩ ⟨Nat.le_of_ble_eq_true rfl, Nat.le_of_ble_eq_true rfl⟩ d_L_law_579 ?_
      refine j_aload_n rfl d_L_law_582 rfl ?_
      refine j_aload_n rfl d_L_law_583 rfl ?_
      refine j_iload_n rfl d_L_law_584 rfl ?_
      refine j_iconst ⟨by decide, by decide⟩ d_L_law_585 ?_
      refine j_iadd d_L_law_586 ?_
      refine j_sldL hL hxs d_L_law_587 ?_
      refine j_aload_n rfl d_L_law_588 rfl ?_
      refine j_iload_n rfl d_L_law_589 rfl ?_
      refine j_iconst ⟨by decide, by decide⟩ d_L_law_590 ?_
      refine j_iadd d_L_law_591 ?_
      refine j_sldL hL hxs d_L_law_592 ?_
      refine j_aload_n rfl d_L_law_593 rfl ?_
      refine j_iload_n rfl d_L_law_594 rfl ?_
      refine j_iconst ⟨by decide, by decide⟩ d_L_law_595 ?_
      refine j_iadd d_L_law_596 ?_
      refine j_sldL hL hxs d_L_law_597 ?_
      refine j_bind (fun r72 h73 => ?_)
      refine j_callV (y := y_X11_factor) (I' := i_X11_factor) (avs := [.inl (xs (tp_w (x3 + 1))), .inl (xs (tp_w (x3 + 2))), .inl (xs (tp_w (x3 + 3)))]) (c := 483) (st := [.inr (.inl r70.1)]) (c_X11_factor G (xs (tp_w (x3 + 1))) (xs (tp_w (x3 + 2))) (xs (tp_w (x3 + 3))) r70.2 r72 h73) cs_MainLaw_68 wd_1346 wd_1347 wd_1348 tg_483 rfl rfl rfl (Nat.le_of_ble_eq_true rfl) ⟨rfl, rfl⟩ ⟨by decide, by decide⟩ ⟨Nat.le_of_ble_eq_true rfl, Nat.le_of_ble_eq_true rfl⟩ d_L_law_598 ?_
      refine j_lcmp_eq (tgt := 1330) d_L_law_601 rfl d_L_law_602 (by decide) (fun h74 => ?_) (fun h74 => ?_)
      · exact j_wk [true, true, true, true] rfl rfl (T_L_law_1330 G L xs hL hxs rec_18 x3 r72.2 hrec_18)
      · refine j_iconst ⟨by decide, by decide⟩ d_L_law_605 ?_
        refine j_wid (k' := 600000) (q' := 7302250) (by decide) (by decide) ?_
        exact j_zret d_L_law_606 rfl (Or.inl rfl) rfl ⟨rfl, rfl⟩
    refine tp_ite (fun h75 => ?_) (fun h75 => ?_)
    · refine j_tsin (tgt := 607) d_L_law_33 (by omega) (by omega) (off := 574) (by rw [h75]; decide +kernel) (by decide) ?_
      refine j_aload_n rfl d_L_law_607 rfl ?_
      refine j_aload_n rfl d_L_law_608 rfl ?_
      refine j_iload_n rfl d_L_law_609 rfl ?_
      refine j_iconst ⟨by decide, by decide⟩ d_L_law_610 ?_
      refine j_iadd d_L_law_611 ?_
      refine j_sldL hL hxs d_L_law_612 ?_
      refine j_bind (fun r76 h77 => ?_)
      refine j_callV (y := y_X10_grow) (I' := i_X10_grow) (avs := [.inl (xs (tp_w (x3 + 1)))]) (c := 0) (st := []) (c_X10_grow G (xs (tp_w (x3 + 1))) M0 r76 h77) cs_MainLaw_69 wd_632 wd_633 wd_634 tg_0 rfl rfl rfl (Nat.le_of_ble_eq_true rfl) ⟨rfl, rfl⟩ ⟨by decide, by decide⟩ ⟨Nat.le_of_ble_eq_true rfl, Nat.le_of_ble_eq_true rfl⟩ d_L_law_613 ?_
      refine j_aload_n rfl d_L_law_616 rfl ?_
      refine j_aload_n rfl d_L_law_617 rfl ?_
      refine j_iload_n rfl d_L_law_618 rfl ?_
      refine j_iconst ⟨by decide, by decide⟩ d_L_law_619 ?_
      refine j_iadd d_L_law_620 ?_
      refine j_sldL hL hxs d_L_law_621 ?_
      refine j_bind (fun r78 h79 => ?_)
      refine j_callV (y := y_X11_grow) (I' := i_X11_grow) (avs := [.inl (xs (tp_w (x3 + 1)))]) (c := 483) (st := [.inl r76.1]) (c_X11_grow G (xs (tp_w (x3 + 1))) r76.2 r78 h79) cs_MainLaw_72 wd_1384 wd_1385 wd_1386 tg_483 rfl rfl rfl (Nat.le_of_ble_eq_true rfl) ⟨rfl, rfl⟩ ⟨by decide, by decide⟩ ⟨Nat.le_of_ble_eq_true rfl, Nat.le_of_ble_eq_true rfl⟩ d_L_law_622 ?_
      refine j_icmp_eq (tgt := 1330) d_L_law_625 (by decide) (fun h80 => ?_) (fun h80 => ?_)
      · exact j_wk [true, true, true, true] rfl rfl (T_L_law_1330 G L xs hL hxs rec_18 x3 r78.2 hrec_18)
      · refine j_iconst ⟨by decide, by decide⟩ d_L_law_628 ?_
        refine j_wid (k' := 600000) (q' := 7302250) (by decide) (by decide) ?_
        exact j_zret d_L_law_629 rfl (Or.inl rfl) rfl ⟨rfl, rfl⟩
    refine tp_ite (fun h81 => ?_) (fun h81 => ?_)
    · refine j_tsin (tgt := 630) d_L_law_33 (by omega) (by omega) (off := 597) (by rw [h81]; decide +kernel) (by decide) ?_
      refine j_aload_n rfl d_L_law_630 rfl ?_
      refine j_aload_n rfl d_L_law_631 rfl ?_
      refine j_iload_n rfl d_L_law_632 rfl ?_
      refine j_iconst ⟨by decide, by decide⟩ d_L_law_633 ?_
      refine j_iadd d_L_law_634 ?_
      refine j_sldL hL hxs d_L_law_635 ?_
      refine j_bind (fun r82 h83 => ?_)
      refine j_callV (y := y_X10_tree) (I' := i_X10_tree) (avs := [.inl (xs (tp_w (x3 + 1)))]) (c := 0) (st := []) (c_X10_tree G (xs (tp_w (x3 + 1))) M0 r82 h83) cs_MainLaw_73 wd_810 wd_811 wd_812 tg_0 rfl rfl rfl (Nat.le_of_ble_eq_true rfl) ⟨rfl, rfl⟩ ⟨by decide, by decide⟩ ⟨Nat.le_of_ble_eq_true rfl, Nat.le_of_ble_eq_true rfl⟩ d_L_law_636 ?_
      refine j_aload_n rfl d_L_law_639 rfl ?_
      refine j_aload_n rfl d_L_law_640 rfl ?_
      refine j_iload_n rfl d_L_law_641 rfl ?_
      refine j_iconst ⟨by decide, by decide⟩ d_L_law_642 ?_
      refine j_iadd d_L_law_643 ?_
      refine j_sldL hL hxs d_L_law_644 ?_
      refine j_bind (fun r84 h85 => ?_)
      refine j_callV (y := y_X11_tree) (I' := i_X11_tree) (avs := [.inl (xs (tp_w (x3 + 1)))]) (c := 483) (st := [.inl r82]) (c_X11_tree G (xs (tp_w (x3 + 1))) M0 r84 h85) cs_MainLaw_76 wd_1503 wd_1504 wd_1505 tg_483 rfl rfl rfl (Nat.le_of_ble_eq_true rfl) ⟨rfl, rfl⟩ ⟨by decide, by decide⟩ ⟨Nat.le_of_ble_eq_true rfl, Nat.le_of_ble_eq_true rfl⟩ d_L_law_645 ?_
      refine j_icmp_eq (tgt := 1330) d_L_law_648 (by decide) (fun h86 => ?_) (fun h86 => ?_)
      · exact j_wk [true, true, true, true] rfl rfl (T_L_law_1330 G L xs hL hxs rec_18 x3 M0 hrec_18)
      · refine j_iconst ⟨by decide, by decide⟩ d_L_law_651 ?_
        refine j_wid (k' := 600000) (q' := 7302250) (by decide) (by decide) ?_
        exact j_zret d_L_law_652 rfl (Or.inl rfl) rfl ⟨rfl, rfl⟩
    refine tp_ite (fun h87 => ?_) (fun h87 => ?_)
    · refine j_tsin (tgt := 653) d_L_law_33 (by omega) (by omega) (off := 620) (by rw [h87]; decide +kernel) (by decide) ?_
      refine j_aload_n rfl d_L_law_653 rfl ?_
      refine j_aload_n rfl d_L_law_654 rfl ?_
      refine j_iload_n rfl d_L_law_655 rfl ?_
      refine j_iconst ⟨by decide, by decide⟩ d_L_law_656 ?_
      refine j_iadd d_L_law_657 ?_
      refine j_sldL hL hxs d_L_law_658 ?_
      refine j_aload_n rfl d_L_law_659 rfl ?_
      refine j_iload_n rfl d_L_law_660 rfl ?_
      refine j_iconst ⟨by decide, by decide⟩ d_L_law_661 ?_
      refine j_iadd d_L_law_662 ?_
      refine j_sldL hL hxs d_L_law_663 ?_
      refine j_bind (fun r88 h89 => ?_)
      refine j_callV (y := y_X10_knot) (I' := i_X10_knot) (avs := [.inl (xs (tp_w (x3 + 1))), .inl (xs (tp_w (x3 + 2)))]) (c := 0) (st := []) (c_X10_knot G (xs (tp_w (x3 + 1))) (xs (tp_w (x3 + 2))) M0 r88 h89) cs_MainLaw_77 wd_831 wd_832 wd_833 tg_0 rfl rfl rfl (Nat.le_of_ble_eq_true rfl) ⟨rfl, rfl⟩ ⟨by decide, by decide⟩ ⟨Nat.le_of_ble_eq_true rfl, Nat.le_of_ble_eq_true rfl⟩ d_L_law_664 ?_
      refine j_aload_n rfl d_L_law_667 rfl ?_
      refine j_aload_n rfl d_L_law_668 rfl ?_
      refine j_iload_n rfl d_L_law_669 rfl ?_
      refine j_iconst ⟨by decide, by decide⟩ d_L_law_670 ?_
      refine j_iadd d_L_law_671 ?_
      refine j_sldL hL hxs d_L_law_672 ?_
      refine j_aload_n rfl d_L_law_673 rfl ?_
      refine j_iload_n rfl d_L_law_674 rfl ?_
      refine j_iconst ⟨by decide, by decide⟩ d_L_law_675 ?_
      refine j_iadd d_L_law_676 ?_
      refine j_sldL hL hxs d_L_law_677 ?_
      refine j_bind (fun r90 h91 => ?_)
      refine j_callV (y := y_X11_knot) (I' := i_X11_knot) (avs := [.inl (xs (tp_w (x3 + 1))), .inl (xs (tp_w (x3 + 2)))]) (c := 483) (st := [.inl r88]) (c_X11_knot G (xs (tp_w (x3 + 1))) (xs (tp_w (x3 + 2))) M0 r90 h91) cs_MainLaw_80 wd_1512 wd_1513 wd_1514 tg_483 rfl rfl rfl (Nat.le_of_ble_eq_true rfl) ⟨rfl, rfl⟩ ⟨by decide, by decide⟩ ⟨Nat.le_of_ble_eq_true rfl, Nat.le_of_ble_eq_true rfl⟩ d_L_law_678 ?_
      refine j_icmp_eq (tgt := 1330) d_L_law_681 (by decide) (fun h92 => ?_) (fun h92 => ?_)
      · exact j_wk [true, true, true, true] rfl rfl (T_L_law_1330 G L xs hL hxs rec_18 x3 r90.2 hrec_18)
      · refine j_iconst ⟨by decide, by decide⟩ d_L_law_684 ?_
        refine j_wid (k' := 600000) (q' := 7302250) (by decide) (by decide) ?_
        exact j_zret d_L_law_685 rfl (Or.inl rfl) rfl ⟨rfl, rfl⟩
    refine tp_ite (fun h93 => ?_) (fun h93 => ?_)
    · refine j_tsin (tgt := 686) d_L_law_33 (by omega) (by omega) (off := 653) (by rw [h93]; decide +kernel) (by decide) ?_
      refine j_aload_n rfl d_L_law_686 rfl ?_
      refine j_aload_n rfl d_L_law_687 rfl ?_
      refine j_iload_n rfl d_L_law_688 rfl ?_
      refine j_iconst ⟨by decide, by decide⟩ d_L_law_689 ?_
      refine j_iadd d_L_law_690 ?_
      refine j_sldL hL hxs d_L_law_691 ?_
      refine j_aload_n rfl d_L_law_692 rfl ?_
      refine j_iload_n rfl d_L_law_693 rfl ?_
      refine j_iconst ⟨by decide, by decide⟩ d_L_law_694 ?_
      refine j_iadd d_L_law_695 ?_
      refine j_sldL hL hxs d_L_law_696 ?_
      refine j_bind (fun r94 h95 => ?_)
      refine j_callV (y := y_X10_key) (I' := i_X10_key) (avs := [.inl (xs (tp_w (x3 + 1))), .inl (xs (tp_w (x3 + 2)))]) (c := 0) (st := []) (c_X10_key G (xs (tp_w (x3 + 1))) (xs (tp_w (x3 + 2))) M0 r94 h95) cs_MainLaw_81 wd_836 wd_837 wd_838 tg_0 rfl rfl rfl (Nat.le_of_ble_eq_true rfl) ⟨rfl, rfl⟩ ⟨by decide, by decide⟩ ⟨Nat.le_of_ble_eq_true rfl, Nat.le_of_ble_eq_true rfl⟩ d_L_law_697 ?_
      refine j_aload_n rfl d_L_law_700 rfl ?_
      refine j_aload_n rfl d_L_law_701 rfl ?_
      refine j_iload_n rfl d_L_law_702 rfl ?_
      refine j_iconst ⟨by decide, by decide⟩ d_L_law_703 ?_
      refine j_iadd d_L_law_704 ?_
      refine j_sldL hL hxs d_L_law_705 ?_
      refine j_aload_n rfl d_L_law_706 rfl ?_
      refine j_iload_n rfl d_L_law_707 rfl ?_
      refine j_iconst ⟨by decide, by decide⟩ d_L_law_708 ?_
      refine j_iadd d_L_law_709 ?_
      refine j_sldL hL hxs d_L_law_710 ?_
      refine j_bind (fun r96 h97 => ?_)
      refine j_callV (y := y_X11_key) (I' := i_X11_key) (avs := [.inl (xs (tp_w (x3 + 1))), .inl (xs (tp_w (x3 + 2)))]) (c := 483) (st := [.inr (.inl r94)]) (c_X11_key G (xs (tp_w (x3 + 1))) (xs (tp_w (x3 + 2))) M0 r96 h97) cs_MainLaw_84 wd_1521 wd_1522 wd_1523 tg_483 rfl rfl rfl (Nat.le_of_ble_eq_true rfl) ⟨rfl, rfl⟩ ⟨by decide, by decide⟩ ⟨Nat.le_of_ble_eq_true rfl, Nat.le_of_ble_eq_true rfl⟩ d_L_law_711 ?_
      refine j_lcmp_eq (tgt := 1330) d_L_law_714 rfl d_L_law_715 (by decide) (fun h98 => ?_) (fun h98 => ?_)
      · exact j_wk [true, true, true, true] rfl rfl (T_L_law_1330 G L xs hL hxs rec_18 x3 M0 hrec_18)
      · refine j_iconst ⟨by decide, by decide⟩ d_L_law_718 ?_
        refine j_wid (k' := 600000) (q' := 7302250) (by decide) (by decide) ?_
        exact j_zret d_L_law_719 rfl (Or.inl rfl) rfl ⟨rfl, rfl⟩
    refine tp_ite (fun h99 => ?_) (fun h99 => ?_)
    · refine j_tsin (tgt := 720) d_L_law_33 (by omega) (by omega) (off := 687) (by rw [h99]; decide +kernel) (by decide) ?_
      refine j_aload_n rfl d_L_law_720 rfl ?_
      refine j_aload_n rfl d_L_law_721 rfl ?_
      refine j_iload_n rfl d_L_law_722 rfl ?_
      refine j_iconst ⟨by decide, by decide⟩ d_L_law_723 ?_
      refine j_iadd d_L_law_724 ?_
      refine j_sldL hL hxs d_L_law_725 ?_
      refine j_aload_n rfl d_L_law_726 rfl ?_
      refine j_iload_n rfl d_L_law_727 rfl ?_
      refine j_iconst ⟨by decide, by decide⟩ d_L_law_728 ?_
      refine j_iadd d_L_law_729 ?_
      refine j_sldL hL hxs d_L_law_730 ?_
      refine j_bind (fun r100 h101 => ?_)
      refine j_callV (y := y_X10_point) (I' := i_X10_point) (avs := [.inl (xs (tp_w (x3 + 1))), .inl (xs (tp_w (x3 + 2)))]) (c := 0) (st := []) (c_X10_point G (xs (tp_w (x3 + 1))) (xs (tp_w (x3 + 2))) M0 r100 h101) cs_MainLaw_85 wd_840 wd_841 wd_842 tg_0 rfl rfl rfl (Nat.le_of_ble_eq_true rfl) ⟨rfl, rfl⟩ ⟨by decide, by decide⟩ ⟨Nat.le_of_ble_eq_true rfl, Nat.le_of_ble_eq_true rfl⟩ d_L_law_731 ?_
      refine j_aload_n rfl d_L_law_734 rfl ?_
      refine j_aload_n rfl d_L_law_735 rfl ?_
      refine j_iload_n rfl d_L_law_736 rfl ?_
      refine j_iconst ⟨by decide, by decide⟩ d_L_law_737 ?_
      refine j_iadd d_L_law_738 ?_
      refine j_sldL hL hxs d_L_law_739 ?_
      refine j_aload_n rfl d_L_law_740 rfl ?_
      refine j_iload_n rfl d_L_law_741 rfl ?_
      refine j_iconst ⟨by decide, by decide⟩ d_L_law_742 ?_
      refine j_iadd d_L_law_743 ?_
      refine j_sldL hL hxs d_L_law_744 ?_
      refine j_bind (fun r102 h103 => ?_)
      refine j_callV (y := y_X11_point) (I' := i_X11_point) (avs := [.inl (xs (tp_w (x3 + 1))), .inl (xs (tp_w (x3 + 2)))]) (c := 483) (st := [.inl r100]) (c_X11_point G (xs (tp_w (x3 + 1))) (xs (tp_w (x3 + 2))) M0 r102 h103) cs_MainLaw_88 wd_1525 wd_1526 wd_1527 tg_483 rfl rfl rfl (Nat.le_of_ble_eq_true rfl) ⟨rfl, rfl⟩ ⟨by decide, by decide⟩ ⟨Nat.le_of_ble_eq_true rfl, Nat.le_of_ble_eq_true rfl⟩ d_L_law_745 ?_
      refine j_icmp_eq (tgt := 1330) d_L_law_748 (by decide) (fun h104 => ?_) (fun h104 => ?_)
      · exact j_wk [true, true, true, true] rfl rfl (T_L_law_1330 G L xs hL hxs rec_18 x3 M0 hrec_18)
      · refine j_iconst ⟨by decide, by decide⟩ d_L_law_751 ?_
        refine j_wid (k' := 600000) (q' := 7302250) (by decide) (by decide) ?_
        exact j_zret d_L_law_752 rfl (Or.inl rfl) rfl ⟨rfl, rfl⟩
    refine tp_ite (fun h105 => ?_) (fun h105 => ?_)
    · refine j_tsin (tgt := 753) d_L_law_33 (by omega) (by omega) (off := 720) (by rw [h105]; decide +kernel) (by decide) ?_
      refine j_aload_n rfl d_L_law_753 rfl ?_
      refine j_aload_n rfl d_L_law_754 rfl ?_
      refine j_iload_n rfl d_L_law_755 rfl ?_
      refine j_iconst ⟨by decide, by decide⟩ d_L_law_756 ?_
      refine j_iadd d_L_law_757 ?_
      refine j_sldL hL hxs d_L_law_758 ?_
      refine j_aload_n rfl d_L_law_759 rfl ?_
      refine j_iload_n rfl d_L_law_760 rfl ?_
      refine j_iconst ⟨by decide, by decide⟩ d_L_law_761 ?_
      refine j_iadd d_L_law_762 ?_
      refine j_sldL hL hxs d_L_law_763 ?_
      refine j_aload_n rfl d_L_law_764 rfl ?_
      refine j_iload_n rfl d_L_law_765 rfl ?_
      refine j_iconst ⟨by decide, by decide⟩ d_L_law_766 ?_
      refine j_iadd d_L_law_767 ?_
      refine j_sldL hL hxs d_L_law_768 ?_
      refine j_bind (fun r106 h107 => ?_)
      refine j_callV (y := y_X10_side) (I' := i_X10_side) (avs := [.inl (xs (tp_w (x3 + 1))), .inl (xs (tp_w (x3 + 2))), .inl (xs (tp_w (x3 + 3)))]) (c := 0) (st := []) (c_X10_side G (xs (tp_w (x3 + 1))) (xs (tp_w (x3 + 2))) (xs (tp_w (x3 + 3))) M0 r106 h107) cs_MainLaw_89 wd_844 wd_845 wd_846 tg_0 rfl rfl rfl (Nat.le_of_ble_eq_true rfl) ⟨rfl, rfl⟩ ⟨by decide, by decide⟩ ⟨Nat.le_of_ble_eq_true rfl, Nat.le_of_ble_eq_true rfl⟩ d_L_law_769 ?_
      refine j_aload_n rfl d_L_law_772 rfl ?_
      refine j_aload_n rfl d_L_law_773 rfl ?_
      refine j_iload_n rfl d_L_law_774 rfl ?_
      refine j_iconst ⟨by decide, by decide⟩ d_L_law_775 ?_
      refine j_iadd d_L_law_776 ?_
      refine j_sldL hL hxs d_L_law_777 ?_
      refine j_aload_n rfl d_L_law_778 rfl ?_
      refine j_iload_n rfl d_L_law_779 rfl ?_
      refine j_iconst ⟨by decide, by decide⟩ d_L_law_780 ?_
      refine j_iadd d_L_law_781 ?_
      refine j_sldL hL hxs d_L_law_782 ?_
      refine j_aload_n rfl d_L_law_783 rfl ?_
      refine j_iload_n rfl d_L_law_784 rfl ?_
      refine j_iconst ⟨by decide, by decide⟩ d_L_law_785 ?_
      refine j_iadd d_L_law_786 ?_
      refine j_sldL hL hxs d_L_law_787 ?_
      refine j_bind (fun r108 h109 => ?_)
      refine j_callV (y := y_X11_side) (I' := i_X11_side) (avs := [.inl (xs (tp_w (x3 + 1))), .inl (xs (tp_w (x3 + 2))), .inl (xs (tp_w (x3 + 3)))]) (c := 483) (st := [.inl r106]) (c_X11_side G (xs (tp_w (x3 + 1))) (xs (tp_w (x3 + 2))) (xs (tp_w (x3 + 3))) M0 r108 h109) cs_MainLaw_92 wd_1529 wd_1530 wd_1531 tg_483 rfl rfl rfl (Nat.le_of_ble_eq_true rfl) ⟨rfl, rfl⟩ ⟨by decide, by decide⟩ ⟨Nat.le_of_ble_eq_true rfl, Nat.le_of_ble_eq_true rfl⟩ d_L_law_788 ?_
      refine j_icmp_eq (tgt := 1330) d_L_law_791 (by decide) (fun h110 => ?_) (fun h110 => ?_)
      · exact j_wk [true, true, true, true] rfl rfl (T_L_law_1330 G L xs hL hxs rec_18 x3 M0 hrec_18)
      · refine j_iconst ⟨by decide, by decide⟩ d_L_law_794 ?_
        refine j_wid (k' := 600000) (q' := 7302250) (by decide) (by decide) ?_
        exact j_zret d_L_law_795 rfl (Or.inl rfl) rfl ⟨rfl, rfl⟩
    refine tp_ite (fun h111 => ?_) (fun h111 => ?_)
    · refine j_tsin (tgt := 796) d_L_law_33 (by omega) (by omega) (off := 763) (by rw [h111]; decide +kernel) (by decide) ?_
      refine j_aload_n rfl d_L_law_796 rfl ?_
      refine j_aload_n rfl d_L_law_797 rfl ?_
      refine j_iload_n rfl d_L_law_798 rfl ?_
      refine j_iconst ⟨by decide, by decide⟩ d_L_law_799 ?_
      refine j_iadd d_L_law_800 ?_
      refine j_sldL hL hxs d_L_law_801 ?_
      refine j_aload_n rfl d_L_law_802 rfl ?_
      refine j_iload_n rfl d_L_law_803 rfl ?_
      refine j_iconst ⟨by decide, by decide⟩ d_L_law_804 ?_
      refine j_iadd d_L_law_805 ?_
      refine j_sldL hL hxs d_L_law_806 ?_
      refine j_aload_n rfl d_L_law_807 rfl ?_
      refine j_iload_n rfl d_L_law_808 rfl ?_
      refine j_iconst ⟨by decide, by decide⟩ d_L_law_809 ?_
      refine j_iadd d_L_law_810 ?_
      refine j_sldL hL hxs d_L_law_811 ?_
      refine j_bind (fun r112 h113 => ?_)
      refine j_callV (y := y_X10_residual) (I' := i_X10_residual) (avs := [.inl (xs (tp_w (x3 + 1))), .inl (xs (tp_w (x3 + 2))), .inl (xs (tp_w (x3 + 3)))]) (c := 0) (st := []) (c_X10_residual G (xs (tp_w (x3 + 1))) (xs (tp_w (x3 + 2))) (xs (tp_w (x3 + 3))) M0 r112 h113) cs_MainLaw_93 wd_849 wd_850 wd_851 tg_0 rfl rfl rfl (Nat.le_of_ble_eq_true rfl) ⟨rfl, rfl⟩ ⟨by decide, by decide⟩ ⟨Nat.le_of_ble_eq_true rfl, Nat.le_of_ble_eq_true rfl⟩ d_L_law_812 ?_
      refine j_aload_n rfl d_L_law_815 rfl ?_
      refine j_aload_n rfl d_L_law_816 rfl ?_
      refine j_iload_n rfl d_L_law_817 rfl ?_
      refine j_iconst ⟨by decide, by decide⟩ d_L_law_818 ?_
      refine j_iadd d_L_law_819 ?_
      refine j_sldL hL hxs d_L_law_820 ?_
      refine j_aload_n rfl d_L_law_821 rfl ?_
      refine j_iload_n rfl d_L_law_822 rfl ?_
      refine j_iconst ⟨by decide, by decide⟩ d_L_law_823 ?_
      refine j_iadd d_L_law_824 ?_
      refine j_sldL hL hxs d_L_law_825 ?_
      refine j_aload_n rfl d_L_law_826 rfl ?_
      refine j_iload_n rfl d_L_law_827 rfl ?_
      refine j_iconst ⟨by decide, by decide⟩ d_L_law_828 ?_
      refine j_iadd d_L_law_829 ?_
      refine j_sldL hL hxs d_L_law_830 ?_
      refine j_bind (fun r114 h115 => ?_)
      refine j_callV (y := y_X11_residual) (I' := i_X11_residual) (avs := [.inl (xs (tp_w (x3 + 1))), .inl (xs (tp_w (x3 + 2))), .inl (xs (tp_w (x3 + 3)))]) (c := 483) (st := [.inl r112]) (c_X11_residual G (xs (tp_w (x3 + 1))) (xs (tp_w (x3 + 2))) (xs (tp_w (x3 + 3))) M0 r114 h115) cs_MainLaw_96 wd_1538 wd_1539 wd_1540 tg_483 rfl rfl rfl (Nat.le_of_ble_eq_true rfl) ⟨rfl, rfl⟩ ⟨by decide, by decide⟩ ⟨Nat.le_of_ble_eq_true rfl, Nat.le_of_ble_eq_true rfl⟩ d_L_law_831 ?_
      refine j_icmp_eq (tgt := 1330) d_L_law_834 (by decide) (fun h116 => ?_) (fun h116 => ?_)
      · exact j_wk [true, true, true, true] rfl rfl (T_L_law_1330 G L xs hL hxs rec_18 x3 M0 hrec_18)
      · refine j_iconst ⟨by decide, by decide⟩ d_L_law_837 ?_
        refine j_wid (k' := 600000) (q' := 7302250) (by decide) (by decide) ?_
        exact j_zret d_L_law_838 rfl (Or.inl rfl) rfl ⟨rfl, rfl⟩
    refine tp_ite (fun h117 => ?_) (fun h117 => ?_)
    · refine j_tsin (tgt := 839) d_L_law_33 (by omega) (by omega) (off := 806) (by rw [h117]; decide +kernel) (by decide) ?_
      refine j_aload_n rfl d_L_law_839 rfl ?_
      refine j_aload_n rfl d_L_law_840 rfl ?_
      refine j_iload_n rfl d_L_law_841 rfl ?_
      refine j_iconst ⟨by decide, by decide⟩ d_L_law_842 ?_
      refine j_iadd d_L_law_843 ?_
      refine j_sldL hL hxs d_L_law_844 ?_
      refine j_aload_n rfl d_L_law_845 rfl ?_
      refine j_iload_n rfl d_L_law_846 rfl ?_
      refine j_iconst ⟨by decide, by decide⟩ d_L_law_847 ?_
      refine j_iadd d_L_law_848 ?_
      refine j_sldL hL hxs d_L_law_849 ?_
      refine j_aload_n rfl d_L_law_850 rfl ?_
      refine j_iload_n rfl d_L_law_851 rfl ?_
      refine j_iconst ⟨by decide, by decide⟩ d_L_law_852 ?_
      refine j_iadd d_L_law_853 ?_
      refine j_sldL hL hxs d_L_law_854 ?_
      refine j_bind (fun r118 h119 => ?_)
      refine j_callV (y := y_X10_monomial) (I' := i_X10_monomial) (avs := [.inl (xs (tp_w (x3 + 1))), .inl (xs (tp_w (x3 + 2))), .inl (xs (tp_w (x3 + 3)))]) (c := 0) (st := []) (c_X10_monomial G (xs (tp_w (x3 + 1))) (xs (tp_w (x3 + 2))) (xs (tp_w (x3 + 3))) M0 r118 h119) cs_MainLaw_97 wd_853 wd_854 wd_855 tg_0 rfl rfl rfl (Nat.le_of_ble_eq_true rfl) ⟨rfl, rfl⟩ ⟨by decide, by decide⟩ ⟨Nat.le_of_ble_eq_true rfl, Nat.le_of_ble_eq_true rfl⟩ d_L_law_855 ?_
      refine j_aload_n rfl d_L_law_858 rfl ?_
      refine j_aload_n rfl d_L_law_859 rfl ?_
      refine j_iload_n rfl d_L_law_860 rfl ?_
      refine j_iconst ⟨by decide, by decide⟩ d_L_law_861 ?_
      refine j_iadd d_L_law_862 ?_
      refine j_sldL hL hxs d_L_law_863 ?_
      refine j_aload_n rfl d_L_law_864 rfl ?_
      refine j_iload_n rfl d_L_law_865 rfl ?_
      refine j_iconst ⟨by decide, by decide⟩ d_L_law_866 ?_
      refine j_iadd d_L_law_867 ?_
      refine j_sldL hL hxs d_L_law_868 ?_
      refine j_aload_n rfl d_L_law_869 rfl ?_
      refine j_iload_n rfl d_L_law_870 rfl ?_
      refine j_iconst ⟨by decide, by decide⟩ d_L_law_871 ?_
      refine j_iadd d_L_law_872 ?_
      refine j_sldL hL hxs d_L_law_873 ?_
      refine j_bind (fun r120 h121 => ?_)
      refine j_callV (y := y_X11_monomial) (I' := i_X11_monomial) (avs := [.inl (xs (tp_w (x3 + 1))), .inl (xs (tp_w (x3 + 2))), .inl (xs (tp_w (x3 + 3)))]) (c := 483) (st := [.inl r118]) (c_X11_monomial G (xs (tp_w (x3 + 1))) (xs (tp_w (x3 + 2))) (xs (tp_w (x3 + 3))) M0 r120 h121) cs_MainLaw_100 wd_1542 wd_1543 wd_1544 tg_483 rfl rfl rfl (Nat.le_of_ble_eq_true rfl) ⟨rfl, rfl⟩ ⟨by decide, by decide⟩ ⟨Nat.le_of_ble_eq_true rfl, Nat.le_of_ble_eq_true rfl⟩ d_L_law_874 ?_
      refine j_icmp_eq (tgt := 1330) d_L_law_877 (by decide) (fun h122 => ?_) (fun h122 => ?_)
      · exact j_wk [true, true, true, true] rfl rfl (T_L_law_1330 G L xs hL hxs rec_18 x3 M0 hrec_18)
      · refine j_iconst ⟨by decide, by decide⟩ d_L_law_880 ?_
        refine j_wid (k' := 600000) (q' := 7302250) (by decide) (by decide) ?_
        exact j_zret d_L_law_881 rfl (Or.inl rfl) rfl ⟨rfl, rfl⟩
    refine tp_ite (fun h123 => ?_) (fun h123 => ?_)
    · refine j_tsin (tgt := 882) d_L_law_33 (by omega) (by omega) (off := 849) (by rw [h123]; decide +kernel) (by decide) ?_
      refine j_aload_n rfl d_L_law_882 rfl ?_
      refine j_aload_n rfl d_L_law_883 rfl ?_
      refine j_iload_n rfl d_L_law_884 rfl ?_
      refine j_iconst ⟨by decide, by decide⟩ d_L_law_885 ?_
      refine j_iadd d_L_law_886 ?_
      refine j_sldL hL hxs d_L_law_887 ?_
      refine j_aload_n rfl d_L_law_888 rfl ?_
      refine j_iload_n rfl d_L_law_889 rfl ?_
      refine j_iconst ⟨by decide, by decide⟩ d_L_law_890 ?_
      refine j_iadd d_L_law_891 ?_
      refine j_sldL hL hxs d_L_law_892 ?_
      refine j_bind (fun r124 h125 => ?_)
      refine j_callV (y := y_X10_leaf) (I' := i_X10_leaf) (avs := [.inl (xs (tp_w (x3 + 1))), .inl (xs (tp_w (x3 + 2)))]) (c := 0) (st := []) (c_X10_leaf G (xs (tp_w (x3 + 1))) (xs (tp_w (x3 + 2))) M0 r124 h125) cs_MainLaw_101 wd_857 wd_858 wd_859 tg_0 rfl rfl rfl (Nat.le_of_ble_eq_true rfl) ⟨rfl, rfl⟩ ⟨by decide, by decide⟩ ⟨Nat.le_of_ble_eq_true rfl, Nat.le_of_ble_eq_true rfl⟩ d_L_law_893 ?_
      refine j_aload_n rfl d_L_law_896 rfl ?_
      refine j_aload_n rfl d_L_law_897 rfl ?_
      refine j_iload_n rfl d_L_law_898 rfl ?_
      refine j_iconst ⟨by decide, by decide⟩ d_L_law_899 ?_
      refine j_iadd d_L_law_900 ?_
      refine j_sldL hL hxs d_L_law_901 ?_
      refine j_aload_n rfl d_L_law_902 rfl ?_
      refine j_iload_n rfl d_L_law_903 rfl ?_
      refine j_iconst ⟨by decide, by decide⟩ d_L_law_904 ?_
      refine j_iadd d_L_law_905 ?_
      refine j_sldL hL hxs d_L_law_906 ?_
      refine j_bind (fun r126 h127 => ?_)
      refine j_callV (y := y_X11_leaf) (I' := i_X11_leaf) (avs := [.inl (xs (tp_w (x3 + 1))), .inl (xs (tp_w (x3 + 2)))]) (c := 483) (st := [.inl r124]) (c_X11_leaf G (xs (tp_w (x3 + 1))) (xs (tp_w (x3 + 2))) M0 r126 h127) cs_MainLaw_104 wd_1546 wd_1547 wd_1548 tg_483 rfl rfl rfl (Nat.le_of_ble_eq_true rfl) ⟨rfl, rfl⟩ ⟨by decide, by decide⟩ ⟨Nat.le_of_ble_eq_true rfl, Nat.le_of_ble_eq_true rfl⟩ d_L_law_907 ?_
      refine j_icmp_eq (tgt := 1330) d_L_law_910 (by decide) (fun h128 => ?_) (fun h128 => ?_)
      · exact j_wk [true, true, true, true] rfl rfl (T_L_law_1330 G L xs hL hxs rec_18 x3 M0 hrec_18)
      · refine j_iconst ⟨by decide, by decide⟩ d_L_law_913 ?_
        refine j_wid (k' := 600000) (q' := 7302250) (by decide) (by decide) ?_
        exact j_zret d_L_law_914 rfl (Or.inl rfl) rfl ⟨rfl, rfl⟩
    refine tp_ite (fun h129 => ?_) (fun h129 => ?_)
    · refine j_tsin (tgt := 915) d_L_law_33 (by omega) (by omega) (off := 882) (by rw [h129]; decide +kernel) (by decide) ?_
      refine j_aload_n rfl d_L_law_915 rfl ?_
      refine j_aload_n rfl d_L_law_916 rfl ?_
      refine j_iload_n rfl d_L_law_917 rfl ?_
      refine j_iconst ⟨by decide, by decide⟩ d_L_law_918 ?_
      refine j_iadd d_L_law_919 ?_
      refine j_sldL hL hxs d_L_law_920 ?_
      refine j_bind (fun r130 h131 => ?_)
      refine j_callV (y := y_X10_spelling) (I' := i_X10_spelling) (avs := [.inl (xs (tp_w (x3 + 1)))]) (c := 0) (st := []) (c_X10_spelling G (xs (tp_w (x3 + 1))) M0 r130 h131) cs_MainLaw_105 wd_862 wd_863 wd_864 tg_0 rfl rfl rfl (Nat.le_of_ble_eq_true rfl) ⟨rfl, rfl⟩ ⟨by decide, by decide⟩ ⟨Nat.le_of_ble_eq_true rfl, Nat.le_of_ble_eq_true rfl⟩ d_L_law_921 ?_
      refine j_aload_n rfl d_L_law_924 rfl ?_
      refine j_aload_n rfl d_L_law_925 rfl ?_
      refine j_iload_n rfl d_L_law_926 rfl ?_
      refine j_iconst ⟨by decide, by decide⟩ d_L_law_927 ?_
      refine j_iadd d_L_law_928 ?_
      refine j_sldL hL hxs d_L_law_929 ?_
      refine j_bind (fun r132 h133 => ?_)
      refine j_callV (y := y_X11_spelling) (I' := i_X11_spelling) (avs := [.inl (xs (tp_w (x3 + 1)))]) (c := 483) (st := [.inl r130]) (c_X11_spelling G (xs (tp_w (x3 + 1))) M0 r132 h133) cs_MainLaw_108 wd_1551 wd_1552 wd_1553 tg_483 rfl rfl rfl (Nat.le_of_ble_eq_true rfl) ⟨rfl, rfl⟩ ⟨by decide, by decide⟩ ⟨Nat.le_of_ble_eq_true rfl, Nat.le_of_ble_eq_true rfl⟩ d_L_law_930 ?_
      refine j_icmp_eq (tgt := 1330) d_L_law_933 (by decide) (fun h134 => ?_) (fun h134 => ?_)
      · exact j_wk [true, true, true, true] rfl rfl (T_L_law_1330 G L xs hL hxs rec_18 x3 M0 hrec_18)
      · refine j_iconst ⟨by decide, by decide⟩ d_L_law_936 ?_
        refine j_wid (k' := 600000) (q' := 7302250) (by decide) (by decide) ?_
        exact j_zret d_L_law_937 rfl (Or.inl rfl) rfl ⟨rfl, rfl⟩
    refine tp_ite (fun h135 => ?_) (fun h135 => ?_)
    · refine j_tsin (tgt := 938) d_L_law_33 (by omega) (by omega) (off := 905) (by rw [h135]; decide +kernel) (by decide) ?_
      refine j_aload_n rfl d_L_law_938 rfl ?_
      refine j_bind (fun r136 h137 => ?_)
      refine j_callV (y := y_X10_ask) (I' := i_X10_ask) (avs := []) (c := 0) (st := []) (c_X10_ask G M0 r136 h137) cs_MainLaw_109 wd_866 wd_867 wd_868 tg_0 rfl rfl rfl (Nat.le_of_ble_eq_true rfl) ⟨rfl, rfl⟩ ⟨by decide, by decide⟩ ⟨Nat.le_of_ble_eq_true rfl, Nat.le_of_ble_eq_true rfl⟩ d_L_law_939 ?_
      refine j_aload_n rfl d_L_law_942 rfl ?_
      refine j_bind (fun r138 h139 => ?_)
      refine j_callV (y := y_X11_ask) (I' := i_X11_ask) (avs := []) (c := 483) (st := [.inl r136.1]) (c_X11_ask G r136.2 r138 h139) cs_MainLaw_112 wd_1555 wd_1556 wd_1557 tg_483 rfl rfl rfl (Nat.le_of_ble_eq_true rfl) ⟨rfl, rfl⟩ ⟨by decide, by decide⟩ ⟨Nat.le_of_ble_eq_true rfl, Nat.le_of_ble_eq_true rfl⟩ d_L_law_943 ?_
      refine j_icmp_eq (tgt := 1330) d_L_law_946 (by decide) (fun h140 => ?_) (fun h140 => ?_)
      · exact j_wk [true, true, true, true] rfl rfl (T_L_law_1330 G L xs hL hxs rec_18 x3 r138.2 hrec_18)
      · refine j_iconst ⟨by decide, by decide⟩ d_L_law_949 ?_
        refine j_wid (k' := 600000) (q' := 7302250) (by decide) (by decide) ?_
        exact j_zret d_L_law_950 rfl (Or.inl rfl) rfl ⟨rfl, rfl⟩
    refine tp_ite (fun h141 => ?_) (fun h141 => ?_)
    · refine j_tsin (tgt := 951) d_L_law_33 (by omega) (by omega) (off := 918) (by rw [h141]; decide +kernel) (by decide) ?_
      refine j_aload_n rfl d_L_law_951 rfl ?_
      refine j_aload_n rfl d_L_law_952 rfl ?_
      refine j_iload_n rfl d_L_law_953 rfl ?_
      refine j_iconst ⟨by decide, by decide⟩ d_L_law_954 ?_
      refine j_iadd d_L_law_955 ?_
      refine j_sldL hL hxs d_L_law_956 ?_
      refine j_aload_n rfl d_L_law_957 rfl ?_
      refine j_iload_n rfl d_L_law_958 rfl ?_
      refine j_iconst ⟨by decide, by decide⟩ d_L_law_959 ?_
      refine j_iadd d_L_law_960 ?_
      refine j_sldL hL hxs d_L_law_961 ?_
      refine j_bind (fun r142 h143 => ?_)
      refine j_callV (y := y_X10_corner) (I' := i_X10_corner) (avs := [.inl (xs (tp_w (x3 + 1))), .inl (xs (tp_w (x3 + 2)))]) (c := 0) (st := []) (c_X10_corner G (xs (tp_w (x3 + 1))) (xs (tp_w (x3 + 2))) M0 r142 h143) cs_MainLaw_113 wd_935 wd_936 wd_937 tg_0 rfl rfl rfl (Nat.le_of_ble_eq_true rfl) ⟨rfl, rfl⟩ ⟨by decide, by decide⟩ ⟨Nat.le_of_ble_eq_true rfl, Nat.le_of_ble_eq_true rfl⟩ d_L_law_962 ?_
      refine j_aload_n rfl d_L_law_965 rfl ?_
      refine j_aload_n rfl d_L_law_966 rfl ?_
      refine j_iload_n rfl d_L_law_967 rfl ?_
      refine j_iconst ⟨by decide, by decide⟩ d_L_law_968 ?_
      refine j_iadd d_L_law_969 ?_
      refine j_sldL hL hxs d_L_law_970 ?_
      refine j_aload_n rfl d_L_law_971 rfl ?_
      refine j_iload_n rfl d_L_law_972 rfl ?_
      refine j_iconst ⟨by decide, by decide⟩ d_L_law_973 ?_
      refine j_iadd d_L_law_974 ?_
      refine j_sldL hL hxs d_L_law_975 ?_
      refine j_bind (fun r144 h145 => ?_)
      refine j_callV (y := y_X11_corner) (I' := i_X11_corner) (avs := [.inl (xs (tp_w (x3 + 1))), .inl (xs (tp_w (x3 + 2)))]) (c := 483) (st := [.inl r142.1]) (c_X11_corner G (xs (tp_w (x3 + 1))) (xs (tp_w (x3 + 2))) r142.2 r144 h145) cs_MainLaw_116 wd_1576 wd_1577 wd_1578 tg_483 rfl rfl rfl (Nat.le_of_ble_eq_true rfl) ⟨rfl, rfl⟩ ⟨by decide, by decide⟩ ⟨Nat.le_of_ble_eq_true rfl, Nat.le_of_ble_eq_true rfl⟩ d_L_law_976 ?_
      refine j_icmp_eq (tgt := 1330) d_L_law_979 (by decide) (fun h146 => ?_) (fun h146 => ?_)
      · exact j_wk [true, true, true, true] rfl rfl (T_L_law_1330 G L xs hL hxs rec_18 x3 r142.2 hrec_18)
      · refine j_iconst ⟨by decide, by decide⟩ d_L_law_982 ?_
        refine j_wid (k' := 600000) (q' := 7302250) (by decide) (by decide) ?_
        exact j_zret d_L_law_983 rfl (Or.inl rfl) rfl ⟨rfl, rfl⟩
    refine tp_ite (fun h147 => ?_) (fun h147 => ?_)
    · refine j_tsin (tgt := 984) d_L_law_33 (by omega) (by omega) (off := 951) (by rw [h147]; decide +kernel) (by decide) ?_
      refine j_aload_n rfl d_L_law_984 rfl ?_
      refine j_aload_n rfl d_L_law_985 rfl ?_
      refine j_iload_n rfl d_L_law_986 rfl ?_
      refine j_iconst ⟨by decide, by decide⟩ d_L_law_987 ?_
      refine j_iadd d_L_law_988 ?_
      refine j_sldL hL hxs d_L_law_989 ?_
      refine j_aload_n rfl d_L_law_990 rfl ?_
      refine j_iload_n rfl d_L_law_991 rfl ?_
      refine j_iconst ⟨by decide, by decide⟩ d_L_law_992 ?_
      refine j_iadd d_L_law_993 ?_
      refine j_sldL hL hxs d_L_law_994 ?_
      refine j_aload_n rfl d_L_law_995 rfl ?_
      refine j_iload_n rfl d_L_law_996 rfl ?_
      refine j_iconst ⟨by decide, by decide⟩ d_L_law_997 ?_
      refine j_iadd d_L_law_998 ?_
      refine j_sldL hL hxs d_L_law_999 ?_
      refine j_aload_n rfl d_L_law_1000 rfl ?_
      refine j_iload_n rfl d_L_law_1001 rfl ?_
      refine j_iconst ⟨by decide, by decide⟩ d_L_law_1002 ?_
      refine j_iadd d_L_law_1003 ?_
      refine j_sldL hL hxs d_L_law_1004 ?_
      refine j_bind (fun r148 h149 => ?_)
      refine j_callV (y := y_X10_slope) (I' := i_X10_slope) (avs := [.inl (xs (tp_w (x3 + 1))), .inl (xs (tp_w (x3 + 2))), .inl (xs (tp_w (x3 + 3))), .inl (xs (tp_w (x3 + 4)))]) (c := 0) (st := []) (c_X10_slope G (xs (tp_w (x3 + 1))) (xs (tp_w (x3 + 2))) (xs (tp_w (x3 + 3))) (xs (tp_w (x3 + 4))) M0 r148 h149) cs_MainLaw_117 wd_957 wd_958 wd_959 tg_0 rfl rfl rfl (Nat.le_of_ble_eq_true rfl) ⟨rfl, rfl⟩ ⟨by decide, by decide⟩ ⟨Nat.le_of_ble_eq_true rfl, Nat.le_of_ble_eq_true rfl⟩ d_L_law_1005 ?_
      refine j_aload_n rfl d_L_law_1008 rfl ?_
      refine j_aload_n rfl d_L_law_1009 rfl ?_
      refine j_iload_n rfl d_L_law_1010 rfl ?_
      refine j_iconst ⟨by decide, by decide⟩ d_L_law_1011 ?_
      refine j_iadd d_L_law_1012 ?_
      refine j_sldL hL hxs d_L_law_1013 ?_
      refine j_aload_n rfl d_L_law_1014 rfl ?_
      refine j_iload_n rfl d_L_law_1015 rfl ?_
      refine j_iconst ⟨by decide, by decide⟩ d_L_law_1016 ?_
      refine j_iadd d_L_law_1017 ?_
      refine j_sldL hL hxs d_L_law_1018 ?_
      refine j_aload_n rfl d_L_law_1019 rfl ?_
      refine j_iload_n rfl d_L_law_1020 rfl ?_
      refine j_iconst ⟨by decide, by decide⟩ d_L_law_1021 ?_
      refine j_iadd d_L_law_1022 ?_
      refine j_sldL hL hxs d_L_law_1023 ?_
      refine j_aload_n rfl d_L_law_1024 rfl ?_
      refine j_iload_n rfl d_L_law_1025 rfl ?_
      refine j_iconst ⟨by decide, by decide⟩ d_L_law_1026 ?_
      refine j_iadd d_L_law_1027 ?_
      refine j_sldL hL hxs d_L_law_1028 ?_
      refine j_bind (fun r150 h151 => ?_)
      refine j_callV (y := y_X11_slope) (I' := i_X11_slope) (avs := [.inl (xs (tp_w (x3 + 1))), .inl (xs (tp_w (x3 + 2))), .inl (xs (tp_w (x3 + 3))), .inl (xs (tp_w (x3 + 4)))]) (c := 483) (st := [.inr (.inl r148)]) (c_X11_slope G (xs (tp_w (x3 + 1))) (xs (tp_w (x3 + 2))) (xs (tp_w (x3 + 3))) (xs (tp_w (x3 + 4))) M0 r150 h151) cs_MainLaw_120 wd_1591 wd_1592 wd_1593 tg_483 rfl rfl rfl (Nat.le_of_ble_eq_true rfl) ⟨rfl, rfl⟩ ⟨by decide, by decide⟩ ⟨Nat.le_of_ble_eq_true rfl, Nat.le_of_ble_eq_true rfl⟩ d_L_law_1029 ?_
      refine j_lcmp_eq (tgt := 1330) d_L_law_1032 rfl d_L_law_1033 (by decide) (fun h152 => ?_) (fun h152 => ?_)
      · exact j_wk [true, true, true, true] rfl rfl (T_L_law_1330 G L xs hL hxs rec_18 x3 M0 hrec_18)
      · refine j_iconst ⟨by decide, by decide⟩ d_L_law_1036 ?_
        refine j_wid (k' := 600000) (q' := 7302250) (by decide) (by decide) ?_
        exact j_zret d_L_law_1037 rfl (Or.inl rfl) rfl ⟨rfl, rfl⟩
    refine tp_ite (fun h153 => ?_) (fun h153 => ?_)
    · refine j_tsin (tgt := 1038) d_L_law_33 (by omega) (by omega) (off := 1005) (by rw [h153]; decide +kernel) (by decide) ?_
      refine j_aload_n rfl d_L_law_1038 rfl ?_
      refine j_aload_n rfl d_L_law_1039 rfl ?_
      refine j_iload_n rfl d_L_law_1040 rfl ?_
      refine j_iconst ⟨by decide, by decide⟩ d_L_law_1041 ?_
      refine j_iadd d_L_law_1042 ?_
      refine j_sldL hL hxs d_L_law_1043 ?_
      refine j_aload_n rfl d_L_law_1044 rfl ?_
      refine j_iload_n rfl d_L_law_1045 rfl ?_
      refine j_iconst ⟨by decide, by decide⟩ d_L_law_1046 ?_
      refine j_iadd d_L_law_1047 ?_
      refine j_sldL hL hxs d_L_law_1048 ?_
      refine j_aload_n rfl d_L_law_1049 rfl ?_
      refine j_iload_n rfl d_L_law_1050 rfl ?_
      refine j_iconst ⟨by decide, by decide⟩ d_L_law_1051 ?_
      refine j_iadd d_L_law_1052 ?_
      refine j_sldL hL hxs d_L_law_1053 ?_
      refine j_bind (fun r154 h155 => ?_)
      refine j_callV (y := y_X10_whyNot) (I' := i_X10_whyNot) (avs := [.inl (xs (tp_w (x3 + 1))), .inl (xs (tp_w (x3 + 2))), .inl (xs (tp_w (x3 + 3)))]) (c := 0) (st := []) (c_X10_whyNot G (xs (tp_w (x3 + 1))) (xs (tp_w (x3 + 2))) (xs (tp_w (x3 + 3))) M0 r154 h155) cs_MainLaw_121 wd_969 wd_962 wd_963 tg_0 rfl rfl rfl (Nat.le_of_ble_eq_true rfl) ⟨rfl, rfl⟩ ⟨by decide, by decide⟩ ⟨Nat.le_of_ble_eq_true rfl, Nat.le_of_ble_eq_true rfl⟩ d_L_law_1054 ?_
      refine j_aload_n rfl d_L_law_1057 rfl ?_
      refine j_aload_n rfl d_L_law_1058 rfl ?_
      refine j_iload_n rfl d_L_law_1059 rfl ?_
      refine j_iconst ⟨by decide, by decide⟩ d_L_law_1060 ?_
      refine j_iadd d_L_law_1061 ?_
      refine j_sldL hL hxs d_L_law_1062 ?_
      refine j_aload_n rfl d_L_law_1063 rfl ?_
      refine j_iload_n rfl d_L_law_1064 rfl ?_
      refine j_iconst ⟨by decide, by decide⟩ d_L_law_1065 ?_
      refine j_iadd d_L_law_1066 ?_
      refine j_sldL hL hxs d_L_law_1067 ?_
      refine j_aload_n rfl d_L_law_1068 rfl ?_
      refine j_iload_n rfl d_L_law_1069 rfl ?_
      refine j_iconst ⟨by decide, by decide⟩ d_L_law_1070 ?_
      refine j_iadd d_L_law_1071 ?_
      refine j_sldL hL hxs d_L_law_1072 ?_
      refine j_bind (fun r156 h157 => ?_)
      refine j_callV (y := y_X11_whyNot) (I' := i_X11_whyNot) (avs := [.inl (xs (tp_w (x3 + 1))), .inl (xs (tp_w (x3 + 2))), .inl (xs (tp_w (x3 + 3)))]) (c := 483) (st := [.inl r154]) (c_X11_whyNot G (xs (tp_w (x3 + 1))) (xs (tp_w (x3 + 2))) (xs (tp_w (x3 + 3))) M0 r156 h157) cs_MainLaw_124 wd_1599 wd_1600 wd_1601 tg_483 rfl rfl rfl (Nat.le_of_ble_eq_true rfl) ⟨rfl, rfl⟩ ⟨by decide, by decide⟩ ⟨Nat.le_of_ble_eq_true rfl, Nat.le_of_ble_eq_true rfl⟩ d_L_law_1073 ?_
      refine j_icmp_eq (tgt := 1330) d_L_law_1076 (by decide) (fun h158 => ?_) (fun h158 => ?_)
      · exact j_wk [true, true, true, true] rfl rfl (T_L_law_1330 G L xs hL hxs rec_18 x3 M0 hrec_18)
      · refine j_iconst ⟨by decide, by decide⟩ d_L_law_1079 ?_
        refine j_wid (k' := 600000) (q' := 7302250) (by decide) (by decide) ?_
        exact j_zret d_L_law_1080 rfl (Or.inl rfl) rfl ⟨rfl, rfl⟩
    refine tp_ite (fun h159 => ?_) (fun h159 => ?_)
    · refine j_tsin (tgt := 1081) d_L_law_33 (by omega) (by omega) (off := 1048) (by rw [h159]; decide +kernel) (by decide) ?_
      refine j_aload_n rfl d_L_law_1081 rfl ?_
      refine j_aload_n rfl d_L_law_1082 rfl ?_
      refine j_iload_n rfl d_L_law_1083 rfl ?_
      refine j_iconst ⟨by decide, by decide⟩ d_L_law_1084 ?_
      refine j_iadd d_L_law_1085 ?_
      refine j_sldL hL hxs d_L_law_1086 ?_
      refine j_aload_n rfl d_L_law_1087 rfl ?_
      refine j_iload_n rfl d_L_law_1088 rfl ?_
      refine j_iconst ⟨by decide, by decide⟩ d_L_law_1089 ?_
      refine j_iadd d_L_law_1090 ?_
      refine j_sldL hL hxs d_L_law_1091 ?_
      refine j_aload_n rfl d_L_law_1092 rfl ?_
      refine j_iload_n rfl d_L_law_1093 rfl ?_
      refine j_iconst ⟨by decide, by decide⟩ d_L_law_1094 ?_
      refine j_iadd d_L_law_1095 ?_
      refine j_sldL hL hxs d_L_law_1096 ?_
      refine j_bind (fun r160 h161 => ?_)
      refine j_callV (y := y_X10_spill) (I' := i_X10_spill) (avs := [.inl (xs (tp_w (x3 + 1))), .inl (xs (tp_w (x3 + 2))), .inl (xs (tp_w (x3 + 3)))]) (c := 0) (st := []) (c_X10_spill G (xs (tp_w (x3 + 1))) (xs (tp_w (x3 + 2))) (xs (tp_w (x3 + 3))) M0 r160 h161) cs_MainLaw_125 wd_970 wd_971 wd_972 tg_0 rfl rfl rfl (Nat.le_of_ble_eq_true rfl) ⟨rfl, rfl⟩ ⟨by decide, by decide⟩ ⟨Nat.le_of_ble_eq_true rfl, Nat.le_of_ble_eq_true rfl⟩ d_L_law_1097 ?_
      refine j_aload_n rfl d_L_law_1100 rfl ?_
      refine j_aload_n rfl d_L_law_1101 rfl ?_
      refine j_iload_n rfl d_L_law_1102 rfl ?_
      refine j_iconst ⟨by decide, by decide⟩ d_L_law_1103 ?_
      refine j_iadd d_L_law_1104 ?_
      refine j_sldL hL hxs d_L_law_1105 ?_
      refine j_aload_n rfl d_L_law_1106 rfl ?_
      refine j_iload_n rfl d_L_law_1107 rfl ?_
      refine j_iconst ⟨by decide, by decide⟩ d_L_law_1108 ?_
      refine j_iadd d_L_law_1109 ?_
      refine j_sldL hL hxs d_L_law_1110 ?_
      refine j_aload_n rfl d_L_law_1111 rfl ?_
      refine j_iload_n rfl d_L_law_1112 rfl ?_
      refine j_iconst ⟨by decide, by decide⟩ d_L_law_1113 ?_
      refine j_iadd d_L_law_1114 ?_
      refine j_sldL hL hxs d_L_law_1115 ?_
      refine j_bind (fun r162 h163 => ?_)
      refine j_callV (y := y_X11_spill) (I' := i_X11_spill) (avs := [.inl (xs (tp_w (x3 + 1))), .inl (xs (tp_w (x3 + 2))), .inl (xs (tp_w (x3 + 3)))]) (c := 483) (st := [.inl r160.1]) (c_X11_spill G (xs (tp_w (x3 + 1))) (xs (tp_w (x3 + 2))) (xs (tp_w (x3 + 3))) r160.2 r162 h163) cs_MainLaw_128 wd_1603 wd_1604 wd_1605 tg_483 rfl rfl rfl (Nat.le_of_ble_eq_true rfl) ⟨rfl, rfl⟩ ⟨by decide, by decide⟩ ⟨Nat.le_of_ble_eq_true rfl, Nat.le_of_ble_eq_true rfl⟩ d_L_law_1116 ?_
      refine j_icmp_eq (tgt := 1330) d_L_law_1119 (by decide) (fun h164 => ?_) (fun h164 => ?_)
      · exact j_wk [true, true, true, true] rfl rfl (T_L_law_1330 G L xs hL hxs rec_18 x3 r162.2 hrec_18)
      · refine j_iconst ⟨by decide, by decide⟩ d_L_law_1122 ?_
        refine j_wid (k' := 600000) (q' := 7302250) (by decide) (by decide) ?_
        exact j_zret d_L_law_1123 rfl (Or.inl rfl) rfl ⟨rfl, rfl⟩
    refine tp_ite (fun h165 => ?_) (fun h165 => ?_)
    · refine j_tsin (tgt := 1124) d_L_law_33 (by omega) (by omega) (off := 1091) (by rw [h165]; decide +kernel) (by decide) ?_
      refine j_aload_n rfl d_L_law_1124 rfl ?_
      refine j_aload_n rfl d_L_law_1125 rfl ?_
      refine j_iload_n rfl d_L_law_1126 rfl ?_
      refine j_iconst ⟨by decide, by decide⟩ d_L_law_1127 ?_
      refine j_iadd d_L_law_1128 ?_
      refine j_sldL hL hxs d_L_law_1129 ?_
      refine j_aload_n rfl d_L_law_1130 rfl ?_
      refine j_iload_n rfl d_L_law_1131 rfl ?_
      refine j_iconst ⟨by decide, by decide⟩ d_L_law_1132 ?_
      refine j_iadd d_L_law_1133 ?_
      refine j_sldL hL hxs d_L_law_1134 ?_
      refine j_aload_n rfl d_L_law_1135 rfl ?_
      refine j_iload_n rfl d_L_law_1136 rfl ?_
      refine j_iconst ⟨by decide, by decide⟩ d_L_law_1137 ?_
      refine j_iadd d_L_law_1138 ?_
      refine j_sldL hL hxs d_L_law_1139 ?_
      refine j_bind (fun r166 h167 => ?_)
      refine j_callV (y := y_X10_sheet) (I' := i_X10_sheet) (avs := [.inl (xs (tp_w (x3 + 1))), .inl (xs (tp_w (x3 + 2))), .inl (xs (tp_w (x3 + 3)))]) (c := 0) (st := []) (c_X10_sheet G (xs (tp_w (x3 + 1))) (xs (tp_w (x3 + 2))) (xs (tp_w (x3 + 3))) M0 r166 h167) cs_MainLaw_129 wd_980 wd_981 wd_982 tg_0 rfl rfl rfl (Nat.le_of_ble_eq_true rfl) ⟨rfl, rfl⟩ ⟨by decide, by decide⟩ ⟨Nat.le_of_ble_eq_true rfl, Nat.le_of_ble_eq_true rfl⟩ d_L_law_1140 ?_
      refine j_aload_n rfl d_L_law_1143 rfl ?_
      refine j_aload_n rfl d_L_law_1144 rfl ?_
      refine j_iload_n rfl d_L_law_1145 rfl ?_
      refine j_iconst ⟨by decide, by decide⟩ d_L_law_1146 ?_
      refine j_iadd d_L_law_1147 ?_
      refine j_sldL hL hxs d_L_law_1148 ?_
      refine j_aload_n rfl d_L_law_1149 rfl ?_
      refine j_iload_n rfl d_L_law_1150 rfl ?_
      refine j_iconst ⟨by decide, by decide⟩ d_L_law_1151 ?_
      refine j_iadd d_L_law_1152 ?_
      refine j_sldL hL hxs d_L_law_1153 ?_
      refine j_aload_n rfl d_L_law_1154 rfl ?_
      refine j_iload_n rfl d_L_law_1155 rfl ?_
      refine j_iconst ⟨by decide, by decide⟩ d_L_law_1156 ?_
      refine j_iadd d_L_law_1157 ?_
      refine j_sldL hL hxs d_L_law_1158 ?_
      refine j_bind (fun r168 h169 => ?_)
      refine j_callV (y := y_X11_sheet) (I' := i_X11_sheet) (avs := [.inl (xs (tp_w (x3 + 1))), .inl (xs (tp_w (x3 + 2))), .inl (xs (tp_w (x3 + 3)))]) (c := 483) (st := [.inl r166.1]) (c_X11_sheet G (xs (tp_w (x3 + 1))) (xs (tp_w (x3 + 2))) (xs (tp_w (x3 + 3))) r166.2 r168 h169) cs_MainLaw_132 wd_1611 wd_1612 wd_1613 tg_483 rfl rfl rfl (Nat.le_of_ble_eq_true rfl) ⟨rfl, rfl⟩ ⟨by decide, by decide⟩ ⟨Nat.le_of_ble_eq_true rfl, Nat.le_of_ble_eq_true rfl⟩ d_L_law_1159 ?_
      refine j_icmp_eq (tgt := 1330) d_L_law_1162 (by decide) (fun h170 => ?_) (fun h170 => ?_)
      · exact j_wk [true, true, true, true] rfl rfl (T_L_law_1330 G L xs hL hxs rec_18 x3 r168.2 hrec_18)
      · refine j_iconst ⟨by decide, by decide⟩ d_L_law_1165 ?_
        refine j_wid (k' := 600000) (q' := 7302250) (by decide) (by decide) ?_
        exact j_zret d_L_law_1166 rfl (Or.inl rfl) rfl ⟨rfl, rfl⟩
    refine tp_ite (fun h171 => ?_) (fun h171 => ?_)
    · refine j_tsin (tgt := 1167) d_L_law_33 (by omega) (by omega) (off := 1134) (by rw [h171]; decide +kernel) (by decide) ?_
      refine j_aload_n rfl d_L_law_1167 rfl ?_
      refine j_aload_n rfl d_L_law_1168 rfl ?_
      refine j_iload_n rfl d_L_law_1169 rfl ?_
      refine j_iconst ⟨by decide, by decide⟩ d_L_law_1170 ?_
      refine j_iadd d_L_law_1171 ?_
      refine j_sldL hL hxs d_L_law_1172 ?_
      refine j_aload_n rfl d_L_law_1173 rfl ?_
      refine j_iload_n rfl d_L_law_1174 rfl ?_
      refine j_iconst ⟨by decide, by decide⟩ d_L_law_1175 ?_
      refine j_iadd d_L_law_1176 ?_
      refine j_sldL hL hxs d_L_law_1177 ?_
      refine j_aload_n rfl d_L_law_1178 rfl ?_
      refine j_iload_n rfl d_L_law_1179 rfl ?_
      refine j_iconst ⟨by decide, by decide⟩ d_L_law_1180 ?_
      refine j_iadd d_L_law_1181 ?_
      refine j_sldL hL hxs d_L_law_1182 ?_
      refine j_bind (fun r172 h173 => ?_)
      refine j_callV (y := y_X10_cell) (I' := i_X10_cell) (avs := [.inl (xs (tp_w (x3 + 1))), .inl (xs (tp_w (x3 + 2))), .inl (xs (tp_w (x3 + 3)))]) (c := 0) (st := []) (c_X10_cell G (xs (tp_w (x3 + 1))) (xs (tp_w (x3 + 2))) (xs (tp_w (x3 + 3))) M0 r172 h173) cs_MainLaw_133 wd_989 wd_990 wd_991 tg_0 rfl rfl rfl (Nat.le_of_ble_eq_true rfl) ⟨rfl, rfl⟩ ⟨by decide, by decide⟩ ⟨Nat.le_of_ble_eq_true rfl, Nat.le_of_ble_eq_true rfl⟩ d_L_law_1183 ?_
      refine j_aload_n rfl d_L_law_1186 rfl ?_
      refine j_aload_n rfl d_L_law_1187 rfl ?_
      refine j_iload_n rfl d_L_law_1188 rfl ?_
      refine j_iconst ⟨by decide, by decide⟩ d_L_law_1189 ?_
      refine j_iadd d_L_law_1190 ?_
      refine j_sldL hL hxs d_L_law_1191 ?_
      refine j_aload_n rfl d_L_law_1192 rfl ?_
      refine j_iload_n rfl d_L_law_1193 rfl ?_
      refine j_iconst ⟨by decide, by decide⟩ d_L_law_1194 ?_
      refine j_iadd d_L_law_1195 ?_
      refine j_sldL hL hxs d_L_law_1196 ?_
      refine j_aload_n rfl d_L_law_1197 rfl ?_
      refine j_iload_n rfl d_L_law_1198 rfl ?_
      refine j_iconst ⟨by decide, by decide⟩ d_L_law_1199 ?_
      refine j_iadd d_L_law_1200 ?_
      refine j_sldL hL hxs d_L_law_1201 ?_
      refine j_bind (fun r174 h175 => ?_)
      refine j_callV (y := y_X11_cell) (I' := i_X11_cell) (avs := [.inl (xs (tp_w (x3 + 1))), .inl (xs (tp_w (x3 + 2))), .inl (xs (tp_w (x3 + 3)))]) (c := 483) (st := [.inl r172.1]) (c_X11_cell G (xs (tp_w (x3 + 1))) (xs (tp_w (x3 + 2))) (xs (tp_w (x3 + 3))) r172.2 r174 h175) cs_MainLaw_136 wd_1615 wd_1616 wd_1617 tg_483 rfl rfl rfl (Nat.le_of_ble_eq_true rfl) ⟨rfl, rfl⟩ ⟨by decide, by decide⟩ ⟨Nat.le_of_ble_eq_true rfl, Nat.le_of_ble_eq_true rfl⟩ d_L_law_1202 ?_
      refine j_icmp_eq (tgt := 1330) d_L_law_1205 (by decide) (fun h176 => ?_) (fun h176 => ?_)
      · exact j_wk [true, true, true, true] rfl rfl (T_L_law_1330 G L xs hL hxs rec_18 x3 r174.2 hrec_18)
      · refine j_iconst ⟨by decide, by decide⟩ d_L_law_1208 ?_
        refine j_wid (k' := 600000) (q' := 7302250) (by decide) (by decide) ?_
        exact j_zret d_L_law_1209 rfl (Or.inl rfl) rfl ⟨rfl, rfl⟩
    refine tp_ite (fun h177 => ?_) (fun h177 => ?_)
    · refine j_tsin (tgt := 1210) d_L_law_33 (by omega) (by omega) (off := 1177) (by rw [h177]; decide +kernel) (by decide) ?_
      refine j_aload_n rfl d_L_law_1210 rfl ?_
      refine j_aload_n rfl d_L_law_1211 rfl ?_
      refine j_iload_n rfl d_L_law_1212 rfl ?_
      refine j_iconst ⟨by decide, by decide⟩ d_L_law_1213 ?_
      refine j_iadd d_L_law_1214 ?_
      refine j_sldL hL hxs d_L_law_1215 ?_
      refine j_aload_n rfl d_L_law_1216 rfl ?_
      refine j_iload_n rfl d_L_law_1217 rfl ?_
      refine j_iconst ⟨by decide, by decide⟩ d_L_law_1218 ?_
      refine j_iadd d_L_law_1219 ?_
      refine j_sldL hL hxs d_L_law_1220 ?_
      refine j_bind (fun r178 h179 => ?_)
      refine j_callV (y := y_X10_item) (I' := i_X10_item) (avs := [.inl (xs (tp_w (x3 + 1))), .inl (xs (tp_w (x3 + 2)))]) (c := 0) (st := []) (c_X10_item G (xs (tp_w (x3 + 1))) (xs (tp_w (x3 + 2))) M0 r178 h179) cs_MainLaw_137 wd_993 wd_994 wd_995 tg_0 rfl rfl rfl (Nat.le_of_ble_eq_true rfl) ⟨rfl, rfl⟩ ⟨by decide, by decide⟩ ⟨Nat.le_of_ble_eq_true rfl, Nat.le_of_ble_eq_true rfl⟩ d_L_law_1221 ?_
      refine j_aload_n rfl d_L_law_1224 rfl ?_
      refine j_aload_n rfl d_L_law_1225 rfl ?_
      refine j_iload_n rfl d_L_law_1226 rfl ?_
      refine j_iconst ⟨by decide, by decide⟩ d_L_law_1227 ?_
      refine j_iadd d_L_law_1228 ?_
      refine j_sldL hL hxs d_L_law_1229 ?_
      refine j_aload_n rfl d_L_law_1230 rfl ?_
      refine j_iload_n rfl d_L_law_1231 rfl ?_
      refine j_iconst ⟨by decide, by decide⟩ d_L_law_1232 ?_
      refine j_iadd d_L_law_1233 ?_
      refine j_sldL hL hxs d_L_law_1234 ?_
      refine j_bind (fun r180 h181 => ?_)
      refine j_callV (y := y_X11_item) (I' := i_X11_item) (avs := [.inl (xs (tp_w (x3 + 1))), .inl (xs (tp_w (x3 + 2)))]) (c := 483) (st := [.inr (.inl r178)]) (c_X11_item G (xs (tp_w (x3 + 1))) (xs (tp_w (x3 + 2))) M0 r180 h181) cs_MainLaw_140 wd_1619 wd_1620 wd_1621 tg_483 rfl rfl rfl (Nat.le_of_ble_eq_true rfl) ⟨rfl, rfl⟩ ⟨by decide, by decide⟩ ⟨Nat.le_of_ble_eq_true rfl, Nat.le_of_ble_eq_true rfl⟩ d_L_law_1235 ?_
      refine j_lcmp_eq (tgt := 1330) d_L_law_1238 rfl d_L_law_1239 (by decide) (fun h182 => ?_) (fun h182 => ?_)
      · exact j_wk [true, true, true, true] rfl rfl (T_L_law_1330 G L xs hL hxs rec_18 x3 M0 hrec_18)
      · refine j_iconst ⟨by decide, by decide⟩ d_L_law_1242 ?_
        refine j_wid (k' := 600000) (q' := 7302250) (by decide) (by decide) ?_
        exact j_zret d_L_law_1243 rfl (Or.inl rfl) rfl ⟨rfl, rfl⟩
    refine tp_ite (fun h183 => ?_) (fun h183 => ?_)
    · refine j_tsin (tgt := 1244) d_L_law_33 (by omega) (by omega) (off := 1211) (by rw [h183]; decide +kernel) (by decide) ?_
      refine j_aload_n rfl d_L_law_1244 rfl ?_
      refine j_aload_n rfl d_L_law_1245 rfl ?_
      refine j_iload_n rfl d_L_law_1246 rfl ?_
      refine j_iconst ⟨by decide, by decide⟩ d_L_law_1247 ?_
      refine j_iadd d_L_law_1248 ?_
      refine j_sldL hL hxs d_L_law_1249 ?_
      refine j_aload_n rfl d_L_law_1250 rfl ?_
      refine j_iload_n rfl d_L_law_1251 rfl ?_
      refine j_iconst ⟨by decide, by decide⟩ d_L_law_1252 ?_
      refine j_iadd d_L_law_1253 ?_
      refine j_sldL hL hxs d_L_law_1254 ?_
      refine j_aload_n rfl d_L_law_1255 rfl ?_
      refine j_iload_n rfl d_L_law_1256 rfl ?_
      refine j_iconst ⟨by decide, by decide⟩ d_L_law_1257 ?_
      refine j_iadd d_L_law_1258 ?_
      refine j_sldL hL hxs d_L_law_1259 ?_
      refine j_aload_n rfl d_L_law_1260 rfl ?_
      refine j_iload_n rfl d_L_law_1261 rfl ?_
      refine j_iconst ⟨by decide, by decide⟩ d_L_law_1262 ?_
      refine j_iadd d_L_law_1263 ?_
      refine j_sldL hL hxs d_L_law_1264 ?_
      refine j_aload_n rfl d_L_law_1265 rfl ?_
      refine j_iload_n rfl d_L_law_1266 rfl ?_
      refine j_iconst ⟨by decide, by decide⟩ d_L_law_1267 ?_
      refine j_iadd d_L_law_1268 ?_
      refine j_sldL hL hxs d_L_law_1269 ?_
      refine j_bind (fun r184 h185 => ?_)
      refine j_callV (y := y_X10_shift) (I' := i_X10_shift) (avs := [.inl (xs (tp_w (x3 + 1))), .inl (xs (tp_w (x3 + 2))), .inl (xs (tp_w (x3 + 3))), .inl (xs (tp_w (x3 + 4))), .inl (xs (tp_w (x3 + 5)))]) (c := 0) (st := []) (c_X10_shift G (xs (tp_w (x3 + 1))) (xs (tp_w (x3 + 2))) (xs (tp_w (x3 + 3))) (xs (tp_w (x3 + 4))) (xs (tp_w (x3 + 5))) M0 r184 h185) cs_MainLaw_141 wd_997 wd_998 wd_999 tg_0 rfl rfl rfl (Nat.le_of_ble_eq_true rfl) ⟨rfl, rfl⟩ ⟨by decide, by decide⟩ ⟨Nat.le_of_ble_eq_true rfl, Nat.le_of_ble_eq_true rfl⟩ d_L_law_1270 ?_
      refine j_aload_n rfl d_L_law_1273 rfl ?_
      refine j_aload_n rfl d_L_law_1274 rfl ?_
      refine j_iload_n rfl d_L_law_1275 rfl ?_
      refine j_iconst ⟨by decide, by decide⟩ d_L_law_1276 ?_
      refine j_iadd d_L_law_1277 ?_
      refine j_sldL hL hxs d_L_law_1278 ?_
      refine j_aload_n rfl d_L_law_1279 rfl ?_
      refine j_iload_n rfl d_L_law_1280 rfl ?_
      refine j_iconst ⟨by decide, by decide⟩ d_L_law_1281 ?_
      refine j_iadd d_L_law_1282 ?_
      refine j_sldL hL hxs d_L_law_1283 ?_
      refine j_aload_n rfl d_L_law_1284 rfl ?_
      refine j_iload_n rfl d_L_law_1285 rfl ?_
      refine j_iconst ⟨by decide, by decide⟩ d_L_law_1286 ?_
      refine j_iadd d_L_law_1287 ?_
      refine j_sldL hL hxs d_L_law_1288 ?_
      refine j_aload_n rfl d_L_law_1289 rfl ?_
      refine j_iload_n rfl d_L_law_1290 rfl ?_
      refine j_iconst ⟨by decide, by decide⟩ d_L_law_1291 ?_
      refine j_iadd d_L_law_1292 ?_
      refine j_sldL hL hxs d_L_law_1293 ?_
      refine j_aload_n rfl d_L_law_1294 rfl ?_
      refine j_iload_n rfl d_L_law_1295 rfl ?_
      refine j_iconst ⟨by decide, by decide⟩ d_L_law_1296 ?_
      refine j_iadd d_L_law_1297 ?_
      refine j_sldL hL hxs d_L_law_1298 ?_
      refine j_bind (fun r186 h187 => ?_)
      refine j_callV (y := y_X11_shift) (I' := i_X11_shift) (avs := [.inl (xs (tp_w (x3 + 1))), .inl (xs (tp_w (x3 + 2))), .inl (xs (tp_w (x3 + 3))), .inl (xs (tp_w (x3 + 4))), .inl (xs (tp_w (x3 + 5)))]) (c := 483) (st := [.inl r184.1]) (c_X11_shift G (xs (tp_w (x3 + 1))) (xs (tp_w (x3 + 2))) (xs (tp_w (x3 + 3))) (xs (tp_w (x3 + 4))) (xs (tp_w (x3 + 5))) r184.2 r186 h187) cs_MainLaw_144 wd_1623 wd_1624 wd_1625 tg_483 rfl rfl rfl (Nat.le_of_ble_eq_true rfl) ⟨rfl, rfl⟩ ⟨by decide, by decide⟩ ⟨Nat.le_of_ble_eq_true rfl, Nat.le_of_ble_eq_true rfl⟩ d_L_law_1299 ?_
      refine j_icmp_eq (tgt := 1330) d_L_law_1302 (by decide) (fun h188 => ?_) (fun h188 => ?_)
      · exact j_wk [true, true, true, true] rfl rfl (T_L_law_1330 G L xs hL hxs rec_18 x3 r186.2 hrec_18)
      · refine j_iconst ⟨by decide, by decide⟩ d_L_law_1305 ?_
        refine j_wid (k' := 600000) (q' := 7302250) (by decide) (by decide) ?_
        exact j_zret d_L_law_1306 rfl (Or.inl rfl) rfl ⟨rfl, rfl⟩
    refine tp_ite (fun h189 => ?_) (fun h189 => ?_)
    · refine j_tsin (tgt := 1307) d_L_law_33 (by omega) (by omega) (off := 1274) (by rw [h189]; decide +kernel) (by decide) ?_
      refine j_aload_n rfl d_L_law_1307 rfl ?_
      refine j_aload_n rfl d_L_law_1308 rfl ?_
      refine j_iload_n rfl d_L_law_1309 rfl ?_
      refine j_iconst ⟨by decide, by decide⟩ d_L_law_1310 ?_
      refine j_iadd d_L_law_1311 ?_
      refine j_sldL hL hxs d_L_law_1312 ?_
      refine j_bind (fun r190 h191 => ?_)
      refine j_callV (y := y_X10_count) (I' := i_X10_count) (avs := [.inl (xs (tp_w (x3 + 1)))]) (c := 0) (st := []) (c_X10_count G (xs (tp_w (x3 + 1))) M0 r190 h191) cs_MainLaw_145 wd_1006 wd_1007 wd_1008 tg_0 rfl rfl rfl (Nat.le_of_ble_eq_true rfl) ⟨rfl, rfl⟩ ⟨by decide, by decide⟩ ⟨Nat.le_of_ble_eq_true rfl, Nat.le_of_ble_eq_true rfl⟩ d_L_law_1313 ?_
      refine j_aload_n rfl d_L_law_1316 rfl ?_
      refine j_aload_n rfl d_L_law_1317 rfl ?_
      refine j_iload_n rfl d_L_law_1318 rfl ?_
      refine j_iconst ⟨by decide, by decide⟩ d_L_law_1319 ?_
      refine j_iadd d_L_law_1320 ?_
      refine j_sldL hL hxs d_L_law_1321 ?_
      refine j_bind (fun r192 h193 => ?_)
      refine j_callV (y := y_X11_count) (I' := i_X11_count) (avs := [.inl (xs (tp_w (x3 + 1)))]) (c := 483) (st := [.inl r190]) (c_X11_count G (xs (tp_w (x3 + 1))) M0 r192 h193) cs_MainLaw_148 wd_1627 wd_1628 wd_1629 tg_483 rfl rfl rfl (Nat.le_of_ble_eq_true rfl) ⟨rfl, rfl⟩ ⟨by decide, by decide⟩ ⟨Nat.le_of_ble_eq_true rfl, Nat.le_of_ble_eq_true rfl⟩ d_L_law_1322 ?_
      refine j_icmp_eq (tgt := 1330) d_L_law_1325 (by decide) (fun h194 => ?_) (fun h194 => ?_)
      · exact j_wk [true, true, true, true] rfl rfl (T_L_law_1330 G L xs hL hxs rec_18 x3 M0 hrec_18)
      · refine j_iconst ⟨by decide, by decide⟩ d_L_law_1328 ?_
        refine j_wid (k' := 600000) (q' := 7302250) (by decide) (by decide) ?_
        exact j_zret d_L_law_1329 rfl (Or.inl rfl) rfl ⟨rfl, rfl⟩
    refine j_tsout (tgt := 1330) d_L_law_33 (by omega) (by decide) ?_
    exact j_wk [true, true, true, true] rfl rfl (T_L_law_1330 G L xs hL hxs rec_18 x3 M0 hrec_18)
def f_L_law_18 (L : Int) (xs : Int → Int) (x3 : Int) (M0 : tp_M) : Option (Int × tp_M) := tp_lp (σ := Int × tp_M) (fun rec_ u => f_L_law_18B L xs (fun x3' M0' => rec_ (x3', M0')) u.1 u.2) tp_N (x3, M0)
set_option maxHeartbeats 4000000 in
set_option maxRecDepth 100000 in
theorem T_L_law_18 (G : tp_G) (L : Int) (xs : Int → Int) (hL : (G.2.1 301 : Int) = L ∧ G.2.1 301 ≤ 3072) (hxs : ∀ i : Int, (Int32.ofNat (G.2.1 (302 + i.toNat))).toInt = xs i) (x3 : Int) (M0 : tp_M) : tp_J i_L_law room_1 G 600000 7302250 o_L_law tp_NC (tp_st M0) 535 8334 [some (.inr (.inr (-302))), some (.inr (.inr 0)), some (.inr (.inr 483)), some (.inl x3)] 18 [] (f_L_law_18 L xs x3 M0) := by
  unfold f_L_law_18
  exact j_lp (σ := Int × tp_M) (n' := fun _ => tp_NC) (g' := fun u => tp_st u.2) (k' := fun _ => 535) (q' := fun _ => 8334) (lv' := fun u => [some (.inr (.inr (-302))), some (.inr (.inr 0)), some (.inr (.inr 483)), some (.inl u.1)]) (fun rec_ hrec u => T_L_law_18B G L xs hL hxs (fun x3' M0' => rec_ (x3', M0')) (fun x3' M0' => hrec (x3', M0')) u.1 u.2) tp_N (x3, M0)
