/-! ===== the walks ===== -/

set_option maxHeartbeats 4000000 in
theorem v_L_law_228 {w : Wo} {K : Kn} {cl sl : Nat} (hcl : cl + 1 ≤ 600000) (hsl : sl + 5 ≤ 7302250) (k18 : Mem → Nat → Nat → Int32 → Option Int32) (hk18 : ∀ (m : Mem) (a1 : Nat) (a2 : Nat) (x3 : Int32) (cl2 sl2 : Nat), K a1 = some (.inl 7) → K a2 = some (.inl 8) → cl2 ≤ cl + 1 → sl2 ≤ sl + 5 → k18 m a1 a2 x3 = some 1 → VV w RL cL_law 4 (some .boolean) room_1 false (QL w) K 18 [some (.ref w.2.2.2.2.1), some (.ref a1), some (.ref a2), some (.int x3)] [] cl2 sl2 m) {m : Mem} {a1 : Nat} {a2 : Nat} {x3 : Int32} (t_a1 : K a1 = some (.inl 7)) (t_a2 : K a2 = some (.inl 8)) (hf : f_L_law_228 K w.2.2.2.2.2.1 w.2.2.2.2.2.2 k18 m a1 a2 x3 = some 1) : VV w RL cL_law 4 (some .boolean) room_1 false (QL w) K 228 [some (.ref w.2.2.2.2.1), some (.ref a1), some (.ref a2), some (.int x3)] [] cl sl m := by
  unfold f_L_law_228 at hf
  refine vv_aload_n 229 dL_law_228 rfl rfl ?_
  refine vv_aload_n 230 dL_law_229 rfl rfl ?_
  refine vv_iload_n 231 dL_law_230 rfl rfl ?_
  refine vv_iconst 232 (v := 1) dL_law_231 rfl (by decide) ?_
  refine vv_iadd 233 dL_law_232 rfl ?_
  obtain ⟨h1, hf⟩ := gd_s hf
  refine vv_scr 234 dL_law_233 rfl h1 ?_
  refine vv_aload_n 235 dL_law_234 rfl rfl ?_
  refine vv_iload_n 236 dL_law_235 rfl rfl ?_
  refine vv_iconst 237 (v := 2) dL_law_236 rfl (by decide) ?_
  refine vv_iadd 238 dL_law_237 rfl ?_
  obtain ⟨h2, hf⟩ := gd_s hf
  refine vv_scr 239 dL_law_238 rfl h2 ?_
  obtain ⟨q3, g_q3, hf⟩ := bind_s hf
  refine vv_callV 242 (st := []) (As := [.int (w.2.2.2.2.2.2 (x3 + (1 : Int32)).toNatClampNeg), .int (w.2.2.2.2.2.2 (x3 + (2 : Int32)).toNatClampNeg)]) (stk2 := [.int q3.1]) (cl2 := cl) (sl2 := sl) dL_law_239 rfl lk_RL_13 w_450 w_451 rfl t_a1 ⟨(Nat.le_of_ble_eq_true rfl), (Nat.le_of_ble_eq_true rfl)⟩ rfl rfl ⟨Nat.le_trans (Nat.add_le_add_left (by decide) _) hcl, Nat.le_trans (Nat.add_le_add_left (by decide) _) hsl⟩ rfl (Nat.le_of_ble_eq_true rfl) rfl rfl rfl rfl (c_X8_begins t_a1 g_q3) ?_
  refine vv_aload_n 243 dL_law_242 rfl rfl ?_
  refine vv_aload_n 244 dL_law_243 rfl rfl ?_
  refine vv_iload_n 245 dL_law_244 rfl rfl ?_
  refine vv_iconst 246 (v := 1) dL_law_245 rfl (by decide) ?_
  refine vv_iadd 247 dL_law_246 rfl ?_
  obtain ⟨h4, hf⟩ := gd_s hf
  refine vv_scr 248 dL_law_247 rfl h4 ?_
  refine vv_aload_n 249 dL_law_248 rfl rfl ?_
  refine vv_iload_n 250 dL_law_249 rfl rfl ?_
  refine vv_iconst 251 (v := 2) dL_law_250 rfl (by decide) ?_
  refine vv_iadd 252 dL_law_251 rfl ?_
  obtain ⟨h5, hf⟩ := gd_s hf
  refine vv_scr 253 dL_law_252 rfl h5 ?_
  obtain ⟨q6, g_q6, hf⟩ := bind_s hf
  refine vv_callV 256 (st := [.int q3.1]) (As := [.int (w.2.2.2.2.2.2 (x3 + (1 : Int32)).toNatClampNeg), .int (w.2.2.2.2.2.2 (x3 + (2 : Int32)).toNatClampNeg)]) (stk2 := [.int q6.1, .int q3.1]) (cl2 := cl) (sl2 := sl) dL_law_253 rfl lk_RL_17 w_1201 w_1202 rfl t_a2 ⟨(Nat.le_of_ble_eq_true rfl), (Nat.le_of_ble_eq_true rfl)⟩ rfl rfl ⟨Nat.le_trans (Nat.add_le_add_left (by decide) _) hcl, Nat.le_trans (Nat.add_le_add_left (by decide) _) hsl⟩ rfl (Nat.le_of_ble_eq_true rfl) rfl rfl rfl rfl (c_X9_begins t_a2 g_q6) ?_
  refine vv_icmp_eq 2058 259 dL_law_256 rfl (by decide) (fun c7 => ?_) (fun c7 => ?_)
  · rw [if_pos c7] at hf
    obtain ⟨z8, e_z8, hf⟩ := bd_s hf
    refine vv_iincE (q := 2061) (v := z8) (c := 6) (L' := [some (.ref w.2.2.2.2.1), some (.ref a1), some (.ref a2), some (.int z8)]) e_z8 dL_law_2058 rfl rfl (by decide) (Nat.le_of_ble_eq_true rfl) rfl ?_
    refine vv_goto 18 dL_law_2061 (by decide) ?_
    exact hk18 _ _ _ _ _ _ t_a1 t_a2 (Nat.le_succ _) (Nat.le_add_right _ _) hf
  · rw [if_neg c7] at hf
    refine vv_iconst 260 (v := 0) dL_law_259 rfl (by decide) ?_
    exact absurd (Option.some.inj hf) (by decide)

set_option maxHeartbeats 4000000 in
theorem v_L_law_261 {w : Wo} {K : Kn} {cl sl : Nat} (hcl : cl + 1 ≤ 600000) (hsl : sl + 5 ≤ 7302250) (k18 : Mem → Nat → Nat → Int32 → Option Int32) (hk18 : ∀ (m : Mem) (a1 : Nat) (a2 : Nat) (x3 : Int32) (cl2 sl2 : Nat), K a1 = some (.inl 7) → K a2 = some (.inl 8) → cl2 ≤ cl + 1 → sl2 ≤ sl + 5 → k18 m a1 a2 x3 = some 1 → VV w RL cL_law 4 (some .boolean) room_1 false (QL w) K 18 [some (.ref w.2.2.2.2.1), some (.ref a1), some (.ref a2), some (.int x3)] [] cl2 sl2 m) {m : Mem} {a1 : Nat} {a2 : Nat} {x3 : Int32} (t_a1 : K a1 = some (.inl 7)) (t_a2 : K a2 = some (.inl 8)) (hf : f_L_law_261 K w.2.2.2.2.2.1 w.2.2.2.2.2.2 k18 m a1 a2 x3 = some 1) : VV w RL cL_law 4 (some .boolean) room_1 false (QL w) K 261 [some (.ref w.2.2.2.2.1), some (.ref a1), some (.ref a2), some (.int x3)] [] cl sl m := by
  unfold f_L_law_261 at hf
  refine vv_aload_n 262 dL_law_261 rfl rfl ?_
  refine vv_aload_n 263 dL_law_262 rfl rfl ?_
  refine vv_iload_n 264 dL_law_263 rfl rfl ?_
  refine vv_iconst 265 (v := 1) dL_law_264 rfl (by decide) ?_
  refine vv_iadd 266 dL_law_265 rfl ?_
  obtain ⟨h1, hf⟩ := gd_s hf
  refine vv_scr 267 dL_law_266 rfl h1 ?_
  refine vv_aload_n 268 dL_law_267 rfl rfl ?_
  refine vv_iload_n 269 dL_law_268 rfl rfl ?_
  refine vv_iconst 270 (v := 2) dL_law_269 rfl (by decide) ?_
  refine vv_iadd 271 dL_law_270 rfl ?_
  obtain ⟨h2, hf⟩ := gd_s hf
  refine vv_scr 272 dL_law_271 rfl h2 ?_
  refine vv_aload_n 273 dL_law_272 rfl rfl ?_
  refine vv_iload_n 274 dL_law_273 rfl rfl ?_
  refine vv_iconst 275 (v := 3) dL_law_274 rfl (by decide) ?_
  refine vv_iadd 276 dL_law_275 rfl ?_
  obtain ⟨h3, hf⟩ := gd_s hf
  refine vv_scr 277 dL_law_276 rfl h3 ?_
  refine vv_i2l 278 dL_law_277 rfl ?_
  refine vv_bipush 280 (v := 32) dL_law_278 rfl (by decide) ?_
  refine vv_lshl 281 dL_law_280 rfl ?_
  refine vv_aload_n 282 dL_law_281 rfl rfl ?_
  refine vv_iload_n 283 dL_law_282 rfl rfl ?_
  refine vv_iconst 284 (v := 4) dL_law_283 rfl (by decide) ?_
  refine vv_iadd 285 dL_law_284 rfl ?_
  obtain ⟨h4, hf⟩ := gd_s hf
  refine vv_scr 286 dL_law_285 rfl h4 ?_
  refine vv_i2l 287 dL_law_286 rfl ?_
  refine vv_ldc2 290 (v := 4294967295) dL_law_287 rfl w_1629 ?_
  refine vv_land 291 dL_law_290 rfl ?_
  refine vv_lor 292 dL_law_291 rfl ?_
  obtain ⟨q5, g_q5, hf⟩ := bind_s hf
  refine vv_callV 295 (st := []) (As := [.int (w.2.2.2.2.2.2 (x3 + (1 : Int32)).toNatClampNeg), .int (w.2.2.2.2.2.2 (x3 + (2 : Int32)).toNatClampNeg), .long ((lshl ((w.2.2.2.2.2.2 (x3 + (3 : Int32)).toNatClampNeg).toInt64) (32 : Int32)) ||| (((w.2.2.2.2.2.2 (x3 + (4 : Int32)).toNatClampNeg).toInt64) &&& (4294967295 : Int64)))]) (stk2 := [.int q5.1]) (cl2 := cl) (sl2 := sl) dL_law_292 rfl lk_RL_20 w_464 w_465 rfl t_a1 ⟨(Nat.le_of_ble_eq_true rfl), (Nat.le_of_ble_eq_true rfl)⟩ rfl rfl ⟨Nat.le_trans (Nat.add_le_add_left (by decide) _) hcl, Nat.le_trans (Nat.add_le_add_left (by decide) _) hsl⟩ rfl (Nat.le_of_ble_eq_true rfl) rfl rfl rfl rfl (c_X8_add t_a1 g_q5) ?_
  refine vv_aload_n 296 dL_law_295 rfl rfl ?_
  refine vv_aload_n 297 dL_law_296 rfl rfl ?_
  refine vv_iload_n 298 dL_law_297 rfl rfl ?_
  refine vv_iconst 299 (v := 1) dL_law_298 rfl (by decide) ?_
  refine vv_iadd 300 dL_law_299 rfl ?_
  obtain ⟨h6, hf⟩ := gd_s hf
  refine vv_scr 301 dL_law_300 rfl h6 ?_
  refine vv_aload_n 302 dL_law_301 rfl rfl ?_
  refine vv_iload_n 303 dL_law_302 rfl rfl ?_
  refine vv_iconst 304 (v := 2) dL_law_303 rfl (by decide) ?_
  refine vv_iadd 305 dL_law_304 rfl ?_
  obtain ⟨h7, hf⟩ := gd_s hf
  refine vv_scr 306 dL_law_305 rfl h7 ?_
  refine vv_aload_n 307 dL_law_306 rfl rfl ?_
  refine vv_iload_n 308 dL_law_307 rfl rfl ?_
  refine vv_iconst 309 (v := 3) dL_law_308 rfl (by decide) ?_
  refine vv_iadd 310 dL_law_309 rfl ?_
  obtain ⟨h8, hf⟩ := gd_s hf
  refine vv_scr 311 dL_law_310 rfl h8 ?_
  refine vv_i2l 312 dL_law_311 rfl ?_
  refine vv_bipush 314 (v := 32) dL_law_312 rfl (by decide) ?_
  refine vv_lshl 315 dL_law_314 rfl ?_
  refine vv_aload_n 316 dL_law_315 rfl rfl ?_
  refine vv_iload_n 317 dL_law_316 rfl rfl ?_
  refine vv_iconst 318 (v := 4) dL_law_317 rfl (by decide) ?_
  refine vv_iadd 319 dL_law_318 rfl ?_
  obtain ⟨h9, hf⟩ := gd_s hf
  refine vv_scr 320 dL_law_319 rfl h9 ?_
  refine vv_i2l 321 dL_law_320 rfl ?_
  refine vv_ldc2 324 (v := 4294967295) dL_law_321 rfl w_1629 ?_
  refine vv_land 325 dL_law_324 rfl ?_
  refine vv_lor 326 dL_law_325 rfl ?_
  obtain ⟨q10, g_q10, hf⟩ := bind_s hf
  refine vv_callV 329 (st := [.int q5.1]) (As := [.int (w.2.2.2.2.2.2 (x3 + (1 : Int32)).toNatClampNeg), .int (w.2.2.2.2.2.2 (x3 + (2 : Int32)).toNatClampNeg), .long ((lshl ((w.2.2.2.2.2.2 (x3 + (3 : Int32)).toNatClampNeg).toInt64) (32 : Int32)) ||| (((w.2.2.2.2.2.2 (x3 + (4 : Int32)).toNatClampNeg).toInt64) &&& (4294967295 : Int64)))]) (stk2 := [.int q10.1, .int q5.1]) (cl2 := cl) (sl2 := sl) dL_law_326 rfl lk_RL_24 w_1215 w_1216 rfl t_a2 ⟨(Nat.le_of_ble_eq_true rfl), (Nat.le_of_ble_eq_true rfl)⟩ rfl rfl ⟨Nat.le_trans (Nat.add_le_add_left (by decide) _) hcl, Nat.le_trans (Nat.add_le_add_left (by decide) _) hsl⟩ rfl (Nat.le_of_ble_eq_true rfl) rfl rfl rfl rfl (c_X9_add t_a2 g_q10) ?_
  refine vv_icmp_eq 2058 332 dL_law_329 rfl (by decide) (fun c11 => ?_) (fun c11 => ?_)
  · rw [if_pos c11] at hf
    obtain ⟨z12, e_z12, hf⟩ := bd_s hf
    refine vv_iincE (q := 2061) (v := z12) (c := 6) (L' := [some (.ref w.2.2.2.2.1), some (.ref a1), some (.ref a2), some (.int z12)]) e_z12 dL_law_2058 rfl rfl (by decide) (Nat.le_of_ble_eq_true rfl) rfl ?_
    refine vv_goto 18 dL_law_2061 (by decide) ?_
    exact hk18 _ _ _ _ _ _ t_a1 t_a2 (Nat.le_succ _) (Nat.le_add_right _ _) hf
  · rw [if_neg c11] at hf
    refine vv_iconst 333 (v := 0) dL_law_332 rfl (by decide) ?_
    exact absurd (Option.some.inj hf) (by decide)

set_option maxHeartbeats 4000000 in
theorem v_L_law_334 {w : Wo} {K : Kn} {cl sl : Nat} (hcl : cl + 1 ≤ 600000) (hsl : sl + 5 ≤ 7302250) (k18 : Mem → Nat → Nat → Int32 → Option Int32) (hk18 : ∀ (m : Mem) (a1 : Nat) (a2 : Nat) (x3 : Int32) (cl2 sl2 : Nat), K a1 = some (.inl 7) → K a2 = some (.inl 8) → cl2 ≤ cl + 1 → sl2 ≤ sl + 5 → k18 m a1 a2 x3 = some 1 → VV w RL cL_law 4 (some .boolean) room_1 false (QL w) K 18 [some (.ref w.2.2.2.2.1), some (.ref a1), some (.ref a2), some (.int x3)] [] cl2 sl2 m) {m : Mem} {a1 : Nat} {a2 : Nat} {x3 : Int32} (t_a1 : K a1 = some (.inl 7)) (t_a2 : K a2 = some (.inl 8)) (hf : f_L_law_334 K w.2.2.2.2.2.1 w.2.2.2.2.2.2 k18 m a1 a2 x3 = some 1) : VV w RL cL_law 4 (some .boolean) room_1 false (QL w) K 334 [some (.ref w.2.2.2.2.1), some (.ref a1), some (.ref a2), some (.int x3)] [] cl sl m := by
  unfold f_L_law_334 at hf
  refine vv_aload_n 335 dL_law_334 rfl rfl ?_
  refine vv_aload_n 336 dL_law_335 rfl rfl ?_
  refine vv_iload_n 337 dL_law_336 rfl rfl ?_
  refine vv_iconst 338 (v := 1) dL_law_337 rfl (by decide) ?_
  refine vv_iadd 339 dL_law_338 rfl ?_
  obtain ⟨h1, hf⟩ := gd_s hf
  refine vv_scr 340 dL_law_339 rfl h1 ?_
  refine vv_aload_n 341 dL_law_340 rfl rfl ?_
  refine vv_iload_n 342 dL_law_341 rfl rfl ?_
  refine vv_iconst 343 (v := 2) dL_law_342 rfl (by decide) ?_
  refine vv_iadd 344 dL_law_343 rfl ?_
  obtain ⟨h2, hf⟩ := gd_s hf
  refine vv_scr 345 dL_law_344 rfl h2 ?_
  refine vv_aload_n 346 dL_law_345 rfl rfl ?_
  refine vv_iload_n 347 dL_law_346 rfl rfl ?_
  refine vv_iconst 348 (v := 3) dL_law_347 rfl (by decide) ?_
  refine vv_iadd 349 dL_law_348 rfl ?_
  obtain ⟨h3, hf⟩ := gd_s hf
  refine vv_scr 350 dL_law_349 rfl h3 ?_
  refine vv_i2l 351 dL_law_350 rfl ?_
  refine vv_bipush 353 (v := 32) dL_law_351 rfl (by decide) ?_
  refine vv_lshl 354 dL_law_353 rfl ?_
  refine vv_aload_n 355 dL_law_354 rfl rfl ?_
  refine vv_iload_n 356 dL_law_355 rfl rfl ?_
  refine vv_iconst 357 (v := 4) dL_law_356 rfl (by decide) ?_
  refine vv_iadd 358 dL_law_357 rfl ?_
  obtain ⟨h4, hf⟩ := gd_s hf
  refine vv_scr 359 dL_law_358 rfl h4 ?_
  refine vv_i2l 360 dL_law_359 rfl ?_
  refine vv_ldc2 363 (v := 4294967295) dL_law_360 rfl w_1629 ?_
  refine vv_land 364 dL_law_363 rfl ?_
  refine vv_lor 365 dL_law_364 rfl ?_
  obtain ⟨q5, g_q5, hf⟩ := bind_s hf
  refine vv_callV 368 (st := []) (As := [.int (w.2.2.2.2.2.2 (x3 + (1 : Int32)).toNatClampNeg), .int (w.2.2.2.2.2.2 (x3 + (2 : Int32)).toNatClampNeg), .long ((lshl ((w.2.2.2.2.2.2 (x3 + (3 : Int32)).toNatClampNeg).toInt64) (32 : Int32)) ||| (((w.2.2.2.2.2.2 (x3 + (4 : Int32)).toNatClampNeg).toInt64) &&& (4294967295 : Int64)))]) (stk2 := [.int q5.1]) (cl2 := cl) (sl2 := sl) dL_law_365 rfl lk_RL_25 w_567 w_568 rfl t_a1 ⟨(Nat.le_of_ble_eq_true rfl), (Nat.le_of_ble_eq_true rfl)⟩ rfl rfl ⟨Nat.le_trans (Nat.add_le_add_left (by decide) _) hcl, Nat.le_trans (Nat.add_le_add_left (by decide) _) hsl⟩ rfl (Nat.le_of_ble_eq_true rfl) rfl rfl rfl rfl (c_X8_late t_a1 g_q5) ?_
  refine vv_aload_n 369 dL_law_368 rfl rfl ?_
  refine vv_aload_n 370 dL_law_369 rfl rfl ?_
  refine vv_iload_n 371 dL_law_370 rfl rfl ?_
  refine vv_iconst 372 (v := 1) dL_law_371 rfl (by decide) ?_
  refine vv_iadd 373 dL_law_372 rfl ?_
  obtain ⟨h6, hf⟩ := gd_s hf
  refine vv_scr 374 dL_law_373 rfl h6 ?_
  refine vv_aload_n 375 dL_law_374 rfl rfl ?_
  refine vv_iload_n 376 dL_law_375 rfl rfl ?_
  refine vv_iconst 377 (v := 2) dL_law_376 rfl (by decide) ?_
  refine vv_iadd 378 dL_law_377 rfl ?_
  obtain ⟨h7, hf⟩ := gd_s hf
  refine vv_scr 379 dL_law_378 rfl h7 ?_
  refine vv_aload_n 380 dL_law_379 rfl rfl ?_
  refine vv_iload_n 381 dL_law_380 rfl rfl ?_
  refine vv_iconst 382 (v := 3) dL_law_381 rfl (by decide) ?_
  refine vv_iadd 383 dL_law_382 rfl ?_
  obtain ⟨h8, hf⟩ := gd_s hf
  refine vv_scr 384 dL_law_383 rfl h8 ?_
  refine vv_i2l 385 dL_law_384 rfl ?_
  refine vv_bipush 387 (v := 32) dL_law_385 rfl (by decide) ?_
  refine vv_lshl 388 dL_law_387 rfl ?_
  refine vv_aload_n 389 dL_law_388 rfl rfl ?_
  refine vv_iload_n 390 dL_law_389 rfl rfl ?_
  refine vv_iconst 391 (v := 4) dL_law_390 rfl (by decide) ?_
  refine vv_iadd 392 dL_law_391 rfl ?_
  obtain ⟨h9, hf⟩ := gd_s hf
  refine vv_scr 393 dL_law_392 rfl h9 ?_
  refine vv_i2l 394 dL_law_393 rfl ?_
  refine vv_ldc2 397 (v := 4294967295) dL_law_394 rfl w_1629 ?_
  refine vv_land 398 dL_law_397 rfl ?_
  refine vv_lor 399 dL_law_398 rfl ?_
  obtain ⟨q10, g_q10, hf⟩ := bind_s hf
  refine vv_callV 402 (st := [.int q5.1]) (As := [.int (w.2.2.2.2.2.2 (x3 + (1 : Int32)).toNatClampNeg), .int (w.2.2.2.2.2.2 (x3 + (2 : Int32)).toNatClampNeg), .long ((lshl ((w.2.2.2.2.2.2 (x3 + (3 : Int32)).toNatClampNeg).toInt64) (32 : Int32)) ||| (((w.2.2.2.2.2.2 (x3 + (4 : Int32)).toNatClampNeg).toInt64) &&& (4294967295 : Int64)))]) (stk2 := [.int q10.1, .int q5.1]) (cl2 := cl) (sl2 := sl) dL_law_399 rfl lk_RL_28 w_1347 w_1348 rfl t_a2 ⟨(Nat.le_of_ble_eq_true rfl), (Nat.le_of_ble_eq_true rfl)⟩ rfl rfl ⟨Nat.le_trans (Nat.add_le_add_left (by decide) _) hcl, Nat.le_trans (Nat.add_le_add_left (by decide) _) hsl⟩ rfl (Nat.le_of_ble_eq_true rfl) rfl rfl rfl rfl (c_X9_late t_a2 g_q10) ?_
  refine vv_icmp_eq 2058 405 dL_law_402 rfl (by decide) (fun c11 => ?_) (fun c11 => ?_)
  · rw [if_pos c11] at hf
    obtain ⟨z12, e_z12, hf⟩ := bd_s hf
    refine vv_iincE (q := 2061) (v := z12) (c := 6) (L' := [some (.ref w.2.2.2.2.1), some (.ref a1), some (.ref a2), some (.int z12)]) e_z12 dL_law_2058 rfl rfl (by decide) (Nat.le_of_ble_eq_true rfl) rfl ?_
    refine vv_goto 18 dL_law_2061 (by decide) ?_
    exact hk18 _ _ _ _ _ _ t_a1 t_a2 (Nat.le_succ _) (Nat.le_add_right _ _) hf
  · rw [if_neg c11] at hf
    refine vv_iconst 406 (v := 0) dL_law_405 rfl (by decide) ?_
    exact absurd (Option.some.inj hf) (by decide)

set_option maxHeartbeats 4000000 in
theorem v_L_law_407 {w : Wo} {K : Kn} {cl sl : Nat} (hcl : cl + 1 ≤ 600000) (hsl : sl + 5 ≤ 7302250) (k18 : Mem → Nat → Nat → Int32 → Option Int32) (hk18 : ∀ (m : Mem) (a1 : Nat) (a2 : Nat) (x3 : Int32) (cl2 sl2 : Nat), K a1 = some (.inl 7) → K a2 = some (.inl 8) → cl2 ≤ cl + 1 → sl2 ≤ sl + 5 → k18 m a1 a2 x3 = some 1 → VV w RL cL_law 4 (some .boolean) room_1 false (QL w) K 18 [some (.ref w.2.2.2.2.1), some (.ref a1), some (.ref a2), some (.int x3)] [] cl2 sl2 m) {m : Mem} {a1 : Nat} {a2 : Nat} {x3 : Int32} (t_a1 : K a1 = some (.inl 7)) (t_a2 : K a2 = some (.inl 8)) (hf : f_L_law_407 K w.2.2.2.2.2.1 w.2.2.2.2.2.2 k18 m a1 a2 x3 = some 1) : VV w RL cL_law 4 (some .boolean) room_1 false (QL w) K 407 [some (.ref w.2.2.2.2.1), some (.ref a1), some (.ref a2), some (.int x3)] [] cl sl m := by
  unfold f_L_law_407 at hf
  refine vv_aload_n 408 dL_law_407 rfl rfl ?_
  refine vv_aload_n 409 dL_law_408 rfl rfl ?_
  refine vv_iload_n 410 dL_law_409 rfl rfl ?_
  refine vv_iconst 411 (v := 1) dL_law_410 rfl (by decide) ?_
  refine vv_iadd 412 dL_law_411 rfl ?_
  obtain ⟨h1, hf⟩ := gd_s hf
  refine vv_scr 413 dL_law_412 rfl h1 ?_
  refine vv_aload_n 414 dL_law_413 rfl rfl ?_
  refine vv_iload_n 415 dL_law_414 rfl rfl ?_
  refine vv_iconst 416 (v := 2) dL_law_415 rfl (by decide) ?_
  refine vv_iadd 417 dL_law_416 rfl ?_
  obtain ⟨h2, hf⟩ := gd_s hf
  refine vv_scr 418 dL_law_417 rfl h2 ?_
  refine vv_aload_n 419 dL_law_418 rfl rfl ?_
  refine vv_iload_n 420 dL_law_419 rfl rfl ?_
  refine vv_iconst 421 (v := 3) dL_law_420 rfl (by decide) ?_
  refine vv_iadd 422 dL_law_421 rfl ?_
  obtain ⟨h3, hf⟩ := gd_s hf
  refine vv_scr 423 dL_law_422 rfl h3 ?_
  refine vv_i2l 424 dL_law_423 rfl ?_
  refine vv_bipush 426 (v := 32) dL_law_424 rfl (by decide) ?_
  refine vv_lshl 427 dL_law_426 rfl ?_
  refine vv_aload_n 428 dL_law_427 rfl rfl ?_
  refine vv_iload_n 429 dL_law_428 rfl rfl ?_
  refine vv_iconst 430 (v := 4) dL_law_429 rfl (by decide) ?_
  refine vv_iadd 431 dL_law_430 rfl ?_
  obtain ⟨h4, hf⟩ := gd_s hf
  refine vv_scr 432 dL_law_431 rfl h4 ?_
  refine vv_i2l 433 dL_law_432 rfl ?_
  refine vv_ldc2 436 (v := 4294967295) dL_law_433 rfl w_1629 ?_
  refine vv_land 437 dL_law_436 rfl ?_
  refine vv_lor 438 dL_law_437 rfl ?_
  obtain ⟨q5, g_q5, hf⟩ := bind_s hf
  refine vv_callV 441 (st := []) (As := [.int (w.2.2.2.2.2.2 (x3 + (1 : Int32)).toNatClampNeg), .int (w.2.2.2.2.2.2 (x3 + (2 : Int32)).toNatClampNeg), .long ((lshl ((w.2.2.2.2.2.2 (x3 + (3 : Int32)).toNatClampNeg).toInt64) (32 : Int32)) ||| (((w.2.2.2.2.2.2 (x3 + (4 : Int32)).toNatClampNeg).toInt64) &&& (4294967295 : Int64)))]) (stk2 := [.int q5.1]) (cl2 := cl) (sl2 := sl) dL_law_438 rfl lk_RL_29 w_579 w_580 rfl t_a1 ⟨(Nat.le_of_ble_eq_true rfl), (Nat.le_of_ble_eq_true rfl)⟩ rfl rfl ⟨Nat.le_trans (Nat.add_le_add_left (by decide) _) hcl, Nat.le_trans (Nat.add_le_add_left (by decide) _) hsl⟩ rfl (Nat.le_of_ble_eq_true rfl) rfl rfl rfl rfl (c_X8_would t_a1 g_q5) ?_
  refine vv_aload_n 442 dL_law_441 rfl rfl ?_
  refine vv_aload_n 443 dL_law_442 rfl rfl ?_
  refine vv_iload_n 444 dL_law_443 rfl rfl ?_
  refine vv_iconst 445 (v := 1) dL_law_444 rfl (by decide) ?_
  refine vv_iadd 446 dL_law_445 rfl ?_
  obtain ⟨h6, hf⟩ := gd_s hf
  refine vv_scr 447 dL_law_446 rfl h6 ?_
  refine vv_aload_n 448 dL_law_447 rfl rfl ?_
  refine vv_iload_n 449 dL_law_448 rfl rfl ?_
  refine vv_iconst 450 (v := 2) dL_law_449 rfl (by decide) ?_
  refine vv_iadd 451 dL_law_450 rfl ?_
  obtain ⟨h7, hf⟩ := gd_s hf
  refine vv_scr 452 dL_law_451 rfl h7 ?_
  refine vv_aload_n 453 dL_law_452 rfl rfl ?_
  refine vv_iload_n 454 dL_law_453 rfl rfl ?_
  refine vv_iconst 455 (v := 3) dL_law_454 rfl (by decide) ?_
  refine vv_iadd 456 dL_law_455 rfl ?_
  obtain ⟨h8, hf⟩ := gd_s hf
  refine vv_scr 457 dL_law_456 rfl h8 ?_
  refine vv_i2l 458 dL_law_457 rfl ?_
  refine vv_bipush 460 (v := 32) dL_law_458 rfl (by decide) ?_
  refine vv_lshl 461 dL_law_460 rfl ?_
  refine vv_aload_n 462 dL_law_461 rfl rfl ?_
  refine vv_iload_n 463 dL_law_462 rfl rfl ?_
  refine vv_iconst 464 (v := 4) dL_law_463 rfl (by decide) ?_
  refine vv_iadd 465 dL_law_464 rfl ?_
  obtain ⟨h9, hf⟩ := gd_s hf
  refine vv_scr 466 dL_law_465 rfl h9 ?_
  refine vv_i2l 467 dL_law_466 rfl ?_
  refine vv_ldc2 470 (v := 4294967295) dL_law_467 rfl w_1629 ?_
  refine vv_land 471 dL_law_470 rfl ?_
  refine vv_lor 472 dL_law_471 rfl ?_
  obtain ⟨q10, g_q10, hf⟩ := bind_s hf
  refine vv_callV 475 (st := [.int q5.1]) (As := [.int (w.2.2.2.2.2.2 (x3 + (1 : Int32)).toNatClampNeg), .int (w.2.2.2.2.2.2 (x3 + (2 : Int32)).toNatClampNeg), .long ((lshl ((w.2.2.2.2.2.2 (x3 + (3 : Int32)).toNatClampNeg).toInt64) (32 : Int32)) ||| (((w.2.2.2.2.2.2 (x3 + (4 : Int32)).toNatClampNeg).toInt64) &&& (4294967295 : Int64)))]) (stk2 := [.int q10.1, .int q5.1]) (cl2 := cl) (sl2 := sl) dL_law_472 rfl lk_RL_32 w_1343 w_1344 rfl t_a2 ⟨(Nat.le_of_ble_eq_true rfl), (Nat.le_of_ble_eq_true rfl)⟩ rfl rfl ⟨Nat.le_trans (Nat.add_le_add_left (by decide) _) hcl, Nat.le_trans (Nat.add_le_add_left (by decide) _) hsl⟩ rfl (Nat.le_of_ble_eq_true rfl) rfl rfl rfl rfl (c_X9_would t_a2 g_q10) ?_
  refine vv_icmp_eq 2058 478 dL_law_475 rfl (by decide) (fun c11 => ?_) (fun c11 => ?_)
  · rw [if_pos c11] at hf
    obtain ⟨z12, e_z12, hf⟩ := bd_s hf
    refine vv_iincE (q := 2061) (v := z12) (c := 6) (L' := [some (.ref w.2.2.2.2.1), some (.ref a1), some (.ref a2), some (.int z12)]) e_z12 dL_law_2058 rfl rfl (by decide) (Nat.le_of_ble_eq_true rfl) rfl ?_
    refine vv_goto 18 dL_law_2061 (by decide) ?_
    exact hk18 _ _ _ _ _ _ t_a1 t_a2 (Nat.le_succ _) (Nat.le_add_right _ _) hf
  · rw [if_neg c11] at hf
    refine vv_iconst 479 (v := 0) dL_law_478 rfl (by decide) ?_
    exact absurd (Option.some.inj hf) (by decide)

set_option maxHeartbeats 4000000 in
theorem v_L_law_480 {w : Wo} {K : Kn} {cl sl : Nat} (hcl : cl + 1 ≤ 600000) (hsl : sl + 5 ≤ 7302250) (k18 : Mem → Nat → Nat → Int32 → Option Int32) (hk18 : ∀ (m : Mem) (a1 : Nat) (a2 : Nat) (x3 : Int32) (cl2 sl2 : Nat), K a1 = some (.inl 7) → K a2 = some (.inl 8) → cl2 ≤ cl + 1 → sl2 ≤ sl + 5 → k18 m a1 a2 x3 = some 1 → VV w RL cL_law 4 (some .boolean) room_1 false (QL w) K 18 [some (.ref w.2.2.2.2.1), some (.ref a1), some (.ref a2), some (.int x3)] [] cl2 sl2 m) {m : Mem} {a1 : Nat} {a2 : Nat} {x3 : Int32} (t_a1 : K a1 = some (.inl 7)) (t_a2 : K a2 = some (.inl 8)) (hf : f_L_law_480 K w.2.2.2.2.2.1 w.2.2.2.2.2.2 k18 m a1 a2 x3 = some 1) : VV w RL cL_law 4 (some .boolean) room_1 false (QL w) K 480 [some (.ref w.2.2.2.2.1), some (.ref a1), some (.ref a2), some (.int x3)] [] cl sl m := by
  unfold f_L_law_480 at hf
  refine vv_aload_n 481 dL_law_480 rfl rfl ?_
  refine vv_aload_n 482 dL_law_481 rfl rfl ?_
  refine vv_iload_n 483 dL_law_482 rfl rfl ?_
  refine vv_iconst 484 (v := 1) dL_law_483 rfl (by decide) ?_
  refine vv_iadd 485 dL_law_484 rfl ?_
  obtain ⟨h1, hf⟩ := gd_s hf
  refine vv_scr 486 dL_law_485 rfl h1 ?_
  obtain ⟨q2, g_q2, hf⟩ := bind_s hf
  refine vv_callV 489 (st := []) (As := [.int (w.2.2.2.2.2.2 (x3 + (1 : Int32)).toNatClampNeg)]) (stk2 := [.int q2.1]) (cl2 := cl) (sl2 := sl) dL_law_486 rfl lk_RL_33 w_1008 w_1009 rfl t_a1 ⟨(Nat.le_of_ble_eq_true rfl), (Nat.le_of_ble_eq_true rfl)⟩ rfl rfl ⟨Nat.le_trans (Nat.add_le_add_left (by decide) _) hcl, Nat.le_trans (Nat.add_le_add_left (by decide) _) hsl⟩ rfl (Nat.le_of_ble_eq_true rfl) rfl rfl rfl rfl (c_X8_merge t_a1 g_q2) ?_
  refine vv_aload_n 490 dL_law_489 rfl rfl ?_
  refine vv_aload_n 491 dL_law_490 rfl rfl ?_
  refine vv_iload_n 492 dL_law_491 rfl rfl ?_
  refine vv_iconst 493 (v := 1) dL_law_492 rfl (by decide) ?_
  refine vv_iadd 494 dL_law_493 rfl ?_
  obtain ⟨h3, hf⟩ := gd_s hf
  refine vv_scr 495 dL_law_494 rfl h3 ?_
  obtain ⟨q4, g_q4, hf⟩ := bind_s hf
  refine vv_callV 498 (st := [.int q2.1]) (As := [.int (w.2.2.2.2.2.2 (x3 + (1 : Int32)).toNatClampNeg)]) (stk2 := [.int q4.1, .int q2.1]) (cl2 := cl) (sl2 := sl) dL_law_495 rfl lk_RL_37 w_1352 w_1353 rfl t_a2 ⟨(Nat.le_of_ble_eq_true rfl), (Nat.le_of_ble_eq_true rfl)⟩ rfl rfl ⟨Nat.le_trans (Nat.add_le_add_left (by decide) _) hcl, Nat.le_trans (Nat.add_le_add_left (by decide) _) hsl⟩ rfl (Nat.le_of_ble_eq_true rfl) rfl rfl rfl rfl (c_X9_merge t_a2 g_q4) ?_
  refine vv_icmp_eq 2058 501 dL_law_498 rfl (by decide) (fun c5 => ?_) (fun c5 => ?_)
  · rw [if_pos c5] at hf
    obtain ⟨z6, e_z6, hf⟩ := bd_s hf
    refine vv_iincE (q := 2061) (v := z6) (c := 6) (L' := [some (.ref w.2.2.2.2.1), some (.ref a1), some (.ref a2), some (.int z6)]) e_z6 dL_law_2058 rfl rfl (by decide) (Nat.le_of_ble_eq_true rfl) rfl ?_
    refine vv_goto 18 dL_law_2061 (by decide) ?_
    exact hk18 _ _ _ _ _ _ t_a1 t_a2 (Nat.le_succ _) (Nat.le_add_right _ _) hf
  · rw [if_neg c5] at hf
    refine vv_iconst 502 (v := 0) dL_law_501 rfl (by decide) ?_
    exact absurd (Option.some.inj hf) (by decide)

set_option maxHeartbeats 4000000 in
theorem v_L_law_503 {w : Wo} {K : Kn} {cl sl : Nat} (hcl : cl + 1 ≤ 600000) (hsl : sl + 5 ≤ 7302250) (k18 : Mem → Nat → Nat → Int32 → Option Int32) (hk18 : ∀ (m : Mem) (a1 : Nat) (a2 : Nat) (x3 : Int32) (cl2 sl2 : Nat), K a1 = some (.inl 7) → K a2 = some (.inl 8) → cl2 ≤ cl + 1 → sl2 ≤ sl + 5 → k18 m a1 a2 x3 = some 1 → VV w RL cL_law 4 (some .boolean) room_1 false (QL w) K 18 [some (.ref w.2.2.2.2.1), some (.ref a1), some (.ref a2), some (.int x3)] [] cl2 sl2 m) {m : Mem} {a1 : Nat} {a2 : Nat} {x3 : Int32} (t_a1 : K a1 = some (.inl 7)) (t_a2 : K a2 = some (.inl 8)) (hf : f_L_law_503 K w.2.2.2.2.2.1 w.2.2.2.2.2.2 k18 m a1 a2 x3 = some 1) : VV w RL cL_law 4 (some .boolean) room_1 false (QL w) K 503 [some (.ref w.2.2.2.2.1), some (.ref a1), some (.ref a2), some (.int x3)] [] cl sl m := by
  unfold f_L_law_503 at hf
  refine vv_aload_n 504 dL_law_503 rfl rfl ?_
  refine vv_aload_n 505 dL_law_504 rfl rfl ?_
  refine vv_iload_n 506 dL_law_505 rfl rfl ?_
  refine vv_iconst 507 (v := 1) dL_law_506 rfl (by decide) ?_
  refine vv_iadd 508 dL_law_507 rfl ?_
  obtain ⟨h1, hf⟩ := gd_s hf
  refine vv_scr 509 dL_law_508 rfl h1 ?_
  refine vv_aload_n 510 dL_law_509 rfl rfl ?_
  refine vv_iload_n 511 dL_law_510 rfl rfl ?_
  refine vv_iconst 512 (v := 2) dL_law_511 rfl (by decide) ?_
  refine vv_iadd 513 dL_law_512 rfl ?_
  obtain ⟨h2, hf⟩ := gd_s hf
  refine vv_scr 514 dL_law_513 rfl h2 ?_
  obtain ⟨q3, g_q3, hf⟩ := bind_s hf
  refine vv_callV 517 (st := []) (As := [.int (w.2.2.2.2.2.2 (x3 + (1 : Int32)).toNatClampNeg), .int (w.2.2.2.2.2.2 (x3 + (2 : Int32)).toNatClampNeg)]) (stk2 := [.int q3.1]) (cl2 := cl) (sl2 := sl) dL_law_514 rfl lk_RL_38 w_677 w_678 rfl t_a1 ⟨(Nat.le_of_ble_eq_true rfl), (Nat.le_of_ble_eq_true rfl)⟩ rfl rfl ⟨Nat.le_trans (Nat.add_le_add_left (by decide) _) hcl, Nat.le_trans (Nat.add_le_add_left (by decide) _) hsl⟩ rfl (Nat.le_of_ble_eq_true rfl) rfl rfl rfl rfl (c_X8_count t_a1 g_q3) ?_
  refine vv_aload_n 518 dL_law_517 rfl rfl ?_
  refine vv_aload_n 519 dL_law_518 rfl rfl ?_
  refine vv_iload_n 520 dL_law_519 rfl rfl ?_
  refine vv_iconst 521 (v := 1) dL_law_520 rfl (by decide) ?_
  refine vv_iadd 522 dL_law_521 rfl ?_
  obtain ⟨h4, hf⟩ := gd_s hf
  refine vv_scr 523 dL_law_522 rfl h4 ?_
  refine vv_aload_n 524 dL_law_523 rfl rfl ?_
  refine vv_iload_n 525 dL_law_524 rfl rfl ?_
  refine vv_iconst 526 (v := 2) dL_law_525 rfl (by decide) ?_
  refine vv_iadd 527 dL_law_526 rfl ?_
  obtain ⟨h5, hf⟩ := gd_s hf
  refine vv_scr 528 dL_law_527 rfl h5 ?_
  obtain ⟨q6, g_q6, hf⟩ := bind_s hf
  refine vv_callV 531 (st := [.int q3.1]) (As := [.int (w.2.2.2.2.2.2 (x3 + (1 : Int32)).toNatClampNeg), .int (w.2.2.2.2.2.2 (x3 + (2 : Int32)).toNatClampNeg)]) (stk2 := [.int q6.1, .int q3.1]) (cl2 := cl) (sl2 := sl) dL_law_528 rfl lk_RL_41 w_1389 w_1390 rfl t_a2 ⟨(Nat.le_of_ble_eq_true rfl), (Nat.le_of_ble_eq_true rfl)⟩ rfl rfl ⟨Nat.le_trans (Nat.add_le_add_left (by decide) _) hcl, Nat.le_trans (Nat.add_le_add_left (by decide) _) hsl⟩ rfl (Nat.le_of_ble_eq_true rfl) rfl rfl rfl rfl (c_X9_count t_a2 g_q6) ?_
  refine vv_icmp_eq 2058 534 dL_law_531 rfl (by decide) (fun c7 => ?_) (fun c7 => ?_)
  · rw [if_pos c7] at hf
    obtain ⟨z8, e_z8, hf⟩ := bd_s hf
    refine vv_iincE (q := 2061) (v := z8) (c := 6) (L' := [some (.ref w.2.2.2.2.1), some (.ref a1), some (.ref a2), some (.int z8)]) e_z8 dL_law_2058 rfl rfl (by decide) (Nat.le_of_ble_eq_true rfl) rfl ?_
    refine vv_goto 18 dL_law_2061 (by decide) ?_
    exact hk18 _ _ _ _ _ _ t_a1 t_a2 (Nat.le_succ _) (Nat.le_add_right _ _) hf
  · rw [if_neg c7] at hf
    refine vv_iconst 535 (v := 0) dL_law_534 rfl (by decide) ?_
    exact absurd (Option.some.inj hf) (by decide)

set_option maxHeartbeats 4000000 in
theorem v_L_law_536 {w : Wo} {K : Kn} {cl sl : Nat} (hcl : cl + 1 ≤ 600000) (hsl : sl + 5 ≤ 7302250) (k18 : Mem → Nat → Nat → Int32 → Option Int32) (hk18 : ∀ (m : Mem) (a1 : Nat) (a2 : Nat) (x3 : Int32) (cl2 sl2 : Nat), K a1 = some (.inl 7) → K a2 = some (.inl 8) → cl2 ≤ cl + 1 → sl2 ≤ sl + 5 → k18 m a1 a2 x3 = some 1 → VV w RL cL_law 4 (some .boolean) room_1 false (QL w) K 18 [some (.ref w.2.2.2.2.1), some (.ref a1), some (.ref a2), some (.int x3)] [] cl2 sl2 m) {m : Mem} {a1 : Nat} {a2 : Nat} {x3 : Int32} (t_a1 : K a1 = some (.inl 7)) (t_a2 : K a2 = some (.inl 8)) (hf : f_L_law_536 K w.2.2.2.2.2.1 w.2.2.2.2.2.2 k18 m a1 a2 x3 = some 1) : VV w RL cL_law 4 (some .boolean) room_1 false (QL w) K 536 [some (.ref w.2.2.2.2.1), some (.ref a1), some (.ref a2), some (.int x3)] [] cl sl m := by
  unfold f_L_law_536 at hf
  refine vv_aload_n 537 dL_law_536 rfl rfl ?_
  refine vv_aload_n 538 dL_law_537 rfl rfl ?_
  refine vv_iload_n 539 dL_law_538 rfl rfl ?_
  refine vv_iconst 540 (v := 1) dL_law_539 rfl (by decide) ?_
  refine vv_iadd 541 dL_law_540 rfl ?_
  obtain ⟨h1, hf⟩ := gd_s hf
  refine vv_scr 542 dL_law_541 rfl h1 ?_
  refine vv_aload_n 543 dL_law_542 rfl rfl ?_
  refine vv_iload_n 544 dL_law_543 rfl rfl ?_
  refine vv_iconst 545 (v := 2) dL_law_544 rfl (by decide) ?_
  refine vv_iadd 546 dL_law_545 rfl ?_
  obtain ⟨h2, hf⟩ := gd_s hf
  refine vv_scr 547 dL_law_546 rfl h2 ?_
  refine vv_aload_n 548 dL_law_547 rfl rfl ?_
  refine vv_iload_n 549 dL_law_548 rfl rfl ?_
  refine vv_iconst 550 (v := 3) dL_law_549 rfl (by decide) ?_
  refine vv_iadd 551 dL_law_550 rfl ?_
  obtain ⟨h3, hf⟩ := gd_s hf
  refine vv_scr 552 dL_law_551 rfl h3 ?_
  obtain ⟨q4, g_q4, hf⟩ := bind_s hf
  refine vv_callV 555 (st := []) (As := [.int (w.2.2.2.2.2.2 (x3 + (1 : Int32)).toNatClampNeg), .int (w.2.2.2.2.2.2 (x3 + (2 : Int32)).toNatClampNeg), .int (w.2.2.2.2.2.2 (x3 + (3 : Int32)).toNatClampNeg)]) (stk2 := [.int q4]) (cl2 := cl) (sl2 := sl) dL_law_552 rfl lk_RL_42 w_716 w_717 rfl t_a1 ⟨(Nat.le_of_ble_eq_true rfl), (Nat.le_of_ble_eq_true rfl)⟩ rfl rfl ⟨Nat.le_trans (Nat.add_le_add_left (by decide) _) hcl, Nat.le_trans (Nat.add_le_add_left (by decide) _) hsl⟩ rfl (Nat.le_of_ble_eq_true rfl) rfl rfl rfl rfl (c_X8_block t_a1 g_q4) ?_
  refine vv_aload_n 556 dL_law_555 rfl rfl ?_
  refine vv_aload_n 557 dL_law_556 rfl rfl ?_
  refine vv_iload_n 558 dL_law_557 rfl rfl ?_
  refine vv_iconst 559 (v := 1) dL_law_558 rfl (by decide) ?_
  refine vv_iadd 560 dL_law_559 rfl ?_
  obtain ⟨h5, hf⟩ := gd_s hf
  refine vv_scr 561 dL_law_560 rfl h5 ?_
  refine vv_aload_n 562 dL_law_561 rfl rfl ?_
  refine vv_iload_n 563 dL_law_562 rfl rfl ?_
  refine vv_iconst 564 (v := 2) dL_law_563 rfl (by decide) ?_
  refine vv_iadd 565 dL_law_564 rfl ?_
  obtain ⟨h6, hf⟩ := gd_s hf
  refine vv_scr 566 dL_law_565 rfl h6 ?_
  refine vv_aload_n 567 dL_law_566 rfl rfl ?_
  refine vv_iload_n 568 dL_law_567 rfl rfl ?_
  refine vv_iconst 569 (v := 3) dL_law_568 rfl (by decide) ?_
  refine vv_iadd 570 dL_law_569 rfl ?_
  obtain ⟨h7, hf⟩ := gd_s hf
  refine vv_scr 571 dL_law_570 rfl h7 ?_
  obtain ⟨q8, g_q8, hf⟩ := bind_s hf
  refine vv_callV 574 (st := [.int q4]) (As := [.int (w.2.2.2.2.2.2 (x3 + (1 : Int32)).toNatClampNeg), .int (w.2.2.2.2.2.2 (x3 + (2 : Int32)).toNatClampNeg), .int (w.2.2.2.2.2.2 (x3 + (3 : Int32)).toNatClampNeg)]) (stk2 := [.int q8.1, .int q4]) (cl2 := cl) (sl2 := sl) dL_law_571 rfl lk_RL_46 w_1397 w_1398 rfl t_a2 ⟨(Nat.le_of_ble_eq_true rfl), (Nat.le_of_ble_eq_true rfl)⟩ rfl rfl ⟨Nat.le_trans (Nat.add_le_add_left (by decide) _) hcl, Nat.le_trans (Nat.add_le_add_left (by decide) _) hsl⟩ rfl (Nat.le_of_ble_eq_true rfl) rfl rfl rfl rfl (c_X9_block t_a2 g_q8) ?_
  refine vv_icmp_eq 2058 577 dL_law_574 rfl (by decide) (fun c9 => ?_) (fun c9 => ?_)
  · rw [if_pos c9] at hf
    obtain ⟨z10, e_z10, hf⟩ := bd_s hf
    refine vv_iincE (q := 2061) (v := z10) (c := 6) (L' := [some (.ref w.2.2.2.2.1), some (.ref a1), some (.ref a2), some (.int z10)]) e_z10 dL_law_2058 rfl rfl (by decide) (Nat.le_of_ble_eq_true rfl) rfl ?_
    refine vv_goto 18 dL_law_2061 (by decide) ?_
    exact hk18 _ _ _ _ _ _ t_a1 t_a2 (Nat.le_succ _) (Nat.le_add_right _ _) hf
  · rw [if_neg c9] at hf
    refine vv_iconst 578 (v := 0) dL_law_577 rfl (by decide) ?_
    exact absurd (Option.some.inj hf) (by decide)

set_option maxHeartbeats 4000000 in
theorem v_L_law_579 {w : Wo} {K : Kn} {cl sl : Nat} (hcl : cl + 1 ≤ 600000) (hsl : sl + 5 ≤ 7302250) (k18 : Mem → Nat → Nat → Int32 → Option Int32) (hk18 : ∀ (m : Mem) (a1 : Nat) (a2 : Nat) (x3 : Int32) (cl2 sl2 : Nat), K a1 = some (.inl 7) → K a2 = some (.inl 8) → cl2 ≤ cl + 1 → sl2 ≤ sl + 5 → k18 m a1 a2 x3 = some 1 → VV w RL cL_law 4 (some .boolean) room_1 false (QL w) K 18 [some (.ref w.2.2.2.2.1), some (.ref a1), some (.ref a2), some (.int x3)] [] cl2 sl2 m) {m : Mem} {a1 : Nat} {a2 : Nat} {x3 : Int32} (t_a1 : K a1 = some (.inl 7)) (t_a2 : K a2 = some (.inl 8)) (hf : f_L_law_579 K w.2.2.2.2.2.1 w.2.2.2.2.2.2 k18 m a1 a2 x3 = some 1) : VV w RL cL_law 4 (some .boolean) room_1 false (QL w) K 579 [some (.ref w.2.2.2.2.1), some (.ref a1), some (.ref a2), some (.int x3)] [] cl sl m := by
  unfold f_L_law_579 at hf
  refine vv_aload_n 580 dL_law_579 rfl rfl ?_
  refine vv_aload_n 581 dL_law_580 rfl rfl ?_
  refine vv_iload_n 582 dL_law_581 rfl rfl ?_
  refine vv_iconst 583 (v := 1) dL_law_582 rfl (by decide) ?_
  refine vv_iadd 584 dL_law_583 rfl ?_
  obtain ⟨h1, hf⟩ := gd_s hf
  refine vv_scr 585 dL_law_584 rfl h1 ?_
  refine vv_aload_n 586 dL_law_585 rfl rfl ?_
  refine vv_iload_n 587 dL_law_586 rfl rfl ?_
  refine vv_iconst 588 (v := 2) dL_law_587 rfl (by decide) ?_
  refine vv_iadd 589 dL_law_588 rfl ?_
  obtain ⟨h2, hf⟩ := gd_s hf
  refine vv_scr 590 dL_law_589 rfl h2 ?_
  refine vv_aload_n 591 dL_law_590 rfl rfl ?_
  refine vv_iload_n 592 dL_law_591 rfl rfl ?_
  refine vv_iconst 593 (v := 3) dL_law_592 rfl (by decide) ?_
  refine vv_iadd 594 dL_law_593 rfl ?_
  obtain ⟨h3, hf⟩ := gd_s hf
  refine vv_scr 595 dL_law_594 rfl h3 ?_
  obtain ⟨q4, g_q4, hf⟩ := bind_s hf
  refine vv_callV 598 (st := []) (As := [.int (w.2.2.2.2.2.2 (x3 + (1 : Int32)).toNatClampNeg), .int (w.2.2.2.2.2.2 (x3 + (2 : Int32)).toNatClampNeg), .int (w.2.2.2.2.2.2 (x3 + (3 : Int32)).toNatClampNeg)]) (stk2 := [.int q4]) (cl2 := cl) (sl2 := sl) dL_law_595 rfl lk_RL_47 w_720 w_721 rfl t_a1 ⟨(Nat.le_of_ble_eq_true rfl), (Nat.le_of_ble_eq_true rfl)⟩ rfl rfl ⟨Nat.le_trans (Nat.add_le_add_left (by decide) _) hcl, Nat.le_trans (Nat.add_le_add_left (by decide) _) hsl⟩ rfl (Nat.le_of_ble_eq_true rfl) rfl rfl rfl rfl (c_X8_octet t_a1 g_q4) ?_
  refine vv_aload_n 599 dL_law_598 rfl rfl ?_
  refine vv_aload_n 600 dL_law_599 rfl rfl ?_
  refine vv_iload_n 601 dL_law_600 rfl rfl ?_
  refine vv_iconst 602 (v := 1) dL_law_601 rfl (by decide) ?_
  refine vv_iadd 603 dL_law_602 rfl ?_
  obtain ⟨h5, hf⟩ := gd_s hf
  refine vv_scr 604 dL_law_603 rfl h5 ?_
  refine vv_aload_n 605 dL_law_604 rfl rfl ?_
  refine vv_iload_n 606 dL_law_605 rfl rfl ?_
  refine vv_iconst 607 (v := 2) dL_law_606 rfl (by decide) ?_
  refine vv_iadd 608 dL_law_607 rfl ?_
  obtain ⟨h6, hf⟩ := gd_s hf
  refine vv_scr 609 dL_law_608 rfl h6 ?_
  refine vv_aload_n 610 dL_law_609 rfl rfl ?_
  refine vv_iload_n 611 dL_law_610 rfl rfl ?_
  refine vv_iconst 612 (v := 3) dL_law_611 rfl (by decide) ?_
  refine vv_iadd 613 dL_law_612 rfl ?_
  obtain ⟨h7, hf⟩ := gd_s hf
  refine vv_scr 614 dL_law_613 rfl h7 ?_
  obtain ⟨q8, g_q8, hf⟩ := bind_s hf
  refine vv_callV 617 (st := [.int q4]) (As := [.int (w.2.2.2.2.2.2 (x3 + (1 : Int32)).toNatClampNeg), .int (w.2.2.2.2.2.2 (x3 + (2 : Int32)).toNatClampNeg), .int (w.2.2.2.2.2.2 (x3 + (3 : Int32)).toNatClampNeg)]) (stk2 := [.int q8, .int q4]) (cl2 := cl) (sl2 := sl) dL_law_614 rfl lk_RL_50 w_1406 w_1407 rfl t_a2 ⟨(Nat.le_of_ble_eq_true rfl), (Nat.le_of_ble_eq_true rfl)⟩ rfl rfl ⟨Nat.le_trans (Nat.add_le_add_left (by decide) _) hcl, Nat.le_trans (Nat.add_le_add_left (by decide) _) hsl⟩ rfl (Nat.le_of_ble_eq_true rfl) rfl rfl rfl rfl (c_X9_octet t_a2 g_q8) ?_
  refine vv_icmp_eq 2058 620 dL_law_617 rfl (by decide) (fun c9 => ?_) (fun c9 => ?_)
  · rw [if_pos c9] at hf
    obtain ⟨z10, e_z10, hf⟩ := bd_s hf
    refine vv_iincE (q := 2061) (v := z10) (c := 6) (L' := [some (.ref w.2.2.2.2.1), some (.ref a1), some (.ref a2), some (.int z10)]) e_z10 dL_law_2058 rfl rfl (by decide) (Nat.le_of_ble_eq_true rfl) rfl ?_
    refine vv_goto 18 dL_law_2061 (by decide) ?_
    exact hk18 _ _ _ _ _ _ t_a1 t_a2 (Nat.le_succ _) (Nat.le_add_right _ _) hf
  · rw [if_neg c9] at hf
    refine vv_iconst 621 (v := 0) dL_law_620 rfl (by decide) ?_
    exact absurd (Option.some.inj hf) (by decide)

set_option maxHeartbeats 4000000 in
theorem v_L_law_622 {w : Wo} {K : Kn} {cl sl : Nat} (hcl : cl + 1 ≤ 600000) (hsl : sl + 5 ≤ 7302250) (k18 : Mem → Nat → Nat → Int32 → Option Int32) (hk18 : ∀ (m : Mem) (a1 : Nat) (a2 : Nat) (x3 : Int32) (cl2 sl2 : Nat), K a1 = some (.inl 7) → K a2 = some (.inl 8) → cl2 ≤ cl + 1 → sl2 ≤ sl + 5 → k18 m a1 a2 x3 = some 1 → VV w RL cL_law 4 (some .boolean) room_1 false (QL w) K 18 [some (.ref w.2.2.2.2.1), some (.ref a1), some (.ref a2), some (.int x3)] [] cl2 sl2 m) {m : Mem} {a1 : Nat} {a2 : Nat} {x3 : Int32} (t_a1 : K a1 = some (.inl 7)) (t_a2 : K a2 = some (.inl 8)) (hf : f_L_law_622 K w.2.2.2.2.2.1 w.2.2.2.2.2.2 k18 m a1 a2 x3 = some 1) : VV w RL cL_law 4 (some .boolean) room_1 false (QL w) K 622 [some (.ref w.2.2.2.2.1), some (.ref a1), some (.ref a2), some (.int x3)] [] cl sl m := by
  unfold f_L_law_622 at hf
  refine vv_aload_n 623 dL_law_622 rfl rfl ?_
  refine vv_aload_n 624 dL_law_623 rfl rfl ?_
  refine vv_iload_n 625 dL_law_624 rfl rfl ?_
  refine vv_iconst 626 (v := 1) dL_law_625 rfl (by decide) ?_
  refine vv_iadd 627 dL_law_626 rfl ?_
  obtain ⟨h1, hf⟩ := gd_s hf
  refine vv_scr 628 dL_law_627 rfl h1 ?_
  refine vv_aload_n 629 dL_law_628 rfl rfl ?_
  refine vv_iload_n 630 dL_law_629 rfl rfl ?_
  refine vv_iconst 631 (v := 2) dL_law_630 rfl (by decide) ?_
  refine vv_iadd 632 dL_law_631 rfl ?_
  obtain ⟨h2, hf⟩ := gd_s hf
  refine vv_scr 633 dL_law_632 rfl h2 ?_
  refine vv_aload_n 634 dL_law_633 rfl rfl ?_
  refine vv_iload_n 635 dL_law_634 rfl rfl ?_
  refine vv_iconst 636 (v := 3) dL_law_635 rfl (by decide) ?_
  refine vv_iadd 637 dL_law_636 rfl ?_
  obtain ⟨h3, hf⟩ := gd_s hf
  refine vv_scr 638 dL_law_637 rfl h3 ?_
  obtain ⟨q4, g_q4, hf⟩ := bind_s hf
  refine vv_callV 641 (st := []) (As := [.int (w.2.2.2.2.2.2 (x3 + (1 : Int32)).toNatClampNeg), .int (w.2.2.2.2.2.2 (x3 + (2 : Int32)).toNatClampNeg), .int (w.2.2.2.2.2.2 (x3 + (3 : Int32)).toNatClampNeg)]) (stk2 := [.int q4]) (cl2 := cl) (sl2 := sl) dL_law_638 rfl lk_RL_51 w_724 w_725 rfl t_a1 ⟨(Nat.le_of_ble_eq_true rfl), (Nat.le_of_ble_eq_true rfl)⟩ rfl rfl ⟨Nat.le_trans (Nat.add_le_add_left (by decide) _) hcl, Nat.le_trans (Nat.add_le_add_left (by decide) _) hsl⟩ rfl (Nat.le_of_ble_eq_true rfl) rfl rfl rfl rfl (c_X8_fault t_a1 g_q4) ?_
  refine vv_aload_n 642 dL_law_641 rfl rfl ?_
  refine vv_aload_n 643 dL_law_642 rfl rfl ?_
  refine vv_iload_n 644 dL_law_643 rfl rfl ?_
  refine vv_iconst 645 (v := 1) dL_law_644 rfl (by decide) ?_
  refine vv_iadd 646 dL_law_645 rfl ?_
  obtain ⟨h5, hf⟩ := gd_s hf
  refine vv_scr 647 dL_law_646 rfl h5 ?_
  refine vv_aload_n 648 dL_law_647 rfl rfl ?_
  refine vv_iload_n 649 dL_law_648 rfl rfl ?_
  refine vv_iconst 650 (v := 2) dL_law_649 rfl (by decide) ?_
  refine vv_iadd 651 dL_law_650 rfl ?_
  obtain ⟨h6, hf⟩ := gd_s hf
  refine vv_scr 652 dL_law_651 rfl h6 ?_
  refine vv_aload_n 653 dL_law_652 rfl rfl ?_
  refine vv_iload_n 654 dL_law_653 rfl rfl ?_
  refine vv_iconst 655 (v := 3) dL_law_654 rfl (by decide) ?_
  refine vv_iadd 656 dL_law_655 rfl ?_
  obtain ⟨h7, hf⟩ := gd_s hf
  refine vv_scr 657 dL_law_656 rfl h7 ?_
  obtain ⟨q8, g_q8, hf⟩ := bind_s hf
  refine vv_callV 660 (st := [.int q4]) (As := [.int (w.2.2.2.2.2.2 (x3 + (1 : Int32)).toNatClampNeg), .int (w.2.2.2.2.2.2 (x3 + (2 : Int32)).toNatClampNeg), .int (w.2.2.2.2.2.2 (x3 + (3 : Int32)).toNatClampNeg)]) (stk2 := [.int q8.1, .int q4]) (cl2 := cl) (sl2 := sl) dL_law_657 rfl lk_RL_54 w_1410 w_1411 rfl t_a2 ⟨(Nat.le_of_ble_eq_true rfl), (Nat.le_of_ble_eq_true rfl)⟩ rfl rfl ⟨Nat.le_trans (Nat.add_le_add_left (by decide) _) hcl, Nat.le_trans (Nat.add_le_add_left (by decide) _) hsl⟩ rfl (Nat.le_of_ble_eq_true rfl) rfl rfl rfl rfl (c_X9_fault t_a2 g_q8) ?_
  refine vv_icmp_eq 2058 663 dL_law_660 rfl (by decide) (fun c9 => ?_) (fun c9 => ?_)
  · rw [if_pos c9] at hf
    obtain ⟨z10, e_z10, hf⟩ := bd_s hf
    refine vv_iincE (q := 2061) (v := z10) (c := 6) (L' := [some (.ref w.2.2.2.2.1), some (.ref a1), some (.ref a2), some (.int z10)]) e_z10 dL_law_2058 rfl rfl (by decide) (Nat.le_of_ble_eq_true rfl) rfl ?_
    refine vv_goto 18 dL_law_2061 (by decide) ?_
    exact hk18 _ _ _ _ _ _ t_a1 t_a2 (Nat.le_succ _) (Nat.le_add_right _ _) hf
  · rw [if_neg c9] at hf
    refine vv_iconst 664 (v := 0) dL_law_663 rfl (by decide) ?_
    exact absurd (Option.some.inj hf) (by decide)

set_option maxHeartbeats 4000000 in
theorem v_L_law_665 {w : Wo} {K : Kn} {cl sl : Nat} (hcl : cl + 1 ≤ 600000) (hsl : sl + 5 ≤ 7302250) (k18 : Mem → Nat → Nat → Int32 → Option Int32) (hk18 : ∀ (m : Mem) (a1 : Nat) (a2 : Nat) (x3 : Int32) (cl2 sl2 : Nat), K a1 = some (.inl 7) → K a2 = some (.inl 8) → cl2 ≤ cl + 1 → sl2 ≤ sl + 5 → k18 m a1 a2 x3 = some 1 → VV w RL cL_law 4 (some .boolean) room_1 false (QL w) K 18 [some (.ref w.2.2.2.2.1), some (.ref a1), some (.ref a2), some (.int x3)] [] cl2 sl2 m) {m : Mem} {a1 : Nat} {a2 : Nat} {x3 : Int32} (t_a1 : K a1 = some (.inl 7)) (t_a2 : K a2 = some (.inl 8)) (hf : f_L_law_665 K w.2.2.2.2.2.1 w.2.2.2.2.2.2 k18 m a1 a2 x3 = some 1) : VV w RL cL_law 4 (some .boolean) room_1 false (QL w) K 665 [some (.ref w.2.2.2.2.1), some (.ref a1), some (.ref a2), some (.int x3)] [] cl sl m := by
  unfold f_L_law_665 at hf
  refine vv_aload_n 666 dL_law_665 rfl rfl ?_
  refine vv_aload_n 667 dL_law_666 rfl rfl ?_
  refine vv_iload_n 668 dL_law_667 rfl rfl ?_
  refine vv_iconst 669 (v := 1) dL_law_668 rfl (by decide) ?_
  refine vv_iadd 670 dL_law_669 rfl ?_
  obtain ⟨h1, hf⟩ := gd_s hf
  refine vv_scr 671 dL_law_670 rfl h1 ?_
  refine vv_aload_n 672 dL_law_671 rfl rfl ?_
  refine vv_iload_n 673 dL_law_672 rfl rfl ?_
  refine vv_iconst 674 (v := 2) dL_law_673 rfl (by decide) ?_
  refine vv_iadd 675 dL_law_674 rfl ?_
  obtain ⟨h2, hf⟩ := gd_s hf
  refine vv_scr 676 dL_law_675 rfl h2 ?_
  refine vv_aload_n 677 dL_law_676 rfl rfl ?_
  refine vv_iload_n 678 dL_law_677 rfl rfl ?_
  refine vv_iconst 679 (v := 3) dL_law_678 rfl (by decide) ?_
  refine vv_iadd 680 dL_law_679 rfl ?_
  obtain ⟨h3, hf⟩ := gd_s hf
  refine vv_scr 681 dL_law_680 rfl h3 ?_
  refine vv_aload_n 682 dL_law_681 rfl rfl ?_
  refine vv_iload_n 683 dL_law_682 rfl rfl ?_
  refine vv_iconst 684 (v := 4) dL_law_683 rfl (by decide) ?_
  refine vv_iadd 685 dL_law_684 rfl ?_
  obtain ⟨h4, hf⟩ := gd_s hf
  refine vv_scr 686 dL_law_685 rfl h4 ?_
  obtain ⟨q5, g_q5, hf⟩ := bind_s hf
  refine vv_callV 689 (st := []) (As := [.int (w.2.2.2.2.2.2 (x3 + (1 : Int32)).toNatClampNeg), .int (w.2.2.2.2.2.2 (x3 + (2 : Int32)).toNatClampNeg), .int (w.2.2.2.2.2.2 (x3 + (3 : Int32)).toNatClampNeg), .int (w.2.2.2.2.2.2 (x3 + (4 : Int32)).toNatClampNeg)]) (stk2 := [.int q5.1]) (cl2 := cl) (sl2 := sl) dL_law_686 rfl lk_RL_55 w_728 w_729 rfl t_a1 ⟨(Nat.le_of_ble_eq_true rfl), (Nat.le_of_ble_eq_true rfl)⟩ rfl rfl ⟨Nat.le_trans (Nat.add_le_add_left (by decide) _) hcl, Nat.le_trans (Nat.add_le_add_left (by decide) _) hsl⟩ rfl (Nat.le_of_ble_eq_true rfl) rfl rfl rfl rfl (c_X8_damage t_a1 g_q5) ?_
  refine vv_aload_n 690 dL_law_689 rfl rfl ?_
  refine vv_aload_n 691 dL_law_690 rfl rfl ?_
  refine vv_iload_n 692 dL_law_691 rfl rfl ?_
  refine vv_iconst 693 (v := 1) dL_law_692 rfl (by decide) ?_
  refine vv_iadd 694 dL_law_693 rfl ?_
  obtain ⟨h6, hf⟩ := gd_s hf
  refine vv_scr 695 dL_law_694 rfl h6 ?_
  refine vv_aload_n 696 dL_law_695 rfl rfl ?_
  refine vv_iload_n 697 dL_law_696 rfl rfl ?_
  refine vv_iconst 698 (v := 2) dL_law_697 rfl (by decide) ?_
  refine vv_iadd 699 dL_law_698 rfl ?_
  obtain ⟨h7, hf⟩ := gd_s hf
  refine vv_scr 700 dL_law_699 rfl h7 ?_
  refine vv_aload_n 701 dL_law_700 rfl rfl ?_
  refine vv_iload_n 702 dL_law_701 rfl rfl ?_
  refine vv_iconst 703 (v := 3) dL_law_702 rfl (by decide) ?_
  refine vv_iadd 704 dL_law_703 rfl ?_
  obtain ⟨h8, hf⟩ := gd_s hf
  refine vv_scr 705 dL_law_704 rfl h8 ?_
  refine vv_aload_n 706 dL_law_705 rfl rfl ?_
  refine vv_iload_n 707 dL_law_706 rfl rfl ?_
  refine vv_iconst 708 (v := 4) dL_law_707 rfl (by decide) ?_
  refine vv_iadd 709 dL_law_708 rfl ?_
  obtain ⟨h9, hf⟩ := gd_s hf
  refine vv_scr 710 dL_law_709 rfl h9 ?_
  obtain ⟨q10, g_q10, hf⟩ := bind_s hf
  refine vv_callV 713 (st := [.int q5.1]) (As := [.int (w.2.2.2.2.2.2 (x3 + (1 : Int32)).toNatClampNeg), .int (w.2.2.2.2.2.2 (x3 + (2 : Int32)).toNatClampNeg), .int (w.2.2.2.2.2.2 (x3 + (3 : Int32)).toNatClampNeg), .int (w.2.2.2.2.2.2 (x3 + (4 : Int32)).toNatClampNeg)]) (stk2 := [.int q10.1, .int q5.1]) (cl2 := cl) (sl2 := sl) dL_law_710 rfl lk_RL_59 w_1414 w_1415 rfl t_a2 ⟨(Nat.le_of_ble_eq_true rfl), (Nat.le_of_ble_eq_true rfl)⟩ rfl rfl ⟨Nat.le_trans (Nat.add_le_add_left (by decide) _) hcl, Nat.le_trans (Nat.add_le_add_left (by decide) _) hsl⟩ rfl (Nat.le_of_ble_eq_true rfl) rfl rfl rfl rfl (c_X9_damage t_a2 g_q10) ?_
  refine vv_icmp_eq 2058 716 dL_law_713 rfl (by decide) (fun c11 => ?_) (fun c11 => ?_)
  · rw [if_pos c11] at hf
    obtain ⟨z12, e_z12, hf⟩ := bd_s hf
    refine vv_iincE (q := 2061) (v := z12) (c := 6) (L' := [some (.ref w.2.2.2.2.1), some (.ref a1), some (.ref a2), some (.int z12)]) e_z12 dL_law_2058 rfl rfl (by decide) (Nat.le_of_ble_eq_true rfl) rfl ?_
    refine vv_goto 18 dL_law_2061 (by decide) ?_
    exact hk18 _ _ _ _ _ _ t_a1 t_a2 (Nat.le_succ _) (Nat.le_add_right _ _) hf
  · rw [if_neg c11] at hf
    refine vv_iconst 717 (v := 0) dL_law_716 rfl (by decide) ?_
    exact absurd (Option.some.inj hf) (by decide)

set_option maxHeartbeats 4000000 in
theorem v_L_law_718 {w : Wo} {K : Kn} {cl sl : Nat} (hcl : cl + 1 ≤ 600000) (hsl : sl + 5 ≤ 7302250) (k18 : Mem → Nat → Nat → Int32 → Option Int32) (hk18 : ∀ (m : Mem) (a1 : Nat) (a2 : Nat) (x3 : Int32) (cl2 sl2 : Nat), K a1 = some (.inl 7) → K a2 = some (.inl 8) → cl2 ≤ cl + 1 → sl2 ≤ sl + 5 → k18 m a1 a2 x3 = some 1 → VV w RL cL_law 4 (some .boolean) room_1 false (QL w) K 18 [some (.ref w.2.2.2.2.1), some (.ref a1), some (.ref a2), some (.int x3)] [] cl2 sl2 m) {m : Mem} {a1 : Nat} {a2 : Nat} {x3 : Int32} (t_a1 : K a1 = some (.inl 7)) (t_a2 : K a2 = some (.inl 8)) (hf : f_L_law_718 K w.2.2.2.2.2.1 w.2.2.2.2.2.2 k18 m a1 a2 x3 = some 1) : VV w RL cL_law 4 (some .boolean) room_1 false (QL w) K 718 [some (.ref w.2.2.2.2.1), some (.ref a1), some (.ref a2), some (.int x3)] [] cl sl m := by
  unfold f_L_law_718 at hf
  refine vv_aload_n 719 dL_law_718 rfl rfl ?_
  refine vv_aload_n 720 dL_law_719 rfl rfl ?_
  refine vv_iload_n 721 dL_law_720 rfl rfl ?_
  refine vv_iconst 722 (v := 1) dL_law_721 rfl (by decide) ?_
  refine vv_iadd 723 dL_law_722 rfl ?_
  obtain ⟨h1, hf⟩ := gd_s hf
  refine vv_scr 724 dL_law_723 rfl h1 ?_
  refine vv_aload_n 725 dL_law_724 rfl rfl ?_
  refine vv_iload_n 726 dL_law_725 rfl rfl ?_
  refine vv_iconst 727 (v := 2) dL_law_726 rfl (by decide) ?_
  refine vv_iadd 728 dL_law_727 rfl ?_
  obtain ⟨h2, hf⟩ := gd_s hf
  refine vv_scr 729 dL_law_728 rfl h2 ?_
  obtain ⟨q3, g_q3, hf⟩ := bind_s hf
  refine vv_callV 732 (st := []) (As := [.int (w.2.2.2.2.2.2 (x3 + (1 : Int32)).toNatClampNeg), .int (w.2.2.2.2.2.2 (x3 + (2 : Int32)).toNatClampNeg)]) (stk2 := [.int q3.1]) (cl2 := cl) (sl2 := sl) dL_law_729 rfl lk_RL_60 w_773 w_774 rfl t_a1 ⟨(Nat.le_of_ble_eq_true rfl), (Nat.le_of_ble_eq_true rfl)⟩ rfl rfl ⟨Nat.le_trans (Nat.add_le_add_left (by decide) _) hcl, Nat.le_trans (Nat.add_le_add_left (by decide) _) hsl⟩ rfl (Nat.le_of_ble_eq_true rfl) rfl rfl rfl rfl (c_X8_has t_a1 g_q3) ?_
  refine vv_aload_n 733 dL_law_732 rfl rfl ?_
  refine vv_aload_n 734 dL_law_733 rfl rfl ?_
  refine vv_iload_n 735 dL_law_734 rfl rfl ?_
  refine vv_iconst 736 (v := 1) dL_law_735 rfl (by decide) ?_
  refine vv_iadd 737 dL_law_736 rfl ?_
  obtain ⟨h4, hf⟩ := gd_s hf
  refine vv_scr 738 dL_law_737 rfl h4 ?_
  refine vv_aload_n 739 dL_law_738 rfl rfl ?_
  refine vv_iload_n 740 dL_law_739 rfl rfl ?_
  refine vv_iconst 741 (v := 2) dL_law_740 rfl (by decide) ?_
  refine vv_iadd 742 dL_law_741 rfl ?_
  obtain ⟨h5, hf⟩ := gd_s hf
  refine vv_scr 743 dL_law_742 rfl h5 ?_
  obtain ⟨q6, g_q6, hf⟩ := bind_s hf
  refine vv_callV 746 (st := [.int q3.1]) (As := [.int (w.2.2.2.2.2.2 (x3 + (1 : Int32)).toNatClampNeg), .int (w.2.2.2.2.2.2 (x3 + (2 : Int32)).toNatClampNeg)]) (stk2 := [.int q6.1, .int q3.1]) (cl2 := cl) (sl2 := sl) dL_law_743 rfl lk_RL_63 w_1455 w_1456 rfl t_a2 ⟨(Nat.le_of_ble_eq_true rfl), (Nat.le_of_ble_eq_true rfl)⟩ rfl rfl ⟨Nat.le_trans (Nat.add_le_add_left (by decide) _) hcl, Nat.le_trans (Nat.add_le_add_left (by decide) _) hsl⟩ rfl (Nat.le_of_ble_eq_true rfl) rfl rfl rfl rfl (c_X9_has t_a2 g_q6) ?_
  refine vv_icmp_eq 2058 749 dL_law_746 rfl (by decide) (fun c7 => ?_) (fun c7 => ?_)
  · rw [if_pos c7] at hf
    obtain ⟨z8, e_z8, hf⟩ := bd_s hf
    refine vv_iincE (q := 2061) (v := z8) (c := 6) (L' := [some (.ref w.2.2.2.2.1), some (.ref a1), some (.ref a2), some (.int z8)]) e_z8 dL_law_2058 rfl rfl (by decide) (Nat.le_of_ble_eq_true rfl) rfl ?_
    refine vv_goto 18 dL_law_2061 (by decide) ?_
    exact hk18 _ _ _ _ _ _ t_a1 t_a2 (Nat.le_succ _) (Nat.le_add_right _ _) hf
  · rw [if_neg c7] at hf
    refine vv_iconst 750 (v := 0) dL_law_749 rfl (by decide) ?_
    exact absurd (Option.some.inj hf) (by decide)

set_option maxHeartbeats 4000000 in
theorem v_L_law_751 {w : Wo} {K : Kn} {cl sl : Nat} (hcl : cl + 1 ≤ 600000) (hsl : sl + 5 ≤ 7302250) (k18 : Mem → Nat → Nat → Int32 → Option Int32) (hk18 : ∀ (m : Mem) (a1 : Nat) (a2 : Nat) (x3 : Int32) (cl2 sl2 : Nat), K a1 = some (.inl 7) → K a2 = some (.inl 8) → cl2 ≤ cl + 1 → sl2 ≤ sl + 5 → k18 m a1 a2 x3 = some 1 → VV w RL cL_law 4 (some .boolean) room_1 false (QL w) K 18 [some (.ref w.2.2.2.2.1), some (.ref a1), some (.ref a2), some (.int x3)] [] cl2 sl2 m) {m : Mem} {a1 : Nat} {a2 : Nat} {x3 : Int32} (t_a1 : K a1 = some (.inl 7)) (t_a2 : K a2 = some (.inl 8)) (hf : f_L_law_751 K w.2.2.2.2.2.1 w.2.2.2.2.2.2 k18 m a1 a2 x3 = some 1) : VV w RL cL_law 4 (some .boolean) room_1 false (QL w) K 751 [some (.ref w.2.2.2.2.1), some (.ref a1), some (.ref a2), some (.int x3)] [] cl sl m := by
  unfold f_L_law_751 at hf
  refine vv_aload_n 752 dL_law_751 rfl rfl ?_
  refine vv_aload_n 753 dL_law_752 rfl rfl ?_
  refine vv_iload_n 754 dL_law_753 rfl rfl ?_
  refine vv_iconst 755 (v := 1) dL_law_754 rfl (by decide) ?_
  refine vv_iadd 756 dL_law_755 rfl ?_
  obtain ⟨h1, hf⟩ := gd_s hf
  refine vv_scr 757 dL_law_756 rfl h1 ?_
  refine vv_aload_n 758 dL_law_757 rfl rfl ?_
  refine vv_iload_n 759 dL_law_758 rfl rfl ?_
  refine vv_iconst 760 (v := 2) dL_law_759 rfl (by decide) ?_
  refine vv_iadd 761 dL_law_760 rfl ?_
  obtain ⟨h2, hf⟩ := gd_s hf
  refine vv_scr 762 dL_law_761 rfl h2 ?_
  obtain ⟨q3, g_q3, hf⟩ := bind_s hf
  refine vv_callV 765 (st := []) (As := [.int (w.2.2.2.2.2.2 (x3 + (1 : Int32)).toNatClampNeg), .int (w.2.2.2.2.2.2 (x3 + (2 : Int32)).toNatClampNeg)]) (stk2 := [.long q3.1]) (cl2 := cl) (sl2 := sl) dL_law_762 rfl lk_RL_64 w_777 w_778 rfl t_a1 ⟨(Nat.le_of_ble_eq_true rfl), (Nat.le_of_ble_eq_true rfl)⟩ rfl rfl ⟨Nat.le_trans (Nat.add_le_add_left (by decide) _) hcl, Nat.le_trans (Nat.add_le_add_left (by decide) _) hsl⟩ rfl (Nat.le_of_ble_eq_true rfl) rfl rfl rfl rfl (c_X8_at t_a1 g_q3) ?_
  refine vv_aload_n 766 dL_law_765 rfl rfl ?_
  refine vv_aload_n 767 dL_law_766 rfl rfl ?_
  refine vv_iload_n 768 dL_law_767 rfl rfl ?_
  refine vv_iconst 769 (v := 1) dL_law_768 rfl (by decide) ?_
  refine vv_iadd 770 dL_law_769 rfl ?_
  obtain ⟨h4, hf⟩ := gd_s hf
  refine vv_scr 771 dL_law_770 rfl h4 ?_
  refine vv_aload_n 772 dL_law_771 rfl rfl ?_
  refine vv_iload_n 773 dL_law_772 rfl rfl ?_
  refine vv_iconst 774 (v := 2) dL_law_773 rfl (by decide) ?_
  refine vv_iadd 775 dL_law_774 rfl ?_
  obtain ⟨h5, hf⟩ := gd_s hf
  refine vv_scr 776 dL_law_775 rfl h5 ?_
  obtain ⟨q6, g_q6, hf⟩ := bind_s hf
  refine vv_callV 779 (st := [.long q3.1]) (As := [.int (w.2.2.2.2.2.2 (x3 + (1 : Int32)).toNatClampNeg), .int (w.2.2.2.2.2.2 (x3 + (2 : Int32)).toNatClampNeg)]) (stk2 := [.long q6.1, .long q3.1]) (cl2 := cl) (sl2 := sl) dL_law_776 rfl lk_RL_68 w_1467 w_1468 rfl t_a2 ⟨(Nat.le_of_ble_eq_true rfl), (Nat.le_of_ble_eq_true rfl)⟩ rfl rfl ⟨Nat.le_trans (Nat.add_le_add_left (by decide) _) hcl, Nat.le_trans (Nat.add_le_add_left (by decide) _) hsl⟩ rfl (Nat.le_of_ble_eq_true rfl) rfl rfl rfl rfl (c_X9_at t_a2 g_q6) ?_
  refine vv_lcmp 780 dL_law_779 rfl ?_
  refine vv_if_eq 2058 783 dL_law_780 rfl (by decide) (fun c7 => ?_) (fun c7 => ?_)
  · rw [if_pos c7] at hf
    obtain ⟨z8, e_z8, hf⟩ := bd_s hf
    refine vv_iincE (q := 2061) (v := z8) (c := 6) (L' := [some (.ref w.2.2.2.2.1), some (.ref a1), some (.ref a2), some (.int z8)]) e_z8 dL_law_2058 rfl rfl (by decide) (Nat.le_of_ble_eq_true rfl) rfl ?_
    refine vv_goto 18 dL_law_2061 (by decide) ?_
    exact hk18 _ _ _ _ _ _ t_a1 t_a2 (Nat.le_succ _) (Nat.le_add_right _ _) hf
  · rw [if_neg c7] at hf
    refine vv_iconst 784 (v := 0) dL_law_783 rfl (by decide) ?_
    exact absurd (Option.some.inj hf) (by decide)

set_option maxHeartbeats 4000000 in
theorem v_L_law_785 {w : Wo} {K : Kn} {cl sl : Nat} (hcl : cl + 1 ≤ 600000) (hsl : sl + 5 ≤ 7302250) (k18 : Mem → Nat → Nat → Int32 → Option Int32) (hk18 : ∀ (m : Mem) (a1 : Nat) (a2 : Nat) (x3 : Int32) (cl2 sl2 : Nat), K a1 = some (.inl 7) → K a2 = some (.inl 8) → cl2 ≤ cl + 1 → sl2 ≤ sl + 5 → k18 m a1 a2 x3 = some 1 → VV w RL cL_law 4 (some .boolean) room_1 false (QL w) K 18 [some (.ref w.2.2.2.2.1), some (.ref a1), some (.ref a2), some (.int x3)] [] cl2 sl2 m) {m : Mem} {a1 : Nat} {a2 : Nat} {x3 : Int32} (t_a1 : K a1 = some (.inl 7)) (t_a2 : K a2 = some (.inl 8)) (hf : f_L_law_785 K w.2.2.2.2.2.1 w.2.2.2.2.2.2 k18 m a1 a2 x3 = some 1) : VV w RL cL_law 4 (some .boolean) room_1 false (QL w) K 785 [some (.ref w.2.2.2.2.1), some (.ref a1), some (.ref a2), some (.int x3)] [] cl sl m := by
  unfold f_L_law_785 at hf
  refine vv_aload_n 786 dL_law_785 rfl rfl ?_
  refine vv_aload_n 787 dL_law_786 rfl rfl ?_
  refine vv_iload_n 788 dL_law_787 rfl rfl ?_
  refine vv_iconst 789 (v := 1) dL_law_788 rfl (by decide) ?_
  refine vv_iadd 790 dL_law_789 rfl ?_
  obtain ⟨h1, hf⟩ := gd_s hf
  refine vv_scr 791 dL_law_790 rfl h1 ?_
  refine vv_aload_n 792 dL_law_791 rfl rfl ?_
  refine vv_iload_n 793 dL_law_792 rfl rfl ?_
  refine vv_iconst 794 (v := 2) dL_law_793 rfl (by decide) ?_
  refine vv_iadd 795 dL_law_794 rfl ?_
  obtain ⟨h2, hf⟩ := gd_s hf
  refine vv_scr 796 dL_law_795 rfl h2 ?_
  obtain ⟨q3, g_q3, hf⟩ := bind_s hf
  refine vv_callV 799 (st := []) (As := [.int (w.2.2.2.2.2.2 (x3 + (1 : Int32)).toNatClampNeg), .int (w.2.2.2.2.2.2 (x3 + (2 : Int32)).toNatClampNeg)]) (stk2 := [.int q3.1]) (cl2 := cl) (sl2 := sl) dL_law_796 rfl lk_RL_69 w_781 w_782 rfl t_a1 ⟨(Nat.le_of_ble_eq_true rfl), (Nat.le_of_ble_eq_true rfl)⟩ rfl rfl ⟨Nat.le_trans (Nat.add_le_add_left (by decide) _) hcl, Nat.le_trans (Nat.add_le_add_left (by decide) _) hsl⟩ rfl (Nat.le_of_ble_eq_true rfl) rfl rfl rfl rfl (c_X8_nearest t_a1 g_q3) ?_
  refine vv_aload_n 800 dL_law_799 rfl rfl ?_
  refine vv_aload_n 801 dL_law_800 rfl rfl ?_
  refine vv_iload_n 802 dL_law_801 rfl rfl ?_
  refine vv_iconst 803 (v := 1) dL_law_802 rfl (by decide) ?_
  refine vv_iadd 804 dL_law_803 rfl ?_
  obtain ⟨h4, hf⟩ := gd_s hf
  refine vv_scr 805 dL_law_804 rfl h4 ?_
  refine vv_aload_n 806 dL_law_805 rfl rfl ?_
  refine vv_iload_n 807 dL_law_806 rfl rfl ?_
  refine vv_iconst 808 (v := 2) dL_law_807 rfl (by decide) ?_
  refine vv_iadd 809 dL_law_808 rfl ?_
  obtain ⟨h5, hf⟩ := gd_s hf
  refine vv_scr 810 dL_law_809 rfl h5 ?_
  obtain ⟨q6, g_q6, hf⟩ := bind_s hf
  refine vv_callV 813 (st := [.int q3.1]) (As := [.int (w.2.2.2.2.2.2 (x3 + (1 : Int32)).toNatClampNeg), .int (w.2.2.2.2.2.2 (x3 + (2 : Int32)).toNatClampNeg)]) (stk2 := [.int q6.1, .int q3.1]) (cl2 := cl) (sl2 := sl) dL_law_810 rfl lk_RL_72 w_1479 w_1480 rfl t_a2 ⟨(Nat.le_of_ble_eq_true rfl), (Nat.le_of_ble_eq_true rfl)⟩ rfl rfl ⟨Nat.le_trans (Nat.add_le_add_left (by decide) _) hcl, Nat.le_trans (Nat.add_le_add_left (by decide) _) hsl⟩ rfl (Nat.le_of_ble_eq_true rfl) rfl rfl rfl rfl (c_X9_nearest t_a2 g_q6) ?_
  refine vv_icmp_eq 2058 816 dL_law_813 rfl (by decide) (fun c7 => ?_) (fun c7 => ?_)
  · rw [if_pos c7] at hf
    obtain ⟨z8, e_z8, hf⟩ := bd_s hf
    refine vv_iincE (q := 2061) (v := z8) (c := 6) (L' := [some (.ref w.2.2.2.2.1), some (.ref a1), some (.ref a2), some (.int z8)]) e_z8 dL_law_2058 rfl rfl (by decide) (Nat.le_of_ble_eq_true rfl) rfl ?_
    refine vv_goto 18 dL_law_2061 (by decide) ?_
    exact hk18 _ _ _ _ _ _ t_a1 t_a2 (Nat.le_succ _) (Nat.le_add_right _ _) hf
  · rw [if_neg c7] at hf
    refine vv_iconst 817 (v := 0) dL_law_816 rfl (by decide) ?_
    exact absurd (Option.some.inj hf) (by decide)

set_option maxHeartbeats 4000000 in
theorem v_L_law_818 {w : Wo} {K : Kn} {cl sl : Nat} (hcl : cl + 1 ≤ 600000) (hsl : sl + 5 ≤ 7302250) (k18 : Mem → Nat → Nat → Int32 → Option Int32) (hk18 : ∀ (m : Mem) (a1 : Nat) (a2 : Nat) (x3 : Int32) (cl2 sl2 : Nat), K a1 = some (.inl 7) → K a2 = some (.inl 8) → cl2 ≤ cl + 1 → sl2 ≤ sl + 5 → k18 m a1 a2 x3 = some 1 → VV w RL cL_law 4 (some .boolean) room_1 false (QL w) K 18 [some (.ref w.2.2.2.2.1), some (.ref a1), some (.ref a2), some (.int x3)] [] cl2 sl2 m) {m : Mem} {a1 : Nat} {a2 : Nat} {x3 : Int32} (t_a1 : K a1 = some (.inl 7)) (t_a2 : K a2 = some (.inl 8)) (hf : f_L_law_818 K w.2.2.2.2.2.1 w.2.2.2.2.2.2 k18 m a1 a2 x3 = some 1) : VV w RL cL_law 4 (some .boolean) room_1 false (QL w) K 818 [some (.ref w.2.2.2.2.1), some (.ref a1), some (.ref a2), some (.int x3)] [] cl sl m := by
  unfold f_L_law_818 at hf
  refine vv_aload_n 819 dL_law_818 rfl rfl ?_
  refine vv_aload_n 820 dL_law_819 rfl rfl ?_
  refine vv_iload_n 821 dL_law_820 rfl rfl ?_
  refine vv_iconst 822 (v := 1) dL_law_821 rfl (by decide) ?_
  refine vv_iadd 823 dL_law_822 rfl ?_
  obtain ⟨h1, hf⟩ := gd_s hf
  refine vv_scr 824 dL_law_823 rfl h1 ?_
  refine vv_aload_n 825 dL_law_824 rfl rfl ?_
  refine vv_iload_n 826 dL_law_825 rfl rfl ?_
  refine vv_iconst 827 (v := 2) dL_law_826 rfl (by decide) ?_
  refine vv_iadd 828 dL_law_827 rfl ?_
  obtain ⟨h2, hf⟩ := gd_s hf
  refine vv_scr 829 dL_law_828 rfl h2 ?_
  refine vv_aload_n 830 dL_law_829 rfl rfl ?_
  refine vv_iload_n 831 dL_law_830 rfl rfl ?_
  refine vv_iconst 832 (v := 3) dL_law_831 rfl (by decide) ?_
  refine vv_iadd 833 dL_law_832 rfl ?_
  obtain ⟨h3, hf⟩ := gd_s hf
  refine vv_scr 834 dL_law_833 rfl h3 ?_
  obtain ⟨q4, g_q4, hf⟩ := bind_s hf
  refine vv_callV 837 (st := []) (As := [.int (w.2.2.2.2.2.2 (x3 + (1 : Int32)).toNatClampNeg), .int (w.2.2.2.2.2.2 (x3 + (2 : Int32)).toNatClampNeg), .int (w.2.2.2.2.2.2 (x3 + (3 : Int32)).toNatClampNeg)]) (stk2 := [.long q4.1]) (cl2 := cl) (sl2 := sl) dL_law_834 rfl lk_RL_73 w_789 w_790 rfl t_a1 ⟨(Nat.le_of_ble_eq_true rfl), (Nat.le_of_ble_eq_true rfl)⟩ rfl rfl ⟨Nat.le_trans (Nat.add_le_add_left (by decide) _) hcl, Nat.le_trans (Nat.add_le_add_left (by decide) _) hsl⟩ rfl (Nat.le_of_ble_eq_true rfl) rfl rfl rfl rfl (c_X8_point t_a1 g_q4) ?_
  refine vv_aload_n 838 dL_law_837 rfl rfl ?_
  refine vv_aload_n 839 dL_law_838 rfl rfl ?_
  refine vv_iload_n 840 dL_law_839 rfl rfl ?_
  refine vv_iconst 841 (v := 1) dL_law_840 rfl (by decide) ?_
  refine vv_iadd 842 dL_law_841 rfl ?_
  obtain ⟨h5, hf⟩ := gd_s hf
  refine vv_scr 843 dL_law_842 rfl h5 ?_
  refine vv_aload_n 844 dL_law_843 rfl rfl ?_
  refine vv_iload_n 845 dL_law_844 rfl rfl ?_
  refine vv_iconst 846 (v := 2) dL_law_845 rfl (by decide) ?_
  refine vv_iadd 847 dL_law_846 rfl ?_
  obtain ⟨h6, hf⟩ := gd_s hf
  refine vv_scr 848 dL_law_847 rfl h6 ?_
  refine vv_aload_n 849 dL_law_848 rfl rfl ?_
  refine vv_iload_n 850 dL_law_849 rfl rfl ?_
  refine vv_iconst 851 (v := 3) dL_law_850 rfl (by decide) ?_
  refine vv_iadd 852 dL_law_851 rfl ?_
  obtain ⟨h7, hf⟩ := gd_s hf
  refine vv_scr 853 dL_law_852 rfl h7 ?_
  obtain ⟨q8, g_q8, hf⟩ := bind_s hf
  refine vv_callV 856 (st := [.long q4.1]) (As := [.int (w.2.2.2.2.2.2 (x3 + (1 : Int32)).toNatClampNeg), .int (w.2.2.2.2.2.2 (x3 + (2 : Int32)).toNatClampNeg), .int (w.2.2.2.2.2.2 (x3 + (3 : Int32)).toNatClampNeg)]) (stk2 := [.long q8.1, .long q4.1]) (cl2 := cl) (sl2 := sl) dL_law_853 rfl lk_RL_77 w_1487 w_1488 rfl t_a2 ⟨(Nat.le_of_ble_eq_true rfl), (Nat.le_of_ble_eq_true rfl)⟩ rfl rfl ⟨Nat.le_trans (Nat.add_le_add_left (by decide) _) hcl, Nat.le_trans (Nat.add_le_add_left (by decide) _) hsl⟩ rfl (Nat.le_of_ble_eq_true rfl) rfl rfl rfl rfl (c_X9_point t_a2 g_q8) ?_
  refine vv_lcmp 857 dL_law_856 rfl ?_
  refine vv_if_eq 2058 860 dL_law_857 rfl (by decide) (fun c9 => ?_) (fun c9 => ?_)
  · rw [if_pos c9] at hf
    obtain ⟨z10, e_z10, hf⟩ := bd_s hf
    refine vv_iincE (q := 2061) (v := z10) (c := 6) (L' := [some (.ref w.2.2.2.2.1), some (.ref a1), some (.ref a2), some (.int z10)]) e_z10 dL_law_2058 rfl rfl (by decide) (Nat.le_of_ble_eq_true rfl) rfl ?_
    refine vv_goto 18 dL_law_2061 (by decide) ?_
    exact hk18 _ _ _ _ _ _ t_a1 t_a2 (Nat.le_succ _) (Nat.le_add_right _ _) hf
  · rw [if_neg c9] at hf
    refine vv_iconst 861 (v := 0) dL_law_860 rfl (by decide) ?_
    exact absurd (Option.some.inj hf) (by decide)

set_option maxHeartbeats 4000000 in
theorem v_L_law_862 {w : Wo} {K : Kn} {cl sl : Nat} (hcl : cl + 1 ≤ 600000) (hsl : sl + 5 ≤ 7302250) (k18 : Mem → Nat → Nat → Int32 → Option Int32) (hk18 : ∀ (m : Mem) (a1 : Nat) (a2 : Nat) (x3 : Int32) (cl2 sl2 : Nat), K a1 = some (.inl 7) → K a2 = some (.inl 8) → cl2 ≤ cl + 1 → sl2 ≤ sl + 5 → k18 m a1 a2 x3 = some 1 → VV w RL cL_law 4 (some .boolean) room_1 false (QL w) K 18 [some (.ref w.2.2.2.2.1), some (.ref a1), some (.ref a2), some (.int x3)] [] cl2 sl2 m) {m : Mem} {a1 : Nat} {a2 : Nat} {x3 : Int32} (t_a1 : K a1 = some (.inl 7)) (t_a2 : K a2 = some (.inl 8)) (hf : f_L_law_862 K w.2.2.2.2.2.1 w.2.2.2.2.2.2 k18 m a1 a2 x3 = some 1) : VV w RL cL_law 4 (some .boolean) room_1 false (QL w) K 862 [some (.ref w.2.2.2.2.1), some (.ref a1), some (.ref a2), some (.int x3)] [] cl sl m := by
  unfold f_L_law_862 at hf
  refine vv_aload_n 863 dL_law_862 rfl rfl ?_
  refine vv_aload_n 864 dL_law_863 rfl rfl ?_
  refine vv_iload_n 865 dL_law_864 rfl rfl ?_
  refine vv_iconst 866 (v := 1) dL_law_865 rfl (by decide) ?_
  refine vv_iadd 867 dL_law_866 rfl ?_
  obtain ⟨h1, hf⟩ := gd_s hf
  refine vv_scr 868 dL_law_867 rfl h1 ?_
  refine vv_aload_n 869 dL_law_868 rfl rfl ?_
  refine vv_iload_n 870 dL_law_869 rfl rfl ?_
  refine vv_iconst 871 (v := 2) dL_law_870 rfl (by decide) ?_
  refine vv_iadd 872 dL_law_871 rfl ?_
  obtain ⟨h2, hf⟩ := gd_s hf
  refine vv_scr 873 dL_law_872 rfl h2 ?_
  refine vv_aload_n 874 dL_law_873 rfl rfl ?_
  refine vv_iload_n 875 dL_law_874 rfl rfl ?_
  refine vv_iconst 876 (v := 3) dL_law_875 rfl (by decide) ?_
  refine vv_iadd 877 dL_law_876 rfl ?_
  obtain ⟨h3, hf⟩ := gd_s hf
  refine vv_scr 878 dL_law_877 rfl h3 ?_
  refine vv_aload_n 879 dL_law_878 rfl rfl ?_
  refine vv_iload_n 880 dL_law_879 rfl rfl ?_
  refine vv_iconst 881 (v := 4) dL_law_880 rfl (by decide) ?_
  refine vv_iadd 882 dL_law_881 rfl ?_
  obtain ⟨h4, hf⟩ := gd_s hf
  refine vv_scr 883 dL_law_882 rfl h4 ?_
  obtain ⟨q5, g_q5, hf⟩ := bind_s hf
  refine vv_callV 886 (st := []) (As := [.int (w.2.2.2.2.2.2 (x3 + (1 : Int32)).toNatClampNeg), .int (w.2.2.2.2.2.2 (x3 + (2 : Int32)).toNatClampNeg), .int (w.2.2.2.2.2.2 (x3 + (3 : Int32)).toNatClampNeg), .int (w.2.2.2.2.2.2 (x3 + (4 : Int32)).toNatClampNeg)]) (stk2 := [.int q5.1]) (cl2 := cl) (sl2 := sl) dL_law_883 rfl lk_RL_78 w_851 w_852 rfl t_a1 ⟨(Nat.le_of_ble_eq_true rfl), (Nat.le_of_ble_eq_true rfl)⟩ rfl rfl ⟨Nat.le_trans (Nat.add_le_add_left (by decide) _) hcl, Nat.le_trans (Nat.add_le_add_left (by decide) _) hsl⟩ rfl (Nat.le_of_ble_eq_true rfl) rfl rfl rfl rfl (c_X8_span t_a1 g_q5) ?_
  refine vv_aload_n 887 dL_law_886 rfl rfl ?_
  refine vv_aload_n 888 dL_law_887 rfl rfl ?_
  refine vv_iload_n 889 dL_law_888 rfl rfl ?_
  refine vv_iconst 890 (v := 1) dL_law_889 rfl (by decide) ?_
  refine vv_iadd 891 dL_law_890 rfl ?_
  obtain ⟨h6, hf⟩ := gd_s hf
  refine vv_scr 892 dL_law_891 rfl h6 ?_
  refine vv_aload_n 893 dL_law_892 rfl rfl ?_
  refine vv_iload_n 894 dL_law_893 rfl rfl ?_
  refine vv_iconst 895 (v := 2) dL_law_894 rfl (by decide) ?_
  refine vv_iadd 896 dL_law_895 rfl ?_
  obtain ⟨h7, hf⟩ := gd_s hf
  refine vv_scr 897 dL_law_896 rfl h7 ?_
  refine vv_aload_n 898 dL_law_897 rfl rfl ?_
  refine vv_iload_n 899 dL_law_898 rfl rfl ?_
  refine vv_iconst 900 (v := 3) dL_law_899 rfl (by decide) ?_
  refine vv_iadd 901 dL_law_900 rfl ?_
  obtain ⟨h8, hf⟩ := gd_s hf
  refine vv_scr 902 dL_law_901 rfl h8 ?_
  refine vv_aload_n 903 dL_law_902 rfl rfl ?_
  refine vv_iload_n 904 dL_law_903 rfl rfl ?_
  refine vv_iconst 905 (v := 4) dL_law_904 rfl (by decide) ?_
  refine vv_iadd 906 dL_law_905 rfl ?_
  obtain ⟨h9, hf⟩ := gd_s hf
  refine vv_scr 907 dL_law_906 rfl h9 ?_
  obtain ⟨q10, g_q10, hf⟩ := bind_s hf
  refine vv_callV 910 (st := [.int q5.1]) (As := [.int (w.2.2.2.2.2.2 (x3 + (1 : Int32)).toNatClampNeg), .int (w.2.2.2.2.2.2 (x3 + (2 : Int32)).toNatClampNeg), .int (w.2.2.2.2.2.2 (x3 + (3 : Int32)).toNatClampNeg), .int (w.2.2.2.2.2.2 (x3 + (4 : Int32)).toNatClampNeg)]) (stk2 := [.int q10.1, .int q5.1]) (cl2 := cl) (sl2 := sl) dL_law_907 rfl lk_RL_81 w_1491 w_1492 rfl t_a2 ⟨(Nat.le_of_ble_eq_true rfl), (Nat.le_of_ble_eq_true rfl)⟩ rfl rfl ⟨Nat.le_trans (Nat.add_le_add_left (by decide) _) hcl, Nat.le_trans (Nat.add_le_add_left (by decide) _) hsl⟩ rfl (Nat.le_of_ble_eq_true rfl) rfl rfl rfl rfl (c_X9_span t_a2 g_q10) ?_
  refine vv_icmp_eq 2058 913 dL_law_910 rfl (by decide) (fun c11 => ?_) (fun c11 => ?_)
  · rw [if_pos c11] at hf
    obtain ⟨z12, e_z12, hf⟩ := bd_s hf
    refine vv_iincE (q := 2061) (v := z12) (c := 6) (L' := [some (.ref w.2.2.2.2.1), some (.ref a1), some (.ref a2), some (.int z12)]) e_z12 dL_law_2058 rfl rfl (by decide) (Nat.le_of_ble_eq_true rfl) rfl ?_
    refine vv_goto 18 dL_law_2061 (by decide) ?_
    exact hk18 _ _ _ _ _ _ t_a1 t_a2 (Nat.le_succ _) (Nat.le_add_right _ _) hf
  · rw [if_neg c11] at hf
    refine vv_iconst 914 (v := 0) dL_law_913 rfl (by decide) ?_
    exact absurd (Option.some.inj hf) (by decide)

set_option maxHeartbeats 4000000 in
theorem v_L_law_915 {w : Wo} {K : Kn} {cl sl : Nat} (hcl : cl + 1 ≤ 600000) (hsl : sl + 5 ≤ 7302250) (k18 : Mem → Nat → Nat → Int32 → Option Int32) (hk18 : ∀ (m : Mem) (a1 : Nat) (a2 : Nat) (x3 : Int32) (cl2 sl2 : Nat), K a1 = some (.inl 7) → K a2 = some (.inl 8) → cl2 ≤ cl + 1 → sl2 ≤ sl + 5 → k18 m a1 a2 x3 = some 1 → VV w RL cL_law 4 (some .boolean) room_1 false (QL w) K 18 [some (.ref w.2.2.2.2.1), some (.ref a1), some (.ref a2), some (.int x3)] [] cl2 sl2 m) {m : Mem} {a1 : Nat} {a2 : Nat} {x3 : Int32} (t_a1 : K a1 = some (.inl 7)) (t_a2 : K a2 = some (.inl 8)) (hf : f_L_law_915 K w.2.2.2.2.2.1 w.2.2.2.2.2.2 k18 m a1 a2 x3 = some 1) : VV w RL cL_law 4 (some .boolean) room_1 false (QL w) K 915 [some (.ref w.2.2.2.2.1), some (.ref a1), some (.ref a2), some (.int x3)] [] cl sl m := by
  unfold f_L_law_915 at hf
  refine vv_aload_n 916 dL_law_915 rfl rfl ?_
  refine vv_aload_n 917 dL_law_916 rfl rfl ?_
  refine vv_iload_n 918 dL_law_917 rfl rfl ?_
  refine vv_iconst 919 (v := 1) dL_law_918 rfl (by decide) ?_
  refine vv_iadd 920 dL_law_919 rfl ?_
  obtain ⟨h1, hf⟩ := gd_s hf
  refine vv_scr 921 dL_law_920 rfl h1 ?_
  refine vv_aload_n 922 dL_law_921 rfl rfl ?_
  refine vv_iload_n 923 dL_law_922 rfl rfl ?_
  refine vv_iconst 924 (v := 2) dL_law_923 rfl (by decide) ?_
  refine vv_iadd 925 dL_law_924 rfl ?_
  obtain ⟨h2, hf⟩ := gd_s hf
  refine vv_scr 926 dL_law_925 rfl h2 ?_
  refine vv_aload_n 927 dL_law_926 rfl rfl ?_
  refine vv_iload_n 928 dL_law_927 rfl rfl ?_
  refine vv_iconst 929 (v := 3) dL_law_928 rfl (by decide) ?_
  refine vv_iadd 930 dL_law_929 rfl ?_
  obtain ⟨h3, hf⟩ := gd_s hf
  refine vv_scr 931 dL_law_930 rfl h3 ?_
  refine vv_aload_n 932 dL_law_931 rfl rfl ?_
  refine vv_iload_n 933 dL_law_932 rfl rfl ?_
  refine vv_iconst 934 (v := 4) dL_law_933 rfl (by decide) ?_
  refine vv_iadd 935 dL_law_934 rfl ?_
  obtain ⟨h4, hf⟩ := gd_s hf
  refine vv_scr 936 dL_law_935 rfl h4 ?_
  obtain ⟨q5, g_q5, hf⟩ := bind_s hf
  refine vv_callV 939 (st := []) (As := [.int (w.2.2.2.2.2.2 (x3 + (1 : Int32)).toNatClampNeg), .int (w.2.2.2.2.2.2 (x3 + (2 : Int32)).toNatClampNeg), .int (w.2.2.2.2.2.2 (x3 + (3 : Int32)).toNatClampNeg), .int (w.2.2.2.2.2.2 (x3 + (4 : Int32)).toNatClampNeg)]) (stk2 := [.long q5.1]) (cl2 := cl) (sl2 := sl) dL_law_936 rfl lk_RL_82 w_867 w_868 rfl t_a1 ⟨(Nat.le_of_ble_eq_true rfl), (Nat.le_of_ble_eq_true rfl)⟩ rfl rfl ⟨Nat.le_trans (Nat.add_le_add_left (by decide) _) hcl, Nat.le_trans (Nat.add_le_add_left (by decide) _) hsl⟩ rfl (Nat.le_of_ble_eq_true rfl) rfl rfl rfl rfl (c_X8_value t_a1 g_q5) ?_
  refine vv_aload_n 940 dL_law_939 rfl rfl ?_
  refine vv_aload_n 941 dL_law_940 rfl rfl ?_
  refine vv_iload_n 942 dL_law_941 rfl rfl ?_
  refine vv_iconst 943 (v := 1) dL_law_942 rfl (by decide) ?_
  refine vv_iadd 944 dL_law_943 rfl ?_
  obtain ⟨h6, hf⟩ := gd_s hf
  refine vv_scr 945 dL_law_944 rfl h6 ?_
  refine vv_aload_n 946 dL_law_945 rfl rfl ?_
  refine vv_iload_n 947 dL_law_946 rfl rfl ?_
  refine vv_iconst 948 (v := 2) dL_law_947 rfl (by decide) ?_
  refine vv_iadd 949 dL_law_948 rfl ?_
  obtain ⟨h7, hf⟩ := gd_s hf
  refine vv_scr 950 dL_law_949 rfl h7 ?_
  refine vv_aload_n 951 dL_law_950 rfl rfl ?_
  refine vv_iload_n 952 dL_law_951 rfl rfl ?_
  refine vv_iconst 953 (v := 3) dL_law_952 rfl (by decide) ?_
  refine vv_iadd 954 dL_law_953 rfl ?_
  obtain ⟨h8, hf⟩ := gd_s hf
  refine vv_scr 955 dL_law_954 rfl h8 ?_
  refine vv_aload_n 956 dL_law_955 rfl rfl ?_
  refine vv_iload_n 957 dL_law_956 rfl rfl ?_
  refine vv_iconst 958 (v := 4) dL_law_957 rfl (by decide) ?_
  refine vv_iadd 959 dL_law_958 rfl ?_
  obtain ⟨h9, hf⟩ := gd_s hf
  refine vv_scr 960 dL_law_959 rfl h9 ?_
  obtain ⟨q10, g_q10, hf⟩ := bind_s hf
  refine vv_callV 963 (st := [.long q5.1]) (As := [.int (w.2.2.2.2.2.2 (x3 + (1 : Int32)).toNatClampNeg), .int (w.2.2.2.2.2.2 (x3 + (2 : Int32)).toNatClampNeg), .int (w.2.2.2.2.2.2 (x3 + (3 : Int32)).toNatClampNeg), .int (w.2.2.2.2.2.2 (x3 + (4 : Int32)).toNatClampNeg)]) (stk2 := [.long q10.1, .long q5.1]) (cl2 := cl) (sl2 := sl) dL_law_960 rfl lk_RL_86 w_1513 w_1514 rfl t_a2 ⟨(Nat.le_of_ble_eq_true rfl), (Nat.le_of_ble_eq_true rfl)⟩ rfl rfl ⟨Nat.le_trans (Nat.add_le_add_left (by decide) _) hcl, Nat.le_trans (Nat.add_le_add_left (by decide) _) hsl⟩ rfl (Nat.le_of_ble_eq_true rfl) rfl rfl rfl rfl (c_X9_value t_a2 g_q10) ?_
  refine vv_lcmp 964 dL_law_963 rfl ?_
  refine vv_if_eq 2058 967 dL_law_964 rfl (by decide) (fun c11 => ?_) (fun c11 => ?_)
  · rw [if_pos c11] at hf
    obtain ⟨z12, e_z12, hf⟩ := bd_s hf
    refine vv_iincE (q := 2061) (v := z12) (c := 6) (L' := [some (.ref w.2.2.2.2.1), some (.ref a1), some (.ref a2), some (.int z12)]) e_z12 dL_law_2058 rfl rfl (by decide) (Nat.le_of_ble_eq_true rfl) rfl ?_
    refine vv_goto 18 dL_law_2061 (by decide) ?_
    exact hk18 _ _ _ _ _ _ t_a1 t_a2 (Nat.le_succ _) (Nat.le_add_right _ _) hf
  · rw [if_neg c11] at hf
    refine vv_iconst 968 (v := 0) dL_law_967 rfl (by decide) ?_
    exact absurd (Option.some.inj hf) (by decide)

set_option maxHeartbeats 4000000 in
theorem v_L_law_969 {w : Wo} {K : Kn} {cl sl : Nat} (hcl : cl + 1 ≤ 600000) (hsl : sl + 5 ≤ 7302250) (k18 : Mem → Nat → Nat → Int32 → Option Int32) (hk18 : ∀ (m : Mem) (a1 : Nat) (a2 : Nat) (x3 : Int32) (cl2 sl2 : Nat), K a1 = some (.inl 7) → K a2 = some (.inl 8) → cl2 ≤ cl + 1 → sl2 ≤ sl + 5 → k18 m a1 a2 x3 = some 1 → VV w RL cL_law 4 (some .boolean) room_1 false (QL w) K 18 [some (.ref w.2.2.2.2.1), some (.ref a1), some (.ref a2), some (.int x3)] [] cl2 sl2 m) {m : Mem} {a1 : Nat} {a2 : Nat} {x3 : Int32} (t_a1 : K a1 = some (.inl 7)) (t_a2 : K a2 = some (.inl 8)) (hf : f_L_law_969 K w.2.2.2.2.2.1 w.2.2.2.2.2.2 k18 m a1 a2 x3 = some 1) : VV w RL cL_law 4 (some .boolean) room_1 false (QL w) K 969 [some (.ref w.2.2.2.2.1), some (.ref a1), some (.ref a2), some (.int x3)] [] cl sl m := by
  unfold f_L_law_969 at hf
  refine vv_aload_n 970 dL_law_969 rfl rfl ?_
  refine vv_aload_n 971 dL_law_970 rfl rfl ?_
  refine vv_iload_n 972 dL_law_971 rfl rfl ?_
  refine vv_iconst 973 (v := 1) dL_law_972 rfl (by decide) ?_
  refine vv_iadd 974 dL_law_973 rfl ?_
  obtain ⟨h1, hf⟩ := gd_s hf
  refine vv_scr 975 dL_law_974 rfl h1 ?_
  refine vv_aload_n 976 dL_law_975 rfl rfl ?_
  refine vv_iload_n 977 dL_law_976 rfl rfl ?_
  refine vv_iconst 978 (v := 2) dL_law_977 rfl (by decide) ?_
  refine vv_iadd 979 dL_law_978 rfl ?_
  obtain ⟨h2, hf⟩ := gd_s hf
  refine vv_scr 980 dL_law_979 rfl h2 ?_
  refine vv_aload_n 981 dL_law_980 rfl rfl ?_
  refine vv_iload_n 982 dL_law_981 rfl rfl ?_
  refine vv_iconst 983 (v := 3) dL_law_982 rfl (by decide) ?_
  refine vv_iadd 984 dL_law_983 rfl ?_
  obtain ⟨h3, hf⟩ := gd_s hf
  refine vv_scr 985 dL_law_984 rfl h3 ?_
  refine vv_aload_n 986 dL_law_985 rfl rfl ?_
  refine vv_iload_n 987 dL_law_986 rfl rfl ?_
  refine vv_iconst 988 (v := 4) dL_law_987 rfl (by decide) ?_
  refine vv_iadd 989 dL_law_988 rfl ?_
  obtain ⟨h4, hf⟩ := gd_s hf
  refine vv_scr 990 dL_law_989 rfl h4 ?_
  refine vv_i2l 991 dL_law_990 rfl ?_
  refine vv_bipush 993 (v := 32) dL_law_991 rfl (by decide) ?_
  refine vv_lshl 994 dL_law_993 rfl ?_
  refine vv_aload_n 995 dL_law_994 rfl rfl ?_
  refine vv_iload_n 996 dL_law_995 rfl rfl ?_
  refine vv_iconst 997 (v := 5) dL_law_996 rfl (by decide) ?_
  refine vv_iadd 998 dL_law_997 rfl ?_
  obtain ⟨h5, hf⟩ := gd_s hf
  refine vv_scr 999 dL_law_998 rfl h5 ?_
  refine vv_i2l 1000 dL_law_999 rfl ?_
  refine vv_ldc2 1003 (v := 4294967295) dL_law_1000 rfl w_1629 ?_
  refine vv_land 1004 dL_law_1003 rfl ?_
  refine vv_lor 1005 dL_law_1004 rfl ?_
  obtain ⟨q6, g_q6, hf⟩ := bind_s hf
  refine vv_callV 1008 (st := []) (As := [.int (w.2.2.2.2.2.2 (x3 + (1 : Int32)).toNatClampNeg), .int (w.2.2.2.2.2.2 (x3 + (2 : Int32)).toNatClampNeg), .int (w.2.2.2.2.2.2 (x3 + (3 : Int32)).toNatClampNeg), .long ((lshl ((w.2.2.2.2.2.2 (x3 + (4 : Int32)).toNatClampNeg).toInt64) (32 : Int32)) ||| (((w.2.2.2.2.2.2 (x3 + (5 : Int32)).toNatClampNeg).toInt64) &&& (4294967295 : Int64)))]) (stk2 := [.int q6.1]) (cl2 := cl) (sl2 := sl) dL_law_1005 rfl lk_RL_87 w_921 w_922 rfl t_a1 ⟨(Nat.le_of_ble_eq_true rfl), (Nat.le_of_ble_eq_true rfl)⟩ rfl rfl ⟨Nat.le_trans (Nat.add_le_add_left (by decide) _) hcl, Nat.le_trans (Nat.add_le_add_left (by decide) _) hsl⟩ rfl (Nat.le_of_ble_eq_true rfl) rfl rfl rfl rfl (c_X8_above t_a1 g_q6) ?_
  refine vv_aload_n 1009 dL_law_1008 rfl rfl ?_
  refine vv_aload_n 1010 dL_law_1009 rfl rfl ?_
  refine vv_iload_n 1011 dL_law_1010 rfl rfl ?_
  refine vv_iconst 1012 (v := 1) dL_law_1011 rfl (by decide) ?_
  refine vv_iadd 1013 dL_law_1012 rfl ?_
  obtain ⟨h7, hf⟩ := gd_s hf
  refine vv_scr 1014 dL_law_1013 rfl h7 ?_
  refine vv_aload_n 1015 dL_law_1014 rfl rfl ?_
  refine vv_iload_n 1016 dL_law_1015 rfl rfl ?_
  refine vv_iconst 1017 (v := 2) dL_law_1016 rfl (by decide) ?_
  refine vv_iadd 1018 dL_law_1017 rfl ?_
  obtain ⟨h8, hf⟩ := gd_s hf
  refine vv_scr 1019 dL_law_1018 rfl h8 ?_
  refine vv_aload_n 1020 dL_law_1019 rfl rfl ?_
  refine vv_iload_n 1021 dL_law_1020 rfl rfl ?_
  refine vv_iconst 1022 (v := 3) dL_law_1021 rfl (by decide) ?_
  refine vv_iadd 1023 dL_law_1022 rfl ?_
  obtain ⟨h9, hf⟩ := gd_s hf
  refine vv_scr 1024 dL_law_1023 rfl h9 ?_
  refine vv_aload_n 1025 dL_law_1024 rfl rfl ?_
  refine vv_iload_n 1026 dL_law_1025 rfl rfl ?_
  refine vv_iconst 1027 (v := 4) dL_law_1026 rfl (by decide) ?_
  refine vv_iadd 1028 dL_law_1027 rfl ?_
  obtain ⟨h10, hf⟩ := gd_s hf
  refine vv_scr 1029 dL_law_1028 rfl h10 ?_
  refine vv_i2l 1030 dL_law_1029 rfl ?_
  refine vv_bipush 1032 (v := 32) dL_law_1030 rfl (by decide) ?_
  refine vv_lshl 1033 dL_law_1032 rfl ?_
  refine vv_aload_n 1034 dL_law_1033 rfl rfl ?_
  refine vv_iload_n 1035 dL_law_1034 rfl rfl ?_
  refine vv_iconst 1036 (v := 5) dL_law_1035 rfl (by decide) ?_
  refine vv_iadd 1037 dL_law_1036 rfl ?_
  obtain ⟨h11, hf⟩ := gd_s hf
  refine vv_scr 1038 dL_law_1037 rfl h11 ?_
  refine vv_i2l 1039 dL_law_1038 rfl ?_
  refine vv_ldc2 1042 (v := 4294967295) dL_law_1039 rfl w_1629 ?_
  refine vv_land 1043 dL_law_1042 rfl ?_
  refine vv_lor 1044 dL_law_1043 rfl ?_
  obtain ⟨q12, g_q12, hf⟩ := bind_s hf
  refine vv_callV 1047 (st := [.int q6.1]) (As := [.int (w.2.2.2.2.2.2 (x3 + (1 : Int32)).toNatClampNeg), .int (w.2.2.2.2.2.2 (x3 + (2 : Int32)).toNatClampNeg), .int (w.2.2.2.2.2.2 (x3 + (3 : Int32)).toNatClampNeg), .long ((lshl ((w.2.2.2.2.2.2 (x3 + (4 : Int32)).toNatClampNeg).toInt64) (32 : Int32)) ||| (((w.2.2.2.2.2.2 (x3 + (5 : Int32)).toNatClampNeg).toInt64) &&& (4294967295 : Int64)))]) (stk2 := [.int q12.1, .int q6.1]) (cl2 := cl) (sl2 := sl) dL_law_1044 rfl lk_RL_91 w_1538 w_1539 rfl t_a2 ⟨(Nat.le_of_ble_eq_true rfl), (Nat.le_of_ble_eq_true rfl)⟩ rfl rfl ⟨Nat.le_trans (Nat.add_le_add_left (by decide) _) hcl, Nat.le_trans (Nat.add_le_add_left (by decide) _) hsl⟩ rfl (Nat.le_of_ble_eq_true rfl) rfl rfl rfl rfl (c_X9_above t_a2 g_q12) ?_
  refine vv_icmp_eq 2058 1050 dL_law_1047 rfl (by decide) (fun c13 => ?_) (fun c13 => ?_)
  · rw [if_pos c13] at hf
    obtain ⟨z14, e_z14, hf⟩ := bd_s hf
    refine vv_iincE (q := 2061) (v := z14) (c := 6) (L' := [some (.ref w.2.2.2.2.1), some (.ref a1), some (.ref a2), some (.int z14)]) e_z14 dL_law_2058 rfl rfl (by decide) (Nat.le_of_ble_eq_true rfl) rfl ?_
    refine vv_goto 18 dL_law_2061 (by decide) ?_
    exact hk18 _ _ _ _ _ _ t_a1 t_a2 (Nat.le_succ _) (Nat.le_add_right _ _) hf
  · rw [if_neg c13] at hf
    refine vv_iconst 1051 (v := 0) dL_law_1050 rfl (by decide) ?_
    exact absurd (Option.some.inj hf) (by decide)

set_option maxHeartbeats 4000000 in
theorem v_L_law_1052 {w : Wo} {K : Kn} {cl sl : Nat} (hcl : cl + 1 ≤ 600000) (hsl : sl + 5 ≤ 7302250) (k18 : Mem → Nat → Nat → Int32 → Option Int32) (hk18 : ∀ (m : Mem) (a1 : Nat) (a2 : Nat) (x3 : Int32) (cl2 sl2 : Nat), K a1 = some (.inl 7) → K a2 = some (.inl 8) → cl2 ≤ cl + 1 → sl2 ≤ sl + 5 → k18 m a1 a2 x3 = some 1 → VV w RL cL_law 4 (some .boolean) room_1 false (QL w) K 18 [some (.ref w.2.2.2.2.1), some (.ref a1), some (.ref a2), some (.int x3)] [] cl2 sl2 m) {m : Mem} {a1 : Nat} {a2 : Nat} {x3 : Int32} (t_a1 : K a1 = some (.inl 7)) (t_a2 : K a2 = some (.inl 8)) (hf : f_L_law_1052 K w.2.2.2.2.2.1 w.2.2.2.2.2.2 k18 m a1 a2 x3 = some 1) : VV w RL cL_law 4 (some .boolean) room_1 false (QL w) K 1052 [some (.ref w.2.2.2.2.1), some (.ref a1), some (.ref a2), some (.int x3)] [] cl sl m := by
  unfold f_L_law_1052 at hf
  refine vv_aload_n 1053 dL_law_1052 rfl rfl ?_
  refine vv_aload_n 1054 dL_law_1053 rfl rfl ?_
  refine vv_iload_n 1055 dL_law_1054 rfl rfl ?_
  refine vv_iconst 1056 (v := 1) dL_law_1055 rfl (by decide) ?_
  refine vv_iadd 1057 dL_law_1056 rfl ?_
  obtain ⟨h1, hf⟩ := gd_s hf
  refine vv_scr 1058 dL_law_1057 rfl h1 ?_
  refine vv_aload_n 1059 dL_law_1058 rfl rfl ?_
  refine vv_iload_n 1060 dL_law_1059 rfl rfl ?_
  refine vv_iconst 1061 (v := 2) dL_law_1060 rfl (by decide) ?_
  refine vv_iadd 1062 dL_law_1061 rfl ?_
  obtain ⟨h2, hf⟩ := gd_s hf
  refine vv_scr 1063 dL_law_1062 rfl h2 ?_
  obtain ⟨q3, g_q3, hf⟩ := bind_s hf
  refine vv_callV 1066 (st := []) (As := [.int (w.2.2.2.2.2.2 (x3 + (1 : Int32)).toNatClampNeg), .int (w.2.2.2.2.2.2 (x3 + (2 : Int32)).toNatClampNeg)]) (stk2 := [.int q3.1]) (cl2 := cl) (sl2 := sl) dL_law_1063 rfl lk_RL_92 w_753 w_754 rfl t_a1 ⟨(Nat.le_of_ble_eq_true rfl), (Nat.le_of_ble_eq_true rfl)⟩ rfl rfl ⟨Nat.le_trans (Nat.add_le_add_left (by decide) _) hcl, Nat.le_trans (Nat.add_le_add_left (by decide) _) hsl⟩ rfl (Nat.le_of_ble_eq_true rfl) rfl rfl rfl rfl (c_X8_ways t_a1 g_q3) ?_
  refine vv_aload_n 1067 dL_law_1066 rfl rfl ?_
  refine vv_aload_n 1068 dL_law_1067 rfl rfl ?_
  refine vv_iload_n 1069 dL_law_1068 rfl rfl ?_
  refine vv_iconst 1070 (v := 1) dL_law_1069 rfl (by decide) ?_
  refine vv_iadd 1071 dL_law_1070 rfl ?_
  obtain ⟨h4, hf⟩ := gd_s hf
  refine vv_scr 1072 dL_law_1071 rfl h4 ?_
  refine vv_aload_n 1073 dL_law_1072 rfl rfl ?_
  refine vv_iload_n 1074 dL_law_1073 rfl rfl ?_
  refine vv_iconst 1075 (v := 2) dL_law_1074 rfl (by decide) ?_
  refine vv_iadd 1076 dL_law_1075 rfl ?_
  obtain ⟨h5, hf⟩ := gd_s hf
  refine vv_scr 1077 dL_law_1076 rfl h5 ?_
  obtain ⟨q6, g_q6, hf⟩ := bind_s hf
  refine vv_callV 1080 (st := [.int q3.1]) (As := [.int (w.2.2.2.2.2.2 (x3 + (1 : Int32)).toNatClampNeg), .int (w.2.2.2.2.2.2 (x3 + (2 : Int32)).toNatClampNeg)]) (stk2 := [.int q6.1, .int q3.1]) (cl2 := cl) (sl2 := sl) dL_law_1077 rfl lk_RL_95 w_1438 w_1439 rfl t_a2 ⟨(Nat.le_of_ble_eq_true rfl), (Nat.le_of_ble_eq_true rfl)⟩ rfl rfl ⟨Nat.le_trans (Nat.add_le_add_left (by decide) _) hcl, Nat.le_trans (Nat.add_le_add_left (by decide) _) hsl⟩ rfl (Nat.le_of_ble_eq_true rfl) rfl rfl rfl rfl (c_X9_ways t_a2 g_q6) ?_
  refine vv_icmp_eq 2058 1083 dL_law_1080 rfl (by decide) (fun c7 => ?_) (fun c7 => ?_)
  · rw [if_pos c7] at hf
    obtain ⟨z8, e_z8, hf⟩ := bd_s hf
    refine vv_iincE (q := 2061) (v := z8) (c := 6) (L' := [some (.ref w.2.2.2.2.1), some (.ref a1), some (.ref a2), some (.int z8)]) e_z8 dL_law_2058 rfl rfl (by decide) (Nat.le_of_ble_eq_true rfl) rfl ?_
    refine vv_goto 18 dL_law_2061 (by decide) ?_
    exact hk18 _ _ _ _ _ _ t_a1 t_a2 (Nat.le_succ _) (Nat.le_add_right _ _) hf
  · rw [if_neg c7] at hf
    refine vv_iconst 1084 (v := 0) dL_law_1083 rfl (by decide) ?_
    exact absurd (Option.some.inj hf) (by decide)

set_option maxHeartbeats 4000000 in
theorem v_L_law_1085 {w : Wo} {K : Kn} {cl sl : Nat} (hcl : cl + 1 ≤ 600000) (hsl : sl + 5 ≤ 7302250) (k18 : Mem → Nat → Nat → Int32 → Option Int32) (hk18 : ∀ (m : Mem) (a1 : Nat) (a2 : Nat) (x3 : Int32) (cl2 sl2 : Nat), K a1 = some (.inl 7) → K a2 = some (.inl 8) → cl2 ≤ cl + 1 → sl2 ≤ sl + 5 → k18 m a1 a2 x3 = some 1 → VV w RL cL_law 4 (some .boolean) room_1 false (QL w) K 18 [some (.ref w.2.2.2.2.1), some (.ref a1), some (.ref a2), some (.int x3)] [] cl2 sl2 m) {m : Mem} {a1 : Nat} {a2 : Nat} {x3 : Int32} (t_a1 : K a1 = some (.inl 7)) (t_a2 : K a2 = some (.inl 8)) (hf : f_L_law_1085 K w.2.2.2.2.2.1 w.2.2.2.2.2.2 k18 m a1 a2 x3 = some 1) : VV w RL cL_law 4 (some .boolean) room_1 false (QL w) K 1085 [some (.ref w.2.2.2.2.1), some (.ref a1), some (.ref a2), some (.int x3)] [] cl sl m := by
  unfold f_L_law_1085 at hf
  refine vv_aload_n 1086 dL_law_1085 rfl rfl ?_
  refine vv_aload_n 1087 dL_law_1086 rfl rfl ?_
  refine vv_iload_n 1088 dL_law_1087 rfl rfl ?_
  refine vv_iconst 1089 (v := 1) dL_law_1088 rfl (by decide) ?_
  refine vv_iadd 1090 dL_law_1089 rfl ?_
  obtain ⟨h1, hf⟩ := gd_s hf
  refine vv_scr 1091 dL_law_1090 rfl h1 ?_
  refine vv_aload_n 1092 dL_law_1091 rfl rfl ?_
  refine vv_iload_n 1093 dL_law_1092 rfl rfl ?_
  refine vv_iconst 1094 (v := 2) dL_law_1093 rfl (by decide) ?_
  refine vv_iadd 1095 dL_law_1094 rfl ?_
  obtain ⟨h2, hf⟩ := gd_s hf
  refine vv_scr 1096 dL_law_1095 rfl h2 ?_
  obtain ⟨q3, g_q3, hf⟩ := bind_s hf
  refine vv_callV 1099 (st := []) (As := [.int (w.2.2.2.2.2.2 (x3 + (1 : Int32)).toNatClampNeg), .int (w.2.2.2.2.2.2 (x3 + (2 : Int32)).toNatClampNeg)]) (stk2 := [.int q3]) (cl2 := cl) (sl2 := sl) dL_law_1096 rfl lk_RL_96 w_761 w_762 rfl t_a1 ⟨(Nat.le_of_ble_eq_true rfl), (Nat.le_of_ble_eq_true rfl)⟩ rfl rfl ⟨Nat.le_trans (Nat.add_le_add_left (by decide) _) hcl, Nat.le_trans (Nat.add_le_add_left (by decide) _) hsl⟩ rfl (Nat.le_of_ble_eq_true rfl) rfl rfl rfl rfl (c_X8_window t_a1 g_q3) ?_
  refine vv_aload_n 1100 dL_law_1099 rfl rfl ?_
  refine vv_aload_n 1101 dL_law_1100 rfl rfl ?_
  refine vv_iload_n 1102 dL_law_1101 rfl rfl ?_
  refine vv_iconst 1103 (v := 1) dL_law_1102 rfl (by decide) ?_
  refine vv_iadd 1104 dL_law_1103 rfl ?_
  obtain ⟨h4, hf⟩ := gd_s hf
  refine vv_scr 1105 dL_law_1104 rfl h4 ?_
  refine vv_aload_n 1106 dL_law_1105 rfl rfl ?_
  refine vv_iload_n 1107 dL_law_1106 rfl rfl ?_
  refine vv_iconst 1108 (v := 2) dL_law_1107 rfl (by decide) ?_
  refine vv_iadd 1109 dL_law_1108 rfl ?_
  obtain ⟨h5, hf⟩ := gd_s hf
  refine vv_scr 1110 dL_law_1109 rfl h5 ?_
  obtain ⟨q6, g_q6, hf⟩ := bind_s hf
  refine vv_callV 1113 (st := [.int q3]) (As := [.int (w.2.2.2.2.2.2 (x3 + (1 : Int32)).toNatClampNeg), .int (w.2.2.2.2.2.2 (x3 + (2 : Int32)).toNatClampNeg)]) (stk2 := [.int q6.1, .int q3]) (cl2 := cl) (sl2 := sl) dL_law_1110 rfl lk_RL_99 w_1447 w_1448 rfl t_a2 ⟨(Nat.le_of_ble_eq_true rfl), (Nat.le_of_ble_eq_true rfl)⟩ rfl rfl ⟨Nat.le_trans (Nat.add_le_add_left (by decide) _) hcl, Nat.le_trans (Nat.add_le_add_left (by decide) _) hsl⟩ rfl (Nat.le_of_ble_eq_true rfl) rfl rfl rfl rfl (c_X9_window t_a2 g_q6) ?_
  refine vv_icmp_eq 2058 1116 dL_law_1113 rfl (by decide) (fun c7 => ?_) (fun c7 => ?_)
  · rw [if_pos c7] at hf
    obtain ⟨z8, e_z8, hf⟩ := bd_s hf
    refine vv_iincE (q := 2061) (v := z8) (c := 6) (L' := [some (.ref w.2.2.2.2.1), some (.ref a1), some (.ref a2), some (.int z8)]) e_z8 dL_law_2058 rfl rfl (by decide) (Nat.le_of_ble_eq_true rfl) rfl ?_
    refine vv_goto 18 dL_law_2061 (by decide) ?_
    exact hk18 _ _ _ _ _ _ t_a1 t_a2 (Nat.le_succ _) (Nat.le_add_right _ _) hf
  · rw [if_neg c7] at hf
    refine vv_iconst 1117 (v := 0) dL_law_1116 rfl (by decide) ?_
    exact absurd (Option.some.inj hf) (by decide)

set_option maxHeartbeats 4000000 in
theorem v_L_law_1118 {w : Wo} {K : Kn} {cl sl : Nat} (hcl : cl + 1 ≤ 600000) (hsl : sl + 5 ≤ 7302250) (k18 : Mem → Nat → Nat → Int32 → Option Int32) (hk18 : ∀ (m : Mem) (a1 : Nat) (a2 : Nat) (x3 : Int32) (cl2 sl2 : Nat), K a1 = some (.inl 7) → K a2 = some (.inl 8) → cl2 ≤ cl + 1 → sl2 ≤ sl + 5 → k18 m a1 a2 x3 = some 1 → VV w RL cL_law 4 (some .boolean) room_1 false (QL w) K 18 [some (.ref w.2.2.2.2.1), some (.ref a1), some (.ref a2), some (.int x3)] [] cl2 sl2 m) {m : Mem} {a1 : Nat} {a2 : Nat} {x3 : Int32} (t_a1 : K a1 = some (.inl 7)) (t_a2 : K a2 = some (.inl 8)) (hf : f_L_law_1118 K w.2.2.2.2.2.1 w.2.2.2.2.2.2 k18 m a1 a2 x3 = some 1) : VV w RL cL_law 4 (some .boolean) room_1 false (QL w) K 1118 [some (.ref w.2.2.2.2.1), some (.ref a1), some (.ref a2), some (.int x3)] [] cl sl m := by
  unfold f_L_law_1118 at hf
  refine vv_aload_n 1119 dL_law_1118 rfl rfl ?_
  refine vv_aload_n 1120 dL_law_1119 rfl rfl ?_
  refine vv_iload_n 1121 dL_law_1120 rfl rfl ?_
  refine vv_iconst 1122 (v := 1) dL_law_1121 rfl (by decide) ?_
  refine vv_iadd 1123 dL_law_1122 rfl ?_
  obtain ⟨h1, hf⟩ := gd_s hf
  refine vv_scr 1124 dL_law_1123 rfl h1 ?_
  refine vv_aload_n 1125 dL_law_1124 rfl rfl ?_
  refine vv_iload_n 1126 dL_law_1125 rfl rfl ?_
  refine vv_iconst 1127 (v := 2) dL_law_1126 rfl (by decide) ?_
  refine vv_iadd 1128 dL_law_1127 rfl ?_
  obtain ⟨h2, hf⟩ := gd_s hf
  refine vv_scr 1129 dL_law_1128 rfl h2 ?_
  obtain ⟨q3, g_q3, hf⟩ := bind_s hf
  refine vv_callV 1132 (st := []) (As := [.int (w.2.2.2.2.2.2 (x3 + (1 : Int32)).toNatClampNeg), .int (w.2.2.2.2.2.2 (x3 + (2 : Int32)).toNatClampNeg)]) (stk2 := [.int q3.1]) (cl2 := cl) (sl2 := sl) dL_law_1129 rfl lk_RL_100 w_811 w_812 rfl t_a1 ⟨(Nat.le_of_ble_eq_true rfl), (Nat.le_of_ble_eq_true rfl)⟩ rfl rfl ⟨Nat.le_trans (Nat.add_le_add_left (by decide) _) hcl, Nat.le_trans (Nat.add_le_add_left (by decide) _) hsl⟩ rfl (Nat.le_of_ble_eq_true rfl) rfl rfl rfl rfl (c_X8_gap t_a1 g_q3) ?_
  refine vv_aload_n 1133 dL_law_1132 rfl rfl ?_
  refine vv_aload_n 1134 dL_law_1133 rfl rfl ?_
  refine vv_iload_n 1135 dL_law_1134 rfl rfl ?_
  refine vv_iconst 1136 (v := 1) dL_law_1135 rfl (by decide) ?_
  refine vv_iadd 1137 dL_law_1136 rfl ?_
  obtain ⟨h4, hf⟩ := gd_s hf
  refine vv_scr 1138 dL_law_1137 rfl h4 ?_
  refine vv_aload_n 1139 dL_law_1138 rfl rfl ?_
  refine vv_iload_n 1140 dL_law_1139 rfl rfl ?_
  refine vv_iconst 1141 (v := 2) dL_law_1140 rfl (by decide) ?_
  refine vv_iadd 1142 dL_law_1141 rfl ?_
  obtain ⟨h5, hf⟩ := gd_s hf
  refine vv_scr 1143 dL_law_1142 rfl h5 ?_
  obtain ⟨q6, g_q6, hf⟩ := bind_s hf
  refine vv_callV 1146 (st := [.int q3.1]) (As := [.int (w.2.2.2.2.2.2 (x3 + (1 : Int32)).toNatClampNeg), .int (w.2.2.2.2.2.2 (x3 + (2 : Int32)).toNatClampNeg)]) (stk2 := [.int q6.1, .int q3.1]) (cl2 := cl) (sl2 := sl) dL_law_1143 rfl lk_RL_103 w_1554 w_1555 rfl t_a2 ⟨(Nat.le_of_ble_eq_true rfl), (Nat.le_of_ble_eq_true rfl)⟩ rfl rfl ⟨Nat.le_trans (Nat.add_le_add_left (by decide) _) hcl, Nat.le_trans (Nat.add_le_add_left (by decide) _) hsl⟩ rfl (Nat.le_of_ble_eq_true rfl) rfl rfl rfl rfl (c_X9_gap t_a2 g_q6) ?_
  refine vv_icmp_eq 2058 1149 dL_law_1146 rfl (by decide) (fun c7 => ?_) (fun c7 => ?_)
  · rw [if_pos c7] at hf
    obtain ⟨z8, e_z8, hf⟩ := bd_s hf
    refine vv_iincE (q := 2061) (v := z8) (c := 6) (L' := [some (.ref w.2.2.2.2.1), some (.ref a1), some (.ref a2), some (.int z8)]) e_z8 dL_law_2058 rfl rfl (by decide) (Nat.le_of_ble_eq_true rfl) rfl ?_
    refine vv_goto 18 dL_law_2061 (by decide) ?_
    exact hk18 _ _ _ _ _ _ t_a1 t_a2 (Nat.le_succ _) (Nat.le_add_right _ _) hf
  · rw [if_neg c7] at hf
    refine vv_iconst 1150 (v := 0) dL_law_1149 rfl (by decide) ?_
    exact absurd (Option.some.inj hf) (by decide)

set_option maxHeartbeats 4000000 in
theorem v_L_law_1151 {w : Wo} {K : Kn} {cl sl : Nat} (hcl : cl + 1 ≤ 600000) (hsl : sl + 5 ≤ 7302250) (k18 : Mem → Nat → Nat → Int32 → Option Int32) (hk18 : ∀ (m : Mem) (a1 : Nat) (a2 : Nat) (x3 : Int32) (cl2 sl2 : Nat), K a1 = some (.inl 7) → K a2 = some (.inl 8) → cl2 ≤ cl + 1 → sl2 ≤ sl + 5 → k18 m a1 a2 x3 = some 1 → VV w RL cL_law 4 (some .boolean) room_1 false (QL w) K 18 [some (.ref w.2.2.2.2.1), some (.ref a1), some (.ref a2), some (.int x3)] [] cl2 sl2 m) {m : Mem} {a1 : Nat} {a2 : Nat} {x3 : Int32} (t_a1 : K a1 = some (.inl 7)) (t_a2 : K a2 = some (.inl 8)) (hf : f_L_law_1151 K w.2.2.2.2.2.1 w.2.2.2.2.2.2 k18 m a1 a2 x3 = some 1) : VV w RL cL_law 4 (some .boolean) room_1 false (QL w) K 1151 [some (.ref w.2.2.2.2.1), some (.ref a1), some (.ref a2), some (.int x3)] [] cl sl m := by
  unfold f_L_law_1151 at hf
  refine vv_aload_n 1152 dL_law_1151 rfl rfl ?_
  refine vv_aload_n 1153 dL_law_1152 rfl rfl ?_
  refine vv_iload_n 1154 dL_law_1153 rfl rfl ?_
  refine vv_iconst 1155 (v := 1) dL_law_1154 rfl (by decide) ?_
  refine vv_iadd 1156 dL_law_1155 rfl ?_
  obtain ⟨h1, hf⟩ := gd_s hf
  refine vv_scr 1157 dL_law_1156 rfl h1 ?_
  refine vv_aload_n 1158 dL_law_1157 rfl rfl ?_
  refine vv_iload_n 1159 dL_law_1158 rfl rfl ?_
  refine vv_iconst 1160 (v := 2) dL_law_1159 rfl (by decide) ?_
  refine vv_iadd 1161 dL_law_1160 rfl ?_
  obtain ⟨h2, hf⟩ := gd_s hf
  refine vv_scr 1162 dL_law_1161 rfl h2 ?_
  obtain ⟨q3, g_q3, hf⟩ := bind_s hf
  refine vv_callV 1165 (st := []) (As := [.int (w.2.2.2.2.2.2 (x3 + (1 : Int32)).toNatClampNeg), .int (w.2.2.2.2.2.2 (x3 + (2 : Int32)).toNatClampNeg)]) (stk2 := [.int q3.1]) (cl2 := cl) (sl2 := sl) dL_law_1162 rfl lk_RL_104 w_819 w_820 rfl t_a1 ⟨(Nat.le_of_ble_eq_true rfl), (Nat.le_of_ble_eq_true rfl)⟩ rfl rfl ⟨Nat.le_trans (Nat.add_le_add_left (by decide) _) hcl, Nat.le_trans (Nat.add_le_add_left (by decide) _) hsl⟩ rfl (Nat.le_of_ble_eq_true rfl) rfl rfl rfl rfl (c_X8_row t_a1 g_q3) ?_
  refine vv_aload_n 1166 dL_law_1165 rfl rfl ?_
  refine vv_aload_n 1167 dL_law_1166 rfl rfl ?_
  refine vv_iload_n 1168 dL_law_1167 rfl rfl ?_
  refine vv_iconst 1169 (v := 1) dL_law_1168 rfl (by decide) ?_
  refine vv_iadd 1170 dL_law_1169 rfl ?_
  obtain ⟨h4, hf⟩ := gd_s hf
  refine vv_scr 1171 dL_law_1170 rfl h4 ?_
  refine vv_aload_n 1172 dL_law_1171 rfl rfl ?_
  refine vv_iload_n 1173 dL_law_1172 rfl rfl ?_
  refine vv_iconst 1174 (v := 2) dL_law_1173 rfl (by decide) ?_
  refine vv_iadd 1175 dL_law_1174 rfl ?_
  obtain ⟨h5, hf⟩ := gd_s hf
  refine vv_scr 1176 dL_law_1175 rfl h5 ?_
  obtain ⟨q6, g_q6, hf⟩ := bind_s hf
  refine vv_callV 1179 (st := [.int q3.1]) (As := [.int (w.2.2.2.2.2.2 (x3 + (1 : Int32)).toNatClampNeg), .int (w.2.2.2.2.2.2 (x3 + (2 : Int32)).toNatClampNeg)]) (stk2 := [.int q6.1, .int q3.1]) (cl2 := cl) (sl2 := sl) dL_law_1176 rfl lk_RL_107 w_1558 w_1559 rfl t_a2 ⟨(Nat.le_of_ble_eq_true rfl), (Nat.le_of_ble_eq_true rfl)⟩ rfl rfl ⟨Nat.le_trans (Nat.add_le_add_left (by decide) _) hcl, Nat.le_trans (Nat.add_le_add_left (by decide) _) hsl⟩ rfl (Nat.le_of_ble_eq_true rfl) rfl rfl rfl rfl (c_X9_row t_a2 g_q6) ?_
  refine vv_icmp_eq 2058 1182 dL_law_1179 rfl (by decide) (fun c7 => ?_) (fun c7 => ?_)
  · rw [if_pos c7] at hf
    obtain ⟨z8, e_z8, hf⟩ := bd_s hf
    refine vv_iincE (q := 2061) (v := z8) (c := 6) (L' := [some (.ref w.2.2.2.2.1), some (.ref a1), some (.ref a2), some (.int z8)]) e_z8 dL_law_2058 rfl rfl (by decide) (Nat.le_of_ble_eq_true rfl) rfl ?_
    refine vv_goto 18 dL_law_2061 (by decide) ?_
    exact hk18 _ _ _ _ _ _ t_a1 t_a2 (Nat.le_succ _) (Nat.le_add_right _ _) hf
  · rw [if_neg c7] at hf
    refine vv_iconst 1183 (v := 0) dL_law_1182 rfl (by decide) ?_
    exact absurd (Option.some.inj hf) (by decide)

set_option maxHeartbeats 4000000 in
theorem v_L_law_1184 {w : Wo} {K : Kn} {cl sl : Nat} (hcl : cl + 1 ≤ 600000) (hsl : sl + 5 ≤ 7302250) (k18 : Mem → Nat → Nat → Int32 → Option Int32) (hk18 : ∀ (m : Mem) (a1 : Nat) (a2 : Nat) (x3 : Int32) (cl2 sl2 : Nat), K a1 = some (.inl 7) → K a2 = some (.inl 8) → cl2 ≤ cl + 1 → sl2 ≤ sl + 5 → k18 m a1 a2 x3 = some 1 → VV w RL cL_law 4 (some .boolean) room_1 false (QL w) K 18 [some (.ref w.2.2.2.2.1), some (.ref a1), some (.ref a2), some (.int x3)] [] cl2 sl2 m) {m : Mem} {a1 : Nat} {a2 : Nat} {x3 : Int32} (t_a1 : K a1 = some (.inl 7)) (t_a2 : K a2 = some (.inl 8)) (hf : f_L_law_1184 K w.2.2.2.2.2.1 w.2.2.2.2.2.2 k18 m a1 a2 x3 = some 1) : VV w RL cL_law 4 (some .boolean) room_1 false (QL w) K 1184 [some (.ref w.2.2.2.2.1), some (.ref a1), some (.ref a2), some (.int x3)] [] cl sl m := by
  unfold f_L_law_1184 at hf
  refine vv_aload_n 1185 dL_law_1184 rfl rfl ?_
  refine vv_aload_n 1186 dL_law_1185 rfl rfl ?_
  refine vv_iload_n 1187 dL_law_1186 rfl rfl ?_
  refine vv_iconst 1188 (v := 1) dL_law_1187 rfl (by decide) ?_
  refine vv_iadd 1189 dL_law_1188 rfl ?_
  obtain ⟨h1, hf⟩ := gd_s hf
  refine vv_scr 1190 dL_law_1189 rfl h1 ?_
  refine vv_aload_n 1191 dL_law_1190 rfl rfl ?_
  refine vv_iload_n 1192 dL_law_1191 rfl rfl ?_
  refine vv_iconst 1193 (v := 2) dL_law_1192 rfl (by decide) ?_
  refine vv_iadd 1194 dL_law_1193 rfl ?_
  obtain ⟨h2, hf⟩ := gd_s hf
  refine vv_scr 1195 dL_law_1194 rfl h2 ?_
  refine vv_aload_n 1196 dL_law_1195 rfl rfl ?_
  refine vv_iload_n 1197 dL_law_1196 rfl rfl ?_
  refine vv_iconst 1198 (v := 3) dL_law_1197 rfl (by decide) ?_
  refine vv_iadd 1199 dL_law_1198 rfl ?_
  obtain ⟨h3, hf⟩ := gd_s hf
  refine vv_scr 1200 dL_law_1199 rfl h3 ?_
  obtain ⟨q4, g_q4, hf⟩ := bind_s hf
  refine vv_callV 1203 (st := []) (As := [.int (w.2.2.2.2.2.2 (x3 + (1 : Int32)).toNatClampNeg), .int (w.2.2.2.2.2.2 (x3 + (2 : Int32)).toNatClampNeg), .int (w.2.2.2.2.2.2 (x3 + (3 : Int32)).toNatClampNeg)]) (stk2 := [.int q4.1]) (cl2 := cl) (sl2 := sl) dL_law_1200 rfl lk_RL_108 w_955 w_956 rfl t_a1 ⟨(Nat.le_of_ble_eq_true rfl), (Nat.le_of_ble_eq_true rfl)⟩ rfl rfl ⟨Nat.le_trans (Nat.add_le_add_left (by decide) _) hcl, Nat.le_trans (Nat.add_le_add_left (by decide) _) hsl⟩ rfl (Nat.le_of_ble_eq_true rfl) rfl rfl rfl rfl (c_X8_both t_a1 g_q4) ?_
  refine vv_aload_n 1204 dL_law_1203 rfl rfl ?_
  refine vv_aload_n 1205 dL_law_1204 rfl rfl ?_
  refine vv_iload_n 1206 dL_law_1205 rfl rfl ?_
  refine vv_iconst 1207 (v := 1) dL_law_1206 rfl (by decide) ?_
  refine vv_iadd 1208 dL_law_1207 rfl ?_
  obtain ⟨h5, hf⟩ := gd_s hf
  refine vv_scr 1209 dL_law_1208 rfl h5 ?_
  refine vv_aload_n 1210 dL_law_1209 rfl rfl ?_
  refine vv_iload_n 1211 dL_law_1210 rfl rfl ?_
  refine vv_iconst 1212 (v := 2) dL_law_1211 rfl (by decide) ?_
  refine vv_iadd 1213 dL_law_1212 rfl ?_
  obtain ⟨h6, hf⟩ := gd_s hf
  refine vv_scr 1214 dL_law_1213 rfl h6 ?_
  refine vv_aload_n 1215 dL_law_1214 rfl rfl ?_
  refine vv_iload_n 1216 dL_law_1215 rfl rfl ?_
  refine vv_iconst 1217 (v := 3) dL_law_1216 rfl (by decide) ?_
  refine vv_iadd 1218 dL_law_1217 rfl ?_
  obtain ⟨h7, hf⟩ := gd_s hf
  refine vv_scr 1219 dL_law_1218 rfl h7 ?_
  obtain ⟨q8, g_q8, hf⟩ := bind_s hf
  refine vv_callV 1222 (st := [.int q4.1]) (As := [.int (w.2.2.2.2.2.2 (x3 + (1 : Int32)).toNatClampNeg), .int (w.2.2.2.2.2.2 (x3 + (2 : Int32)).toNatClampNeg), .int (w.2.2.2.2.2.2 (x3 + (3 : Int32)).toNatClampNeg)]) (stk2 := [.int q8.1, .int q4.1]) (cl2 := cl) (sl2 := sl) dL_law_1219 rfl lk_RL_111 w_1562 w_1563 rfl t_a2 ⟨(Nat.le_of_ble_eq_true rfl), (Nat.le_of_ble_eq_true rfl)⟩ rfl rfl ⟨Nat.le_trans (Nat.add_le_add_left (by decide) _) hcl, Nat.le_trans (Nat.add_le_add_left (by decide) _) hsl⟩ rfl (Nat.le_of_ble_eq_true rfl) rfl rfl rfl rfl (c_X9_both t_a2 g_q8) ?_
  refine vv_icmp_eq 2058 1225 dL_law_1222 rfl (by decide) (fun c9 => ?_) (fun c9 => ?_)
  · rw [if_pos c9] at hf
    obtain ⟨z10, e_z10, hf⟩ := bd_s hf
    refine vv_iincE (q := 2061) (v := z10) (c := 6) (L' := [some (.ref w.2.2.2.2.1), some (.ref a1), some (.ref a2), some (.int z10)]) e_z10 dL_law_2058 rfl rfl (by decide) (Nat.le_of_ble_eq_true rfl) rfl ?_
    refine vv_goto 18 dL_law_2061 (by decide) ?_
    exact hk18 _ _ _ _ _ _ t_a1 t_a2 (Nat.le_succ _) (Nat.le_add_right _ _) hf
  · rw [if_neg c9] at hf
    refine vv_iconst 1226 (v := 0) dL_law_1225 rfl (by decide) ?_
    exact absurd (Option.some.inj hf) (by decide)

set_option maxHeartbeats 4000000 in
theorem v_L_law_1227 {w : Wo} {K : Kn} {cl sl : Nat} (hcl : cl + 1 ≤ 600000) (hsl : sl + 5 ≤ 7302250) (k18 : Mem → Nat → Nat → Int32 → Option Int32) (hk18 : ∀ (m : Mem) (a1 : Nat) (a2 : Nat) (x3 : Int32) (cl2 sl2 : Nat), K a1 = some (.inl 7) → K a2 = some (.inl 8) → cl2 ≤ cl + 1 → sl2 ≤ sl + 5 → k18 m a1 a2 x3 = some 1 → VV w RL cL_law 4 (some .boolean) room_1 false (QL w) K 18 [some (.ref w.2.2.2.2.1), some (.ref a1), some (.ref a2), some (.int x3)] [] cl2 sl2 m) {m : Mem} {a1 : Nat} {a2 : Nat} {x3 : Int32} (t_a1 : K a1 = some (.inl 7)) (t_a2 : K a2 = some (.inl 8)) (hf : f_L_law_1227 K w.2.2.2.2.2.1 w.2.2.2.2.2.2 k18 m a1 a2 x3 = some 1) : VV w RL cL_law 4 (some .boolean) room_1 false (QL w) K 1227 [some (.ref w.2.2.2.2.1), some (.ref a1), some (.ref a2), some (.int x3)] [] cl sl m := by
  unfold f_L_law_1227 at hf
  refine vv_aload_n 1228 dL_law_1227 rfl rfl ?_
  refine vv_aload_n 1229 dL_law_1228 rfl rfl ?_
  refine vv_iload_n 1230 dL_law_1229 rfl rfl ?_
  refine vv_iconst 1231 (v := 1) dL_law_1230 rfl (by decide) ?_
  refine vv_iadd 1232 dL_law_1231 rfl ?_
  obtain ⟨h1, hf⟩ := gd_s hf
  refine vv_scr 1233 dL_law_1232 rfl h1 ?_
  refine vv_aload_n 1234 dL_law_1233 rfl rfl ?_
  refine vv_iload_n 1235 dL_law_1234 rfl rfl ?_
  refine vv_iconst 1236 (v := 2) dL_law_1235 rfl (by decide) ?_
  refine vv_iadd 1237 dL_law_1236 rfl ?_
  obtain ⟨h2, hf⟩ := gd_s hf
  refine vv_scr 1238 dL_law_1237 rfl h2 ?_
  obtain ⟨q3, g_q3, hf⟩ := bind_s hf
  refine vv_callV 1241 (st := []) (As := [.int (w.2.2.2.2.2.2 (x3 + (1 : Int32)).toNatClampNeg), .int (w.2.2.2.2.2.2 (x3 + (2 : Int32)).toNatClampNeg)]) (stk2 := [.int q3.1]) (cl2 := cl) (sl2 := sl) dL_law_1238 rfl lk_RL_112 w_979 w_980 rfl t_a1 ⟨(Nat.le_of_ble_eq_true rfl), (Nat.le_of_ble_eq_true rfl)⟩ rfl rfl ⟨Nat.le_trans (Nat.add_le_add_left (by decide) _) hcl, Nat.le_trans (Nat.add_le_add_left (by decide) _) hsl⟩ rfl (Nat.le_of_ble_eq_true rfl) rfl rfl rfl rfl (c_X8_differ t_a1 g_q3) ?_
  refine vv_aload_n 1242 dL_law_1241 rfl rfl ?_
  refine vv_aload_n 1243 dL_law_1242 rfl rfl ?_
  refine vv_iload_n 1244 dL_law_1243 rfl rfl ?_
  refine vv_iconst 1245 (v := 1) dL_law_1244 rfl (by decide) ?_
  refine vv_iadd 1246 dL_law_1245 rfl ?_
  obtain ⟨h4, hf⟩ := gd_s hf
  refine vv_scr 1247 dL_law_1246 rfl h4 ?_
  refine vv_aload_n 1248 dL_law_1247 rfl rfl ?_
  refine vv_iload_n 1249 dL_law_1248 rfl rfl ?_
  refine vv_iconst 1250 (v := 2) dL_law_1249 rfl (by decide) ?_
  refine vv_iadd 1251 dL_law_1250 rfl ?_
  obtain ⟨h5, hf⟩ := gd_s hf
  refine vv_scr 1252 dL_law_1251 rfl h5 ?_
  obtain ⟨q6, g_q6, hf⟩ := bind_s hf
  refine vv_callV 1255 (st := [.int q3.1]) (As := [.int (w.2.2.2.2.2.2 (x3 + (1 : Int32)).toNatClampNeg), .int (w.2.2.2.2.2.2 (x3 + (2 : Int32)).toNatClampNeg)]) (stk2 := [.int q6.1, .int q3.1]) (cl2 := cl) (sl2 := sl) dL_law_1252 rfl lk_RL_115 w_1574 w_1575 rfl t_a2 ⟨(Nat.le_of_ble_eq_true rfl), (Nat.le_of_ble_eq_true rfl)⟩ rfl rfl ⟨Nat.le_trans (Nat.add_le_add_left (by decide) _) hcl, Nat.le_trans (Nat.add_le_add_left (by decide) _) hsl⟩ rfl (Nat.le_of_ble_eq_true rfl) rfl rfl rfl rfl (c_X9_differ t_a2 g_q6) ?_
  refine vv_icmp_eq 2058 1258 dL_law_1255 rfl (by decide) (fun c7 => ?_) (fun c7 => ?_)
  · rw [if_pos c7] at hf
    obtain ⟨z8, e_z8, hf⟩ := bd_s hf
    refine vv_iincE (q := 2061) (v := z8) (c := 6) (L' := [some (.ref w.2.2.2.2.1), some (.ref a1), some (.ref a2), some (.int z8)]) e_z8 dL_law_2058 rfl rfl (by decide) (Nat.le_of_ble_eq_true rfl) rfl ?_
    refine vv_goto 18 dL_law_2061 (by decide) ?_
    exact hk18 _ _ _ _ _ _ t_a1 t_a2 (Nat.le_succ _) (Nat.le_add_right _ _) hf
  · rw [if_neg c7] at hf
    refine vv_iconst 1259 (v := 0) dL_law_1258 rfl (by decide) ?_
    exact absurd (Option.some.inj hf) (by decide)

set_option maxHeartbeats 4000000 in
theorem v_L_law_1260 {w : Wo} {K : Kn} {cl sl : Nat} (hcl : cl + 1 ≤ 600000) (hsl : sl + 5 ≤ 7302250) (k18 : Mem → Nat → Nat → Int32 → Option Int32) (hk18 : ∀ (m : Mem) (a1 : Nat) (a2 : Nat) (x3 : Int32) (cl2 sl2 : Nat), K a1 = some (.inl 7) → K a2 = some (.inl 8) → cl2 ≤ cl + 1 → sl2 ≤ sl + 5 → k18 m a1 a2 x3 = some 1 → VV w RL cL_law 4 (some .boolean) room_1 false (QL w) K 18 [some (.ref w.2.2.2.2.1), some (.ref a1), some (.ref a2), some (.int x3)] [] cl2 sl2 m) {m : Mem} {a1 : Nat} {a2 : Nat} {x3 : Int32} (t_a1 : K a1 = some (.inl 7)) (t_a2 : K a2 = some (.inl 8)) (hf : f_L_law_1260 K w.2.2.2.2.2.1 w.2.2.2.2.2.2 k18 m a1 a2 x3 = some 1) : VV w RL cL_law 4 (some .boolean) room_1 false (QL w) K 1260 [some (.ref w.2.2.2.2.1), some (.ref a1), some (.ref a2), some (.int x3)] [] cl sl m := by
  unfold f_L_law_1260 at hf
  refine vv_aload_n 1261 dL_law_1260 rfl rfl ?_
  refine vv_aload_n 1262 dL_law_1261 rfl rfl ?_
  refine vv_iload_n 1263 dL_law_1262 rfl rfl ?_
  refine vv_iconst 1264 (v := 1) dL_law_1263 rfl (by decide) ?_
  refine vv_iadd 1265 dL_law_1264 rfl ?_
  obtain ⟨h1, hf⟩ := gd_s hf
  refine vv_scr 1266 dL_law_1265 rfl h1 ?_
  obtain ⟨q2, g_q2, hf⟩ := bind_s hf
  refine vv_callV 1269 (st := []) (As := [.int (w.2.2.2.2.2.2 (x3 + (1 : Int32)).toNatClampNeg)]) (stk2 := [.int q2.1]) (cl2 := cl) (sl2 := sl) dL_law_1266 rfl lk_RL_116 w_1066 w_1067 rfl t_a1 ⟨(Nat.le_of_ble_eq_true rfl), (Nat.le_of_ble_eq_true rfl)⟩ rfl rfl ⟨Nat.le_trans (Nat.add_le_add_left (by decide) _) hcl, Nat.le_trans (Nat.add_le_add_left (by decide) _) hsl⟩ rfl (Nat.le_of_ble_eq_true rfl) rfl rfl rfl rfl (c_X8_best t_a1 g_q2) ?_
  refine vv_aload_n 1270 dL_law_1269 rfl rfl ?_
  refine vv_aload_n 1271 dL_law_1270 rfl rfl ?_
  refine vv_iload_n 1272 dL_law_1271 rfl rfl ?_
  refine vv_iconst 1273 (v := 1) dL_law_1272 rfl (by decide) ?_
  refine vv_iadd 1274 dL_law_1273 rfl ?_
  obtain ⟨h3, hf⟩ := gd_s hf
  refine vv_scr 1275 dL_law_1274 rfl h3 ?_
  obtain ⟨q4, g_q4, hf⟩ := bind_s hf
  refine vv_callV 1278 (st := [.int q2.1]) (As := [.int (w.2.2.2.2.2.2 (x3 + (1 : Int32)).toNatClampNeg)]) (stk2 := [.int q4.1, .int q2.1]) (cl2 := cl) (sl2 := sl) dL_law_1275 rfl lk_RL_119 w_1587 w_1588 rfl t_a2 ⟨(Nat.le_of_ble_eq_true rfl), (Nat.le_of_ble_eq_true rfl)⟩ rfl rfl ⟨Nat.le_trans (Nat.add_le_add_left (by decide) _) hcl, Nat.le_trans (Nat.add_le_add_left (by decide) _) hsl⟩ rfl (Nat.le_of_ble_eq_true rfl) rfl rfl rfl rfl (c_X9_best t_a2 g_q4) ?_
  refine vv_icmp_eq 2058 1281 dL_law_1278 rfl (by decide) (fun c5 => ?_) (fun c5 => ?_)
  · rw [if_pos c5] at hf
    obtain ⟨z6, e_z6, hf⟩ := bd_s hf
    refine vv_iincE (q := 2061) (v := z6) (c := 6) (L' := [some (.ref w.2.2.2.2.1), some (.ref a1), some (.ref a2), some (.int z6)]) e_z6 dL_law_2058 rfl rfl (by decide) (Nat.le_of_ble_eq_true rfl) rfl ?_
    refine vv_goto 18 dL_law_2061 (by decide) ?_
    exact hk18 _ _ _ _ _ _ t_a1 t_a2 (Nat.le_succ _) (Nat.le_add_right _ _) hf
  · rw [if_neg c5] at hf
    refine vv_iconst 1282 (v := 0) dL_law_1281 rfl (by decide) ?_
    exact absurd (Option.some.inj hf) (by decide)

set_option maxHeartbeats 4000000 in
theorem v_L_law_1283 {w : Wo} {K : Kn} {cl sl : Nat} (hcl : cl + 1 ≤ 600000) (hsl : sl + 5 ≤ 7302250) (k18 : Mem → Nat → Nat → Int32 → Option Int32) (hk18 : ∀ (m : Mem) (a1 : Nat) (a2 : Nat) (x3 : Int32) (cl2 sl2 : Nat), K a1 = some (.inl 7) → K a2 = some (.inl 8) → cl2 ≤ cl + 1 → sl2 ≤ sl + 5 → k18 m a1 a2 x3 = some 1 → VV w RL cL_law 4 (some .boolean) room_1 false (QL w) K 18 [some (.ref w.2.2.2.2.1), some (.ref a1), some (.ref a2), some (.int x3)] [] cl2 sl2 m) {m : Mem} {a1 : Nat} {a2 : Nat} {x3 : Int32} (t_a1 : K a1 = some (.inl 7)) (t_a2 : K a2 = some (.inl 8)) (hf : f_L_law_1283 K w.2.2.2.2.2.1 w.2.2.2.2.2.2 k18 m a1 a2 x3 = some 1) : VV w RL cL_law 4 (some .boolean) room_1 false (QL w) K 1283 [some (.ref w.2.2.2.2.1), some (.ref a1), some (.ref a2), some (.int x3)] [] cl sl m := by
  unfold f_L_law_1283 at hf
  refine vv_aload_n 1284 dL_law_1283 rfl rfl ?_
  refine vv_aload_n 1285 dL_law_1284 rfl rfl ?_
  refine vv_iload_n 1286 dL_law_1285 rfl rfl ?_
  refine vv_iconst 1287 (v := 1) dL_law_1286 rfl (by decide) ?_
  refine vv_iadd 1288 dL_law_1287 rfl ?_
  obtain ⟨h1, hf⟩ := gd_s hf
  refine vv_scr 1289 dL_law_1288 rfl h1 ?_
  refine vv_aload_n 1290 dL_law_1289 rfl rfl ?_
  refine vv_iload_n 1291 dL_law_1290 rfl rfl ?_
  refine vv_iconst 1292 (v := 2) dL_law_1291 rfl (by decide) ?_
  refine vv_iadd 1293 dL_law_1292 rfl ?_
  obtain ⟨h2, hf⟩ := gd_s hf
  refine vv_scr 1294 dL_law_1293 rfl h2 ?_
  obtain ⟨q3, g_q3, hf⟩ := bind_s hf
  refine vv_callV 1297 (st := []) (As := [.int (w.2.2.2.2.2.2 (x3 + (1 : Int32)).toNatClampNeg), .int (w.2.2.2.2.2.2 (x3 + (2 : Int32)).toNatClampNeg)]) (stk2 := [.int q3.1]) (cl2 := cl) (sl2 := sl) dL_law_1294 rfl lk_RL_120 w_1016 w_1017 rfl t_a1 ⟨(Nat.le_of_ble_eq_true rfl), (Nat.le_of_ble_eq_true rfl)⟩ rfl rfl ⟨Nat.le_trans (Nat.add_le_add_left (by decide) _) hcl, Nat.le_trans (Nat.add_le_add_left (by decide) _) hsl⟩ rfl (Nat.le_of_ble_eq_true rfl) rfl rfl rfl rfl (c_X8_repack t_a1 g_q3) ?_
  refine vv_aload_n 1298 dL_law_1297 rfl rfl ?_
  refine vv_aload_n 1299 dL_law_1298 rfl rfl ?_
  refine vv_iload_n 1300 dL_law_1299 rfl rfl ?_
  refine vv_iconst 1301 (v := 1) dL_law_1300 rfl (by decide) ?_
  refine vv_iadd 1302 dL_law_1301 rfl ?_
  obtain ⟨h4, hf⟩ := gd_s hf
  refine vv_scr 1303 dL_law_1302 rfl h4 ?_
  refine vv_aload_n 1304 dL_law_1303 rfl rfl ?_
  refine vv_iload_n 1305 dL_law_1304 rfl rfl ?_
  refine vv_iconst 1306 (v := 2) dL_law_1305 rfl (by decide) ?_
  refine vv_iadd 1307 dL_law_1306 rfl ?_
  obtain ⟨h5, hf⟩ := gd_s hf
  refine vv_scr 1308 dL_law_1307 rfl h5 ?_
  obtain ⟨q6, g_q6, hf⟩ := bind_s hf
  refine vv_callV 1311 (st := [.int q3.1]) (As := [.int (w.2.2.2.2.2.2 (x3 + (1 : Int32)).toNatClampNeg), .int (w.2.2.2.2.2.2 (x3 + (2 : Int32)).toNatClampNeg)]) (stk2 := [.int q6.1, .int q3.1]) (cl2 := cl) (sl2 := sl) dL_law_1308 rfl lk_RL_123 w_1356 w_1357 rfl t_a2 ⟨(Nat.le_of_ble_eq_true rfl), (Nat.le_of_ble_eq_true rfl)⟩ rfl rfl ⟨Nat.le_trans (Nat.add_le_add_left (by decide) _) hcl, Nat.le_trans (Nat.add_le_add_left (by decide) _) hsl⟩ rfl (Nat.le_of_ble_eq_true rfl) rfl rfl rfl rfl (c_X9_repack t_a2 g_q6) ?_
  refine vv_icmp_eq 2058 1314 dL_law_1311 rfl (by decide) (fun c7 => ?_) (fun c7 => ?_)
  · rw [if_pos c7] at hf
    obtain ⟨z8, e_z8, hf⟩ := bd_s hf
    refine vv_iincE (q := 2061) (v := z8) (c := 6) (L' := [some (.ref w.2.2.2.2.1), some (.ref a1), some (.ref a2), some (.int z8)]) e_z8 dL_law_2058 rfl rfl (by decide) (Nat.le_of_ble_eq_true rfl) rfl ?_
    refine vv_goto 18 dL_law_2061 (by decide) ?_
    exact hk18 _ _ _ _ _ _ t_a1 t_a2 (Nat.le_succ _) (Nat.le_add_right _ _) hf
  · rw [if_neg c7] at hf
    refine vv_iconst 1315 (v := 0) dL_law_1314 rfl (by decide) ?_
    exact absurd (Option.some.inj hf) (by decide)

set_option maxHeartbeats 4000000 in
theorem v_L_law_1316 {w : Wo} {K : Kn} {cl sl : Nat} (hcl : cl + 1 ≤ 600000) (hsl : sl + 5 ≤ 7302250) (k18 : Mem → Nat → Nat → Int32 → Option Int32) (hk18 : ∀ (m : Mem) (a1 : Nat) (a2 : Nat) (x3 : Int32) (cl2 sl2 : Nat), K a1 = some (.inl 7) → K a2 = some (.inl 8) → cl2 ≤ cl + 1 → sl2 ≤ sl + 5 → k18 m a1 a2 x3 = some 1 → VV w RL cL_law 4 (some .boolean) room_1 false (QL w) K 18 [some (.ref w.2.2.2.2.1), some (.ref a1), some (.ref a2), some (.int x3)] [] cl2 sl2 m) {m : Mem} {a1 : Nat} {a2 : Nat} {x3 : Int32} (t_a1 : K a1 = some (.inl 7)) (t_a2 : K a2 = some (.inl 8)) (hf : f_L_law_1316 K w.2.2.2.2.2.1 w.2.2.2.2.2.2 k18 m a1 a2 x3 = some 1) : VV w RL cL_law 4 (some .boolean) room_1 false (QL w) K 1316 [some (.ref w.2.2.2.2.1), some (.ref a1), some (.ref a2), some (.int x3)] [] cl sl m := by
  unfold f_L_law_1316 at hf
  refine vv_aload_n 1317 dL_law_1316 rfl rfl ?_
  refine vv_aload_n 1318 dL_law_1317 rfl rfl ?_
  refine vv_iload_n 1319 dL_law_1318 rfl rfl ?_
  refine vv_iconst 1320 (v := 1) dL_law_1319 rfl (by decide) ?_
  refine vv_iadd 1321 dL_law_1320 rfl ?_
  obtain ⟨h1, hf⟩ := gd_s hf
  refine vv_scr 1322 dL_law_1321 rfl h1 ?_
  refine vv_aload_n 1323 dL_law_1322 rfl rfl ?_
  refine vv_iload_n 1324 dL_law_1323 rfl rfl ?_
  refine vv_iconst 1325 (v := 2) dL_law_1324 rfl (by decide) ?_
  refine vv_iadd 1326 dL_law_1325 rfl ?_
  obtain ⟨h2, hf⟩ := gd_s hf
  refine vv_scr 1327 dL_law_1326 rfl h2 ?_
  obtain ⟨q3, g_q3, hf⟩ := bind_s hf
  refine vv_callV 1330 (st := []) (As := [.int (w.2.2.2.2.2.2 (x3 + (1 : Int32)).toNatClampNeg), .int (w.2.2.2.2.2.2 (x3 + (2 : Int32)).toNatClampNeg)]) (stk2 := [.int q3.1]) (cl2 := cl) (sl2 := sl) dL_law_1327 rfl lk_RL_124 w_1020 w_1021 rfl t_a1 ⟨(Nat.le_of_ble_eq_true rfl), (Nat.le_of_ble_eq_true rfl)⟩ rfl rfl ⟨Nat.le_trans (Nat.add_le_add_left (by decide) _) hcl, Nat.le_trans (Nat.add_le_add_left (by decide) _) hsl⟩ rfl (Nat.le_of_ble_eq_true rfl) rfl rfl rfl rfl (c_X8_thin t_a1 g_q3) ?_
  refine vv_aload_n 1331 dL_law_1330 rfl rfl ?_
  refine vv_aload_n 1332 dL_law_1331 rfl rfl ?_
  refine vv_iload_n 1333 dL_law_1332 rfl rfl ?_
  refine vv_iconst 1334 (v := 1) dL_law_1333 rfl (by decide) ?_
  refine vv_iadd 1335 dL_law_1334 rfl ?_
  obtain ⟨h4, hf⟩ := gd_s hf
  refine vv_scr 1336 dL_law_1335 rfl h4 ?_
  refine vv_aload_n 1337 dL_law_1336 rfl rfl ?_
  refine vv_iload_n 1338 dL_law_1337 rfl rfl ?_
  refine vv_iconst 1339 (v := 2) dL_law_1338 rfl (by decide) ?_
  refine vv_iadd 1340 dL_law_1339 rfl ?_
  obtain ⟨h5, hf⟩ := gd_s hf
  refine vv_scr 1341 dL_law_1340 rfl h5 ?_
  obtain ⟨q6, g_q6, hf⟩ := bind_s hf
  refine vv_callV 1344 (st := [.int q3.1]) (As := [.int (w.2.2.2.2.2.2 (x3 + (1 : Int32)).toNatClampNeg), .int (w.2.2.2.2.2.2 (x3 + (2 : Int32)).toNatClampNeg)]) (stk2 := [.int q6.1, .int q3.1]) (cl2 := cl) (sl2 := sl) dL_law_1341 rfl lk_RL_127 w_1591 w_1592 rfl t_a2 ⟨(Nat.le_of_ble_eq_true rfl), (Nat.le_of_ble_eq_true rfl)⟩ rfl rfl ⟨Nat.le_trans (Nat.add_le_add_left (by decide) _) hcl, Nat.le_trans (Nat.add_le_add_left (by decide) _) hsl⟩ rfl (Nat.le_of_ble_eq_true rfl) rfl rfl rfl rfl (c_X9_thin t_a2 g_q6) ?_
  refine vv_icmp_eq 2058 1347 dL_law_1344 rfl (by decide) (fun c7 => ?_) (fun c7 => ?_)
  · rw [if_pos c7] at hf
    obtain ⟨z8, e_z8, hf⟩ := bd_s hf
    refine vv_iincE (q := 2061) (v := z8) (c := 6) (L' := [some (.ref w.2.2.2.2.1), some (.ref a1), some (.ref a2), some (.int z8)]) e_z8 dL_law_2058 rfl rfl (by decide) (Nat.le_of_ble_eq_true rfl) rfl ?_
    refine vv_goto 18 dL_law_2061 (by decide) ?_
    exact hk18 _ _ _ _ _ _ t_a1 t_a2 (Nat.le_succ _) (Nat.le_add_right _ _) hf
  · rw [if_neg c7] at hf
    refine vv_iconst 1348 (v := 0) dL_law_1347 rfl (by decide) ?_
    exact absurd (Option.some.inj hf) (by decide)

set_option maxHeartbeats 4000000 in
theorem v_L_law_1349 {w : Wo} {K : Kn} {cl sl : Nat} (hcl : cl + 1 ≤ 600000) (hsl : sl + 5 ≤ 7302250) (k18 : Mem → Nat → Nat → Int32 → Option Int32) (hk18 : ∀ (m : Mem) (a1 : Nat) (a2 : Nat) (x3 : Int32) (cl2 sl2 : Nat), K a1 = some (.inl 7) → K a2 = some (.inl 8) → cl2 ≤ cl + 1 → sl2 ≤ sl + 5 → k18 m a1 a2 x3 = some 1 → VV w RL cL_law 4 (some .boolean) room_1 false (QL w) K 18 [some (.ref w.2.2.2.2.1), some (.ref a1), some (.ref a2), some (.int x3)] [] cl2 sl2 m) {m : Mem} {a1 : Nat} {a2 : Nat} {x3 : Int32} (t_a1 : K a1 = some (.inl 7)) (t_a2 : K a2 = some (.inl 8)) (hf : f_L_law_1349 K w.2.2.2.2.2.1 w.2.2.2.2.2.2 k18 m a1 a2 x3 = some 1) : VV w RL cL_law 4 (some .boolean) room_1 false (QL w) K 1349 [some (.ref w.2.2.2.2.1), some (.ref a1), some (.ref a2), some (.int x3)] [] cl sl m := by
  unfold f_L_law_1349 at hf
  refine vv_aload_n 1350 dL_law_1349 rfl rfl ?_
  refine vv_aload_n 1351 dL_law_1350 rfl rfl ?_
  refine vv_iload_n 1352 dL_law_1351 rfl rfl ?_
  refine vv_iconst 1353 (v := 1) dL_law_1352 rfl (by decide) ?_
  refine vv_iadd 1354 dL_law_1353 rfl ?_
  obtain ⟨h1, hf⟩ := gd_s hf
  refine vv_scr 1355 dL_law_1354 rfl h1 ?_
  refine vv_aload_n 1356 dL_law_1355 rfl rfl ?_
  refine vv_iload_n 1357 dL_law_1356 rfl rfl ?_
  refine vv_iconst 1358 (v := 2) dL_law_1357 rfl (by decide) ?_
  refine vv_iadd 1359 dL_law_1358 rfl ?_
  obtain ⟨h2, hf⟩ := gd_s hf
  refine vv_scr 1360 dL_law_1359 rfl h2 ?_
  refine vv_aload_n 1361 dL_law_1360 rfl rfl ?_
  refine vv_iload_n 1362 dL_law_1361 rfl rfl ?_
  refine vv_iconst 1363 (v := 3) dL_law_1362 rfl (by decide) ?_
  refine vv_iadd 1364 dL_law_1363 rfl ?_
  obtain ⟨h3, hf⟩ := gd_s hf
  refine vv_scr 1365 dL_law_1364 rfl h3 ?_
  obtain ⟨q4, g_q4, hf⟩ := bind_s hf
  refine vv_callV 1368 (st := []) (As := [.int (w.2.2.2.2.2.2 (x3 + (1 : Int32)).toNatClampNeg), .int (w.2.2.2.2.2.2 (x3 + (2 : Int32)).toNatClampNeg), .int (w.2.2.2.2.2.2 (x3 + (3 : Int32)).toNatClampNeg)]) (stk2 := [.int q4.1]) (cl2 := cl) (sl2 := sl) dL_law_1365 rfl lk_RL_128 w_1033 w_1034 rfl t_a1 ⟨(Nat.le_of_ble_eq_true rfl), (Nat.le_of_ble_eq_true rfl)⟩ rfl rfl ⟨Nat.le_trans (Nat.add_le_add_left (by decide) _) hcl, Nat.le_trans (Nat.add_le_add_left (by decide) _) hsl⟩ rfl (Nat.le_of_ble_eq_true rfl) rfl rfl rfl rfl (c_X8_cuts t_a1 g_q4) ?_
  refine vv_aload_n 1369 dL_law_1368 rfl rfl ?_
  refine vv_aload_n 1370 dL_law_1369 rfl rfl ?_
  refine vv_iload_n 1371 dL_law_1370 rfl rfl ?_
  refine vv_iconst 1372 (v := 1) dL_law_1371 rfl (by decide) ?_
  refine vv_iadd 1373 dL_law_1372 rfl ?_
  obtain ⟨h5, hf⟩ := gd_s hf
  refine vv_scr 1374 dL_law_1373 rfl h5 ?_
  refine vv_aload_n 1375 dL_law_1374 rfl rfl ?_
  refine vv_iload_n 1376 dL_law_1375 rfl rfl ?_
  refine vv_iconst 1377 (v := 2) dL_law_1376 rfl (by decide) ?_
  refine vv_iadd 1378 dL_law_1377 rfl ?_
  obtain ⟨h6, hf⟩ := gd_s hf
  refine vv_scr 1379 dL_law_1378 rfl h6 ?_
  refine vv_aload_n 1380 dL_law_1379 rfl rfl ?_
  refine vv_iload_n 1381 dL_law_1380 rfl rfl ?_
  refine vv_iconst 1382 (v := 3) dL_law_1381 rfl (by decide) ?_
  refine vv_iadd 1383 dL_law_1382 rfl ?_
  obtain ⟨h7, hf⟩ := gd_s hf
  refine vv_scr 1384 dL_law_1383 rfl h7 ?_
  obtain ⟨q8, g_q8, hf⟩ := bind_s hf
  refine vv_callV 1387 (st := [.int q4.1]) (As := [.int (w.2.2.2.2.2.2 (x3 + (1 : Int32)).toNatClampNeg), .int (w.2.2.2.2.2.2 (x3 + (2 : Int32)).toNatClampNeg), .int (w.2.2.2.2.2.2 (x3 + (3 : Int32)).toNatClampNeg)]) (stk2 := [.int q8.1, .int q4.1]) (cl2 := cl) (sl2 := sl) dL_law_1384 rfl lk_RL_131 w_1596 w_1597 rfl t_a2 ⟨(Nat.le_of_ble_eq_true rfl), (Nat.le_of_ble_eq_true rfl)⟩ rfl rfl ⟨Nat.le_trans (Nat.add_le_add_left (by decide) _) hcl, Nat.le_trans (Nat.add_le_add_left (by decide) _) hsl⟩ rfl (Nat.le_of_ble_eq_true rfl) rfl rfl rfl rfl (c_X9_cuts t_a2 g_q8) ?_
  refine vv_icmp_eq 2058 1390 dL_law_1387 rfl (by decide) (fun c9 => ?_) (fun c9 => ?_)
  · rw [if_pos c9] at hf
    obtain ⟨z10, e_z10, hf⟩ := bd_s hf
    refine vv_iincE (q := 2061) (v := z10) (c := 6) (L' := [some (.ref w.2.2.2.2.1), some (.ref a1), some (.ref a2), some (.int z10)]) e_z10 dL_law_2058 rfl rfl (by decide) (Nat.le_of_ble_eq_true rfl) rfl ?_
    refine vv_goto 18 dL_law_2061 (by decide) ?_
    exact hk18 _ _ _ _ _ _ t_a1 t_a2 (Nat.le_succ _) (Nat.le_add_right _ _) hf
  · rw [if_neg c9] at hf
    refine vv_iconst 1391 (v := 0) dL_law_1390 rfl (by decide) ?_
    exact absurd (Option.some.inj hf) (by decide)

set_option maxHeartbeats 4000000 in
theorem v_L_law_1392 {w : Wo} {K : Kn} {cl sl : Nat} (hcl : cl + 1 ≤ 600000) (hsl : sl + 5 ≤ 7302250) (k18 : Mem → Nat → Nat → Int32 → Option Int32) (hk18 : ∀ (m : Mem) (a1 : Nat) (a2 : Nat) (x3 : Int32) (cl2 sl2 : Nat), K a1 = some (.inl 7) → K a2 = some (.inl 8) → cl2 ≤ cl + 1 → sl2 ≤ sl + 5 → k18 m a1 a2 x3 = some 1 → VV w RL cL_law 4 (some .boolean) room_1 false (QL w) K 18 [some (.ref w.2.2.2.2.1), some (.ref a1), some (.ref a2), some (.int x3)] [] cl2 sl2 m) {m : Mem} {a1 : Nat} {a2 : Nat} {x3 : Int32} (t_a1 : K a1 = some (.inl 7)) (t_a2 : K a2 = some (.inl 8)) (hf : f_L_law_1392 K w.2.2.2.2.2.1 w.2.2.2.2.2.2 k18 m a1 a2 x3 = some 1) : VV w RL cL_law 4 (some .boolean) room_1 false (QL w) K 1392 [some (.ref w.2.2.2.2.1), some (.ref a1), some (.ref a2), some (.int x3)] [] cl sl m := by
  unfold f_L_law_1392 at hf
  refine vv_aload_n 1393 dL_law_1392 rfl rfl ?_
  refine vv_aload_n 1394 dL_law_1393 rfl rfl ?_
  refine vv_iload_n 1395 dL_law_1394 rfl rfl ?_
  refine vv_iconst 1396 (v := 1) dL_law_1395 rfl (by decide) ?_
  refine vv_iadd 1397 dL_law_1396 rfl ?_
  obtain ⟨h1, hf⟩ := gd_s hf
  refine vv_scr 1398 dL_law_1397 rfl h1 ?_
  refine vv_aload_n 1399 dL_law_1398 rfl rfl ?_
  refine vv_iload_n 1400 dL_law_1399 rfl rfl ?_
  refine vv_iconst 1401 (v := 2) dL_law_1400 rfl (by decide) ?_
  refine vv_iadd 1402 dL_law_1401 rfl ?_
  obtain ⟨h2, hf⟩ := gd_s hf
  refine vv_scr 1403 dL_law_1402 rfl h2 ?_
  refine vv_aload_n 1404 dL_law_1403 rfl rfl ?_
  refine vv_iload_n 1405 dL_law_1404 rfl rfl ?_
  refine vv_iconst 1406 (v := 3) dL_law_1405 rfl (by decide) ?_
  refine vv_iadd 1407 dL_law_1406 rfl ?_
  obtain ⟨h3, hf⟩ := gd_s hf
  refine vv_scr 1408 dL_law_1407 rfl h3 ?_
  obtain ⟨q4, g_q4, hf⟩ := bind_s hf
  refine vv_callV 1411 (st := []) (As := [.int (w.2.2.2.2.2.2 (x3 + (1 : Int32)).toNatClampNeg), .int (w.2.2.2.2.2.2 (x3 + (2 : Int32)).toNatClampNeg), .int (w.2.2.2.2.2.2 (x3 + (3 : Int32)).toNatClampNeg)]) (stk2 := [.int q4.1]) (cl2 := cl) (sl2 := sl) dL_law_1408 rfl lk_RL_132 w_983 w_984 rfl t_a1 ⟨(Nat.le_of_ble_eq_true rfl), (Nat.le_of_ble_eq_true rfl)⟩ rfl rfl ⟨Nat.le_trans (Nat.add_le_add_left (by decide) _) hcl, Nat.le_trans (Nat.add_le_add_left (by decide) _) hsl⟩ rfl (Nat.le_of_ble_eq_true rfl) rfl rfl rfl rfl (c_X8_join t_a1 g_q4) ?_
  refine vv_aload_n 1412 dL_law_1411 rfl rfl ?_
  refine vv_aload_n 1413 dL_law_1412 rfl rfl ?_
  refine vv_iload_n 1414 dL_law_1413 rfl rfl ?_
  refine vv_iconst 1415 (v := 1) dL_law_1414 rfl (by decide) ?_
  refine vv_iadd 1416 dL_law_1415 rfl ?_
  obtain ⟨h5, hf⟩ := gd_s hf
  refine vv_scr 1417 dL_law_1416 rfl h5 ?_
  refine vv_aload_n 1418 dL_law_1417 rfl rfl ?_
  refine vv_iload_n 1419 dL_law_1418 rfl rfl ?_
  refine vv_iconst 1420 (v := 2) dL_law_1419 rfl (by decide) ?_
  refine vv_iadd 1421 dL_law_1420 rfl ?_
  obtain ⟨h6, hf⟩ := gd_s hf
  refine vv_scr 1422 dL_law_1421 rfl h6 ?_
  refine vv_aload_n 1423 dL_law_1422 rfl rfl ?_
  refine vv_iload_n 1424 dL_law_1423 rfl rfl ?_
  refine vv_iconst 1425 (v := 3) dL_law_1424 rfl (by decide) ?_
  refine vv_iadd 1426 dL_law_1425 rfl ?_
  obtain ⟨h7, hf⟩ := gd_s hf
  refine vv_scr 1427 dL_law_1426 rfl h7 ?_
  obtain ⟨q8, g_q8, hf⟩ := bind_s hf
  refine vv_callV 1430 (st := [.int q4.1]) (As := [.int (w.2.2.2.2.2.2 (x3 + (1 : Int32)).toNatClampNeg), .int (w.2.2.2.2.2.2 (x3 + (2 : Int32)).toNatClampNeg), .int (w.2.2.2.2.2.2 (x3 + (3 : Int32)).toNatClampNeg)]) (stk2 := [.int q8.1, .int q4.1]) (cl2 := cl) (sl2 := sl) dL_law_1427 rfl lk_RL_135 w_1579 w_1580 rfl t_a2 ⟨(Nat.le_of_ble_eq_true rfl), (Nat.le_of_ble_eq_true rfl)⟩ rfl rfl ⟨Nat.le_trans (Nat.add_le_add_left (by decide) _) hcl, Nat.le_trans (Nat.add_le_add_left (by decide) _) hsl⟩ rfl (Nat.le_of_ble_eq_true rfl) rfl rfl rfl rfl (c_X9_join t_a2 g_q8) ?_
  refine vv_icmp_eq 2058 1433 dL_law_1430 rfl (by decide) (fun c9 => ?_) (fun c9 => ?_)
  · rw [if_pos c9] at hf
    obtain ⟨z10, e_z10, hf⟩ := bd_s hf
    refine vv_iincE (q := 2061) (v := z10) (c := 6) (L' := [some (.ref w.2.2.2.2.1), some (.ref a1), some (.ref a2), some (.int z10)]) e_z10 dL_law_2058 rfl rfl (by decide) (Nat.le_of_ble_eq_true rfl) rfl ?_
    refine vv_goto 18 dL_law_2061 (by decide) ?_
    exact hk18 _ _ _ _ _ _ t_a1 t_a2 (Nat.le_succ _) (Nat.le_add_right _ _) hf
  · rw [if_neg c9] at hf
    refine vv_iconst 1434 (v := 0) dL_law_1433 rfl (by decide) ?_
    exact absurd (Option.some.inj hf) (by decide)

set_option maxHeartbeats 4000000 in
theorem v_L_law_1435 {w : Wo} {K : Kn} {cl sl : Nat} (hcl : cl + 1 ≤ 600000) (hsl : sl + 5 ≤ 7302250) (k18 : Mem → Nat → Nat → Int32 → Option Int32) (hk18 : ∀ (m : Mem) (a1 : Nat) (a2 : Nat) (x3 : Int32) (cl2 sl2 : Nat), K a1 = some (.inl 7) → K a2 = some (.inl 8) → cl2 ≤ cl + 1 → sl2 ≤ sl + 5 → k18 m a1 a2 x3 = some 1 → VV w RL cL_law 4 (some .boolean) room_1 false (QL w) K 18 [some (.ref w.2.2.2.2.1), some (.ref a1), some (.ref a2), some (.int x3)] [] cl2 sl2 m) {m : Mem} {a1 : Nat} {a2 : Nat} {x3 : Int32} (t_a1 : K a1 = some (.inl 7)) (t_a2 : K a2 = some (.inl 8)) (hf : f_L_law_1435 K w.2.2.2.2.2.1 w.2.2.2.2.2.2 k18 m a1 a2 x3 = some 1) : VV w RL cL_law 4 (some .boolean) room_1 false (QL w) K 1435 [some (.ref w.2.2.2.2.1), some (.ref a1), some (.ref a2), some (.int x3)] [] cl sl m := by
  unfold f_L_law_1435 at hf
  refine vv_aload_n 1436 dL_law_1435 rfl rfl ?_
  refine vv_aload_n 1437 dL_law_1436 rfl rfl ?_
  refine vv_iload_n 1438 dL_law_1437 rfl rfl ?_
  refine vv_iconst 1439 (v := 1) dL_law_1438 rfl (by decide) ?_
  refine vv_iadd 1440 dL_law_1439 rfl ?_
  obtain ⟨h1, hf⟩ := gd_s hf
  refine vv_scr 1441 dL_law_1440 rfl h1 ?_
  refine vv_aload_n 1442 dL_law_1441 rfl rfl ?_
  refine vv_iload_n 1443 dL_law_1442 rfl rfl ?_
  refine vv_iconst 1444 (v := 2) dL_law_1443 rfl (by decide) ?_
  refine vv_iadd 1445 dL_law_1444 rfl ?_
  obtain ⟨h2, hf⟩ := gd_s hf
  refine vv_scr 1446 dL_law_1445 rfl h2 ?_
  obtain ⟨q3, g_q3, hf⟩ := bind_s hf
  refine vv_callV 1449 (st := []) (As := [.int (w.2.2.2.2.2.2 (x3 + (1 : Int32)).toNatClampNeg), .int (w.2.2.2.2.2.2 (x3 + (2 : Int32)).toNatClampNeg)]) (stk2 := [.int q3.1]) (cl2 := cl) (sl2 := sl) dL_law_1446 rfl lk_RL_136 w_1041 w_1042 rfl t_a1 ⟨(Nat.le_of_ble_eq_true rfl), (Nat.le_of_ble_eq_true rfl)⟩ rfl rfl ⟨Nat.le_trans (Nat.add_le_add_left (by decide) _) hcl, Nat.le_trans (Nat.add_le_add_left (by decide) _) hsl⟩ rfl (Nat.le_of_ble_eq_true rfl) rfl rfl rfl rfl (c_X8_rounds t_a1 g_q3) ?_
  refine vv_aload_n 1450 dL_law_1449 rfl rfl ?_
  refine vv_aload_n 1451 dL_law_1450 rfl rfl ?_
  refine vv_iload_n 1452 dL_law_1451 rfl rfl ?_
  refine vv_iconst 1453 (v := 1) dL_law_1452 rfl (by decide) ?_
  refine vv_iadd 1454 dL_law_1453 rfl ?_
  obtain ⟨h4, hf⟩ := gd_s hf
  refine vv_scr 1455 dL_law_1454 rfl h4 ?_
  refine vv_aload_n 1456 dL_law_1455 rfl rfl ?_
  refine vv_iload_n 1457 dL_law_1456 rfl rfl ?_
  refine vv_iconst 1458 (v := 2) dL_law_1457 rfl (by decide) ?_
  refine vv_iadd 1459 dL_law_1458 rfl ?_
  obtain ⟨h5, hf⟩ := gd_s hf
  refine vv_scr 1460 dL_law_1459 rfl h5 ?_
  obtain ⟨q6, g_q6, hf⟩ := bind_s hf
  refine vv_callV 1463 (st := [.int q3.1]) (As := [.int (w.2.2.2.2.2.2 (x3 + (1 : Int32)).toNatClampNeg), .int (w.2.2.2.2.2.2 (x3 + (2 : Int32)).toNatClampNeg)]) (stk2 := [.int q6.1, .int q3.1]) (cl2 := cl) (sl2 := sl) dL_law_1460 rfl lk_RL_139 w_1600 w_1601 rfl t_a2 ⟨(Nat.le_of_ble_eq_true rfl), (Nat.le_of_ble_eq_true rfl)⟩ rfl rfl ⟨Nat.le_trans (Nat.add_le_add_left (by decide) _) hcl, Nat.le_trans (Nat.add_le_add_left (by decide) _) hsl⟩ rfl (Nat.le_of_ble_eq_true rfl) rfl rfl rfl rfl (c_X9_rounds t_a2 g_q6) ?_
  refine vv_icmp_eq 2058 1466 dL_law_1463 rfl (by decide) (fun c7 => ?_) (fun c7 => ?_)
  · rw [if_pos c7] at hf
    obtain ⟨z8, e_z8, hf⟩ := bd_s hf
    refine vv_iincE (q := 2061) (v := z8) (c := 6) (L' := [some (.ref w.2.2.2.2.1), some (.ref a1), some (.ref a2), some (.int z8)]) e_z8 dL_law_2058 rfl rfl (by decide) (Nat.le_of_ble_eq_true rfl) rfl ?_
    refine vv_goto 18 dL_law_2061 (by decide) ?_
    exact hk18 _ _ _ _ _ _ t_a1 t_a2 (Nat.le_succ _) (Nat.le_add_right _ _) hf
  · rw [if_neg c7] at hf
    refine vv_iconst 1467 (v := 0) dL_law_1466 rfl (by decide) ?_
    exact absurd (Option.some.inj hf) (by decide)

set_option maxHeartbeats 4000000 in
theorem v_L_law_1468 {w : Wo} {K : Kn} {cl sl : Nat} (hcl : cl + 1 ≤ 600000) (hsl : sl + 5 ≤ 7302250) (k18 : Mem → Nat → Nat → Int32 → Option Int32) (hk18 : ∀ (m : Mem) (a1 : Nat) (a2 : Nat) (x3 : Int32) (cl2 sl2 : Nat), K a1 = some (.inl 7) → K a2 = some (.inl 8) → cl2 ≤ cl + 1 → sl2 ≤ sl + 5 → k18 m a1 a2 x3 = some 1 → VV w RL cL_law 4 (some .boolean) room_1 false (QL w) K 18 [some (.ref w.2.2.2.2.1), some (.ref a1), some (.ref a2), some (.int x3)] [] cl2 sl2 m) {m : Mem} {a1 : Nat} {a2 : Nat} {x3 : Int32} (t_a1 : K a1 = some (.inl 7)) (t_a2 : K a2 = some (.inl 8)) (hf : f_L_law_1468 K w.2.2.2.2.2.1 w.2.2.2.2.2.2 k18 m a1 a2 x3 = some 1) : VV w RL cL_law 4 (some .boolean) room_1 false (QL w) K 1468 [some (.ref w.2.2.2.2.1), some (.ref a1), some (.ref a2), some (.int x3)] [] cl sl m := by
  unfold f_L_law_1468 at hf
  refine vv_aload_n 1469 dL_law_1468 rfl rfl ?_
  refine vv_aload_n 1470 dL_law_1469 rfl rfl ?_
  refine vv_iload_n 1471 dL_law_1470 rfl rfl ?_
  refine vv_iconst 1472 (v := 1) dL_law_1471 rfl (by decide) ?_
  refine vv_iadd 1473 dL_law_1472 rfl ?_
  obtain ⟨h1, hf⟩ := gd_s hf
  refine vv_scr 1474 dL_law_1473 rfl h1 ?_
  refine vv_aload_n 1475 dL_law_1474 rfl rfl ?_
  refine vv_iload_n 1476 dL_law_1475 rfl rfl ?_
  refine vv_iconst 1477 (v := 2) dL_law_1476 rfl (by decide) ?_
  refine vv_iadd 1478 dL_law_1477 rfl ?_
  obtain ⟨h2, hf⟩ := gd_s hf
  refine vv_scr 1479 dL_law_1478 rfl h2 ?_
  obtain ⟨q3, g_q3, hf⟩ := bind_s hf
  refine vv_callV 1482 (st := []) (As := [.int (w.2.2.2.2.2.2 (x3 + (1 : Int32)).toNatClampNeg), .int (w.2.2.2.2.2.2 (x3 + (2 : Int32)).toNatClampNeg)]) (stk2 := [.int q3.1]) (cl2 := cl) (sl2 := sl) dL_law_1479 rfl lk_RL_140 w_1053 w_1054 rfl t_a1 ⟨(Nat.le_of_ble_eq_true rfl), (Nat.le_of_ble_eq_true rfl)⟩ rfl rfl ⟨Nat.le_trans (Nat.add_le_add_left (by decide) _) hcl, Nat.le_trans (Nat.add_le_add_left (by decide) _) hsl⟩ rfl (Nat.le_of_ble_eq_true rfl) rfl rfl rfl rfl (c_X8_rounded t_a1 g_q3) ?_
  refine vv_aload_n 1483 dL_law_1482 rfl rfl ?_
  refine vv_aload_n 1484 dL_law_1483 rfl rfl ?_
  refine vv_iload_n 1485 dL_law_1484 rfl rfl ?_
  refine vv_iconst 1486 (v := 1) dL_law_1485 rfl (by decide) ?_
  refine vv_iadd 1487 dL_law_1486 rfl ?_
  obtain ⟨h4, hf⟩ := gd_s hf
  refine vv_scr 1488 dL_law_1487 rfl h4 ?_
  refine vv_aload_n 1489 dL_law_1488 rfl rfl ?_
  refine vv_iload_n 1490 dL_law_1489 rfl rfl ?_
  refine vv_iconst 1491 (v := 2) dL_law_1490 rfl (by decide) ?_
  refine vv_iadd 1492 dL_law_1491 rfl ?_
  obtain ⟨h5, hf⟩ := gd_s hf
  refine vv_scr 1493 dL_law_1492 rfl h5 ?_
  obtain ⟨q6, g_q6, hf⟩ := bind_s hf
  refine vv_callV 1496 (st := [.int q3.1]) (As := [.int (w.2.2.2.2.2.2 (x3 + (1 : Int32)).toNatClampNeg), .int (w.2.2.2.2.2.2 (x3 + (2 : Int32)).toNatClampNeg)]) (stk2 := [.int q6.1, .int q3.1]) (cl2 := cl) (sl2 := sl) dL_law_1493 rfl lk_RL_143 w_1609 w_1610 rfl t_a2 ⟨(Nat.le_of_ble_eq_true rfl), (Nat.le_of_ble_eq_true rfl)⟩ rfl rfl ⟨Nat.le_trans (Nat.add_le_add_left (by decide) _) hcl, Nat.le_trans (Nat.add_le_add_left (by decide) _) hsl⟩ rfl (Nat.le_of_ble_eq_true rfl) rfl rfl rfl rfl (c_X9_rounded t_a2 g_q6) ?_
  refine vv_icmp_eq 2058 1499 dL_law_1496 rfl (by decide) (fun c7 => ?_) (fun c7 => ?_)
  · rw [if_pos c7] at hf
    obtain ⟨z8, e_z8, hf⟩ := bd_s hf
    refine vv_iincE (q := 2061) (v := z8) (c := 6) (L' := [some (.ref w.2.2.2.2.1), some (.ref a1), some (.ref a2), some (.int z8)]) e_z8 dL_law_2058 rfl rfl (by decide) (Nat.le_of_ble_eq_true rfl) rfl ?_
    refine vv_goto 18 dL_law_2061 (by decide) ?_
    exact hk18 _ _ _ _ _ _ t_a1 t_a2 (Nat.le_succ _) (Nat.le_add_right _ _) hf
  · rw [if_neg c7] at hf
    refine vv_iconst 1500 (v := 0) dL_law_1499 rfl (by decide) ?_
    exact absurd (Option.some.inj hf) (by decide)

set_option maxHeartbeats 4000000 in
theorem v_L_law_1501 {w : Wo} {K : Kn} {cl sl : Nat} (hcl : cl + 1 ≤ 600000) (hsl : sl + 5 ≤ 7302250) (k18 : Mem → Nat → Nat → Int32 → Option Int32) (hk18 : ∀ (m : Mem) (a1 : Nat) (a2 : Nat) (x3 : Int32) (cl2 sl2 : Nat), K a1 = some (.inl 7) → K a2 = some (.inl 8) → cl2 ≤ cl + 1 → sl2 ≤ sl + 5 → k18 m a1 a2 x3 = some 1 → VV w RL cL_law 4 (some .boolean) room_1 false (QL w) K 18 [some (.ref w.2.2.2.2.1), some (.ref a1), some (.ref a2), some (.int x3)] [] cl2 sl2 m) {m : Mem} {a1 : Nat} {a2 : Nat} {x3 : Int32} (t_a1 : K a1 = some (.inl 7)) (t_a2 : K a2 = some (.inl 8)) (hf : f_L_law_1501 K w.2.2.2.2.2.1 w.2.2.2.2.2.2 k18 m a1 a2 x3 = some 1) : VV w RL cL_law 4 (some .boolean) room_1 false (QL w) K 1501 [some (.ref w.2.2.2.2.1), some (.ref a1), some (.ref a2), some (.int x3)] [] cl sl m := by
  unfold f_L_law_1501 at hf
  refine vv_aload_n 1502 dL_law_1501 rfl rfl ?_
  refine vv_aload_n 1503 dL_law_1502 rfl rfl ?_
  refine vv_iload_n 1504 dL_law_1503 rfl rfl ?_
  refine vv_iconst 1505 (v := 1) dL_law_1504 rfl (by decide) ?_
  refine vv_iadd 1506 dL_law_1505 rfl ?_
  obtain ⟨h1, hf⟩ := gd_s hf
  refine vv_scr 1507 dL_law_1506 rfl h1 ?_
  refine vv_aload_n 1508 dL_law_1507 rfl rfl ?_
  refine vv_iload_n 1509 dL_law_1508 rfl rfl ?_
  refine vv_iconst 1510 (v := 2) dL_law_1509 rfl (by decide) ?_
  refine vv_iadd 1511 dL_law_1510 rfl ?_
  obtain ⟨h2, hf⟩ := gd_s hf
  refine vv_scr 1512 dL_law_1511 rfl h2 ?_
  obtain ⟨q3, g_q3, hf⟩ := bind_s hf
  refine vv_callV 1515 (st := []) (As := [.int (w.2.2.2.2.2.2 (x3 + (1 : Int32)).toNatClampNeg), .int (w.2.2.2.2.2.2 (x3 + (2 : Int32)).toNatClampNeg)]) (stk2 := [.int q3.1]) (cl2 := cl) (sl2 := sl) dL_law_1512 rfl lk_RL_144 w_765 w_766 rfl t_a1 ⟨(Nat.le_of_ble_eq_true rfl), (Nat.le_of_ble_eq_true rfl)⟩ rfl rfl ⟨Nat.le_trans (Nat.add_le_add_left (by decide) _) hcl, Nat.le_trans (Nat.add_le_add_left (by decide) _) hsl⟩ rfl (Nat.le_of_ble_eq_true rfl) rfl rfl rfl rfl (c_X8_dearest t_a1 g_q3) ?_
  refine vv_aload_n 1516 dL_law_1515 rfl rfl ?_
  refine vv_aload_n 1517 dL_law_1516 rfl rfl ?_
  refine vv_iload_n 1518 dL_law_1517 rfl rfl ?_
  refine vv_iconst 1519 (v := 1) dL_law_1518 rfl (by decide) ?_
  refine vv_iadd 1520 dL_law_1519 rfl ?_
  obtain ⟨h4, hf⟩ := gd_s hf
  refine vv_scr 1521 dL_law_1520 rfl h4 ?_
  refine vv_aload_n 1522 dL_law_1521 rfl rfl ?_
  refine vv_iload_n 1523 dL_law_1522 rfl rfl ?_
  refine vv_iconst 1524 (v := 2) dL_law_1523 rfl (by decide) ?_
  refine vv_iadd 1525 dL_law_1524 rfl ?_
  obtain ⟨h5, hf⟩ := gd_s hf
  refine vv_scr 1526 dL_law_1525 rfl h5 ?_
  obtain ⟨q6, g_q6, hf⟩ := bind_s hf
  refine vv_callV 1529 (st := [.int q3.1]) (As := [.int (w.2.2.2.2.2.2 (x3 + (1 : Int32)).toNatClampNeg), .int (w.2.2.2.2.2.2 (x3 + (2 : Int32)).toNatClampNeg)]) (stk2 := [.int q6.1, .int q3.1]) (cl2 := cl) (sl2 := sl) dL_law_1526 rfl lk_RL_147 w_1451 w_1452 rfl t_a2 ⟨(Nat.le_of_ble_eq_true rfl), (Nat.le_of_ble_eq_true rfl)⟩ rfl rfl ⟨Nat.le_trans (Nat.add_le_add_left (by decide) _) hcl, Nat.le_trans (Nat.add_le_add_left (by decide) _) hsl⟩ rfl (Nat.le_of_ble_eq_true rfl) rfl rfl rfl rfl (c_X9_dearest t_a2 g_q6) ?_
  refine vv_icmp_eq 2058 1532 dL_law_1529 rfl (by decide) (fun c7 => ?_) (fun c7 => ?_)
  · rw [if_pos c7] at hf
    obtain ⟨z8, e_z8, hf⟩ := bd_s hf
    refine vv_iincE (q := 2061) (v := z8) (c := 6) (L' := [some (.ref w.2.2.2.2.1), some (.ref a1), some (.ref a2), some (.int z8)]) e_z8 dL_law_2058 rfl rfl (by decide) (Nat.le_of_ble_eq_true rfl) rfl ?_
    refine vv_goto 18 dL_law_2061 (by decide) ?_
    exact hk18 _ _ _ _ _ _ t_a1 t_a2 (Nat.le_succ _) (Nat.le_add_right _ _) hf
  · rw [if_neg c7] at hf
    refine vv_iconst 1533 (v := 0) dL_law_1532 rfl (by decide) ?_
    exact absurd (Option.some.inj hf) (by decide)

set_option maxHeartbeats 4000000 in
theorem v_L_law_1534 {w : Wo} {K : Kn} {cl sl : Nat} (hcl : cl + 1 ≤ 600000) (hsl : sl + 5 ≤ 7302250) (k18 : Mem → Nat → Nat → Int32 → Option Int32) (hk18 : ∀ (m : Mem) (a1 : Nat) (a2 : Nat) (x3 : Int32) (cl2 sl2 : Nat), K a1 = some (.inl 7) → K a2 = some (.inl 8) → cl2 ≤ cl + 1 → sl2 ≤ sl + 5 → k18 m a1 a2 x3 = some 1 → VV w RL cL_law 4 (some .boolean) room_1 false (QL w) K 18 [some (.ref w.2.2.2.2.1), some (.ref a1), some (.ref a2), some (.int x3)] [] cl2 sl2 m) {m : Mem} {a1 : Nat} {a2 : Nat} {x3 : Int32} (t_a1 : K a1 = some (.inl 7)) (t_a2 : K a2 = some (.inl 8)) (hf : f_L_law_1534 K w.2.2.2.2.2.1 w.2.2.2.2.2.2 k18 m a1 a2 x3 = some 1) : VV w RL cL_law 4 (some .boolean) room_1 false (QL w) K 1534 [some (.ref w.2.2.2.2.1), some (.ref a1), some (.ref a2), some (.int x3)] [] cl sl m := by
  unfold f_L_law_1534 at hf
  refine vv_aload_n 1535 dL_law_1534 rfl rfl ?_
  refine vv_aload_n 1536 dL_law_1535 rfl rfl ?_
  refine vv_iload_n 1537 dL_law_1536 rfl rfl ?_
  refine vv_iconst 1538 (v := 1) dL_law_1537 rfl (by decide) ?_
  refine vv_iadd 1539 dL_law_1538 rfl ?_
  obtain ⟨h1, hf⟩ := gd_s hf
  refine vv_scr 1540 dL_law_1539 rfl h1 ?_
  refine vv_aload_n 1541 dL_law_1540 rfl rfl ?_
  refine vv_iload_n 1542 dL_law_1541 rfl rfl ?_
  refine vv_iconst 1543 (v := 2) dL_law_1542 rfl (by decide) ?_
  refine vv_iadd 1544 dL_law_1543 rfl ?_
  obtain ⟨h2, hf⟩ := gd_s hf
  refine vv_scr 1545 dL_law_1544 rfl h2 ?_
  obtain ⟨q3, g_q3, hf⟩ := bind_s hf
  refine vv_callV 1548 (st := []) (As := [.int (w.2.2.2.2.2.2 (x3 + (1 : Int32)).toNatClampNeg), .int (w.2.2.2.2.2.2 (x3 + (2 : Int32)).toNatClampNeg)]) (stk2 := [.int q3.1]) (cl2 := cl) (sl2 := sl) dL_law_1545 rfl lk_RL_148 w_794 w_795 rfl t_a1 ⟨(Nat.le_of_ble_eq_true rfl), (Nat.le_of_ble_eq_true rfl)⟩ rfl rfl ⟨Nat.le_trans (Nat.add_le_add_left (by decide) _) hcl, Nat.le_trans (Nat.add_le_add_left (by decide) _) hsl⟩ rfl (Nat.le_of_ble_eq_true rfl) rfl rfl rfl rfl (c_X8_where t_a1 g_q3) ?_
  refine vv_aload_n 1549 dL_law_1548 rfl rfl ?_
  refine vv_aload_n 1550 dL_law_1549 rfl rfl ?_
  refine vv_iload_n 1551 dL_law_1550 rfl rfl ?_
  refine vv_iconst 1552 (v := 1) dL_law_1551 rfl (by decide) ?_
  refine vv_iadd 1553 dL_law_1552 rfl ?_
  obtain ⟨h4, hf⟩ := gd_s hf
  refine vv_scr 1554 dL_law_1553 rfl h4 ?_
  refine vv_aload_n 1555 dL_law_1554 rfl rfl ?_
  refine vv_iload_n 1556 dL_law_1555 rfl rfl ?_
  refine vv_iconst 1557 (v := 2) dL_law_1556 rfl (by decide) ?_
  refine vv_iadd 1558 dL_law_1557 rfl ?_
  obtain ⟨h5, hf⟩ := gd_s hf
  refine vv_scr 1559 dL_law_1558 rfl h5 ?_
  obtain ⟨q6, g_q6, hf⟩ := bind_s hf
  refine vv_callV 1562 (st := [.int q3.1]) (As := [.int (w.2.2.2.2.2.2 (x3 + (1 : Int32)).toNatClampNeg), .int (w.2.2.2.2.2.2 (x3 + (2 : Int32)).toNatClampNeg)]) (stk2 := [.int q6.1, .int q3.1]) (cl2 := cl) (sl2 := sl) dL_law_1559 rfl lk_RL_151 w_1471 w_1472 rfl t_a2 ⟨(Nat.le_of_ble_eq_true rfl), (Nat.le_of_ble_eq_true rfl)⟩ rfl rfl ⟨Nat.le_trans (Nat.add_le_add_left (by decide) _) hcl, Nat.le_trans (Nat.add_le_add_left (by decide) _) hsl⟩ rfl (Nat.le_of_ble_eq_true rfl) rfl rfl rfl rfl (c_X9_where t_a2 g_q6) ?_
  refine vv_icmp_eq 2058 1565 dL_law_1562 rfl (by decide) (fun c7 => ?_) (fun c7 => ?_)
  · rw [if_pos c7] at hf
    obtain ⟨z8, e_z8, hf⟩ := bd_s hf
    refine vv_iincE (q := 2061) (v := z8) (c := 6) (L' := [some (.ref w.2.2.2.2.1), some (.ref a1), some (.ref a2), some (.int z8)]) e_z8 dL_law_2058 rfl rfl (by decide) (Nat.le_of_ble_eq_true rfl) rfl ?_
    refine vv_goto 18 dL_law_2061 (by decide) ?_
    exact hk18 _ _ _ _ _ _ t_a1 t_a2 (Nat.le_succ _) (Nat.le_add_right _ _) hf
  · rw [if_neg c7] at hf
    refine vv_iconst 1566 (v := 0) dL_law_1565 rfl (by decide) ?_
    exact absurd (Option.some.inj hf) (by decide)

set_option maxHeartbeats 4000000 in
theorem v_L_law_1567 {w : Wo} {K : Kn} {cl sl : Nat} (hcl : cl + 1 ≤ 600000) (hsl : sl + 5 ≤ 7302250) (k18 : Mem → Nat → Nat → Int32 → Option Int32) (hk18 : ∀ (m : Mem) (a1 : Nat) (a2 : Nat) (x3 : Int32) (cl2 sl2 : Nat), K a1 = some (.inl 7) → K a2 = some (.inl 8) → cl2 ≤ cl + 1 → sl2 ≤ sl + 5 → k18 m a1 a2 x3 = some 1 → VV w RL cL_law 4 (some .boolean) room_1 false (QL w) K 18 [some (.ref w.2.2.2.2.1), some (.ref a1), some (.ref a2), some (.int x3)] [] cl2 sl2 m) {m : Mem} {a1 : Nat} {a2 : Nat} {x3 : Int32} (t_a1 : K a1 = some (.inl 7)) (t_a2 : K a2 = some (.inl 8)) (hf : f_L_law_1567 K w.2.2.2.2.2.1 w.2.2.2.2.2.2 k18 m a1 a2 x3 = some 1) : VV w RL cL_law 4 (some .boolean) room_1 false (QL w) K 1567 [some (.ref w.2.2.2.2.1), some (.ref a1), some (.ref a2), some (.int x3)] [] cl sl m := by
  unfold f_L_law_1567 at hf
  refine vv_aload_n 1568 dL_law_1567 rfl rfl ?_
  refine vv_aload_n 1569 dL_law_1568 rfl rfl ?_
  refine vv_iload_n 1570 dL_law_1569 rfl rfl ?_
  refine vv_iconst 1571 (v := 1) dL_law_1570 rfl (by decide) ?_
  refine vv_iadd 1572 dL_law_1571 rfl ?_
  obtain ⟨h1, hf⟩ := gd_s hf
  refine vv_scr 1573 dL_law_1572 rfl h1 ?_
  refine vv_aload_n 1574 dL_law_1573 rfl rfl ?_
  refine vv_iload_n 1575 dL_law_1574 rfl rfl ?_
  refine vv_iconst 1576 (v := 2) dL_law_1575 rfl (by decide) ?_
  refine vv_iadd 1577 dL_law_1576 rfl ?_
  obtain ⟨h2, hf⟩ := gd_s hf
  refine vv_scr 1578 dL_law_1577 rfl h2 ?_
  obtain ⟨q3, g_q3, hf⟩ := bind_s hf
  refine vv_callV 1581 (st := []) (As := [.int (w.2.2.2.2.2.2 (x3 + (1 : Int32)).toNatClampNeg), .int (w.2.2.2.2.2.2 (x3 + (2 : Int32)).toNatClampNeg)]) (stk2 := [.int q3.1]) (cl2 := cl) (sl2 := sl) dL_law_1578 rfl lk_RL_152 w_991 w_992 rfl t_a1 ⟨(Nat.le_of_ble_eq_true rfl), (Nat.le_of_ble_eq_true rfl)⟩ rfl rfl ⟨Nat.le_trans (Nat.add_le_add_left (by decide) _) hcl, Nat.le_trans (Nat.add_le_add_left (by decide) _) hsl⟩ rfl (Nat.le_of_ble_eq_true rfl) rfl rfl rfl rfl (c_X8_copy t_a1 g_q3) ?_
  refine vv_aload_n 1582 dL_law_1581 rfl rfl ?_
  refine vv_aload_n 1583 dL_law_1582 rfl rfl ?_
  refine vv_iload_n 1584 dL_law_1583 rfl rfl ?_
  refine vv_iconst 1585 (v := 1) dL_law_1584 rfl (by decide) ?_
  refine vv_iadd 1586 dL_law_1585 rfl ?_
  obtain ⟨h4, hf⟩ := gd_s hf
  refine vv_scr 1587 dL_law_1586 rfl h4 ?_
  refine vv_aload_n 1588 dL_law_1587 rfl rfl ?_
  refine vv_iload_n 1589 dL_law_1588 rfl rfl ?_
  refine vv_iconst 1590 (v := 2) dL_law_1589 rfl (by decide) ?_
  refine vv_iadd 1591 dL_law_1590 rfl ?_
  obtain ⟨h5, hf⟩ := gd_s hf
  refine vv_scr 1592 dL_law_1591 rfl h5 ?_
  obtain ⟨q6, g_q6, hf⟩ := bind_s hf
  refine vv_callV 1595 (st := [.int q3.1]) (As := [.int (w.2.2.2.2.2.2 (x3 + (1 : Int32)).toNatClampNeg), .int (w.2.2.2.2.2.2 (x3 + (2 : Int32)).toNatClampNeg)]) (stk2 := [.int q6.1, .int q3.1]) (cl2 := cl) (sl2 := sl) dL_law_1592 rfl lk_RL_155 w_1583 w_1584 rfl t_a2 ⟨(Nat.le_of_ble_eq_true rfl), (Nat.le_of_ble_eq_true rfl)⟩ rfl rfl ⟨Nat.le_trans (Nat.add_le_add_left (by decide) _) hcl, Nat.le_trans (Nat.add_le_add_left (by decide) _) hsl⟩ rfl (Nat.le_of_ble_eq_true rfl) rfl rfl rfl rfl (c_X9_copy t_a2 g_q6) ?_
  refine vv_icmp_eq 2058 1598 dL_law_1595 rfl (by decide) (fun c7 => ?_) (fun c7 => ?_)
  · rw [if_pos c7] at hf
    obtain ⟨z8, e_z8, hf⟩ := bd_s hf
    refine vv_iincE (q := 2061) (v := z8) (c := 6) (L' := [some (.ref w.2.2.2.2.1), some (.ref a1), some (.ref a2), some (.int z8)]) e_z8 dL_law_2058 rfl rfl (by decide) (Nat.le_of_ble_eq_true rfl) rfl ?_
    refine vv_goto 18 dL_law_2061 (by decide) ?_
    exact hk18 _ _ _ _ _ _ t_a1 t_a2 (Nat.le_succ _) (Nat.le_add_right _ _) hf
  · rw [if_neg c7] at hf
    refine vv_iconst 1599 (v := 0) dL_law_1598 rfl (by decide) ?_
    exact absurd (Option.some.inj hf) (by decide)

set_option maxHeartbeats 4000000 in
theorem v_L_law_1600 {w : Wo} {K : Kn} {cl sl : Nat} (hcl : cl + 1 ≤ 600000) (hsl : sl + 5 ≤ 7302250) (k18 : Mem → Nat → Nat → Int32 → Option Int32) (hk18 : ∀ (m : Mem) (a1 : Nat) (a2 : Nat) (x3 : Int32) (cl2 sl2 : Nat), K a1 = some (.inl 7) → K a2 = some (.inl 8) → cl2 ≤ cl + 1 → sl2 ≤ sl + 5 → k18 m a1 a2 x3 = some 1 → VV w RL cL_law 4 (some .boolean) room_1 false (QL w) K 18 [some (.ref w.2.2.2.2.1), some (.ref a1), some (.ref a2), some (.int x3)] [] cl2 sl2 m) {m : Mem} {a1 : Nat} {a2 : Nat} {x3 : Int32} (t_a1 : K a1 = some (.inl 7)) (t_a2 : K a2 = some (.inl 8)) (hf : f_L_law_1600 K w.2.2.2.2.2.1 w.2.2.2.2.2.2 k18 m a1 a2 x3 = some 1) : VV w RL cL_law 4 (some .boolean) room_1 false (QL w) K 1600 [some (.ref w.2.2.2.2.1), some (.ref a1), some (.ref a2), some (.int x3)] [] cl sl m := by
  unfold f_L_law_1600 at hf
  refine vv_aload_n 1601 dL_law_1600 rfl rfl ?_
  refine vv_aload_n 1602 dL_law_1601 rfl rfl ?_
  refine vv_iload_n 1603 dL_law_1602 rfl rfl ?_
  refine vv_iconst 1604 (v := 1) dL_law_1603 rfl (by decide) ?_
  refine vv_iadd 1605 dL_law_1604 rfl ?_
  obtain ⟨h1, hf⟩ := gd_s hf
  refine vv_scr 1606 dL_law_1605 rfl h1 ?_
  refine vv_aload_n 1607 dL_law_1606 rfl rfl ?_
  refine vv_iload_n 1608 dL_law_1607 rfl rfl ?_
  refine vv_iconst 1609 (v := 2) dL_law_1608 rfl (by decide) ?_
  refine vv_iadd 1610 dL_law_1609 rfl ?_
  obtain ⟨h2, hf⟩ := gd_s hf
  refine vv_scr 1611 dL_law_1610 rfl h2 ?_
  obtain ⟨q3, g_q3, hf⟩ := bind_s hf
  refine vv_callV 1614 (st := []) (As := [.int (w.2.2.2.2.2.2 (x3 + (1 : Int32)).toNatClampNeg), .int (w.2.2.2.2.2.2 (x3 + (2 : Int32)).toNatClampNeg)]) (stk2 := [.int q3.1]) (cl2 := cl) (sl2 := sl) dL_law_1611 rfl lk_RL_156 w_732 w_733 rfl t_a1 ⟨(Nat.le_of_ble_eq_true rfl), (Nat.le_of_ble_eq_true rfl)⟩ rfl rfl ⟨Nat.le_trans (Nat.add_le_add_left (by decide) _) hcl, Nat.le_trans (Nat.add_le_add_left (by decide) _) hsl⟩ rfl (Nat.le_of_ble_eq_true rfl) rfl rfl rfl rfl (c_X8_mends t_a1 g_q3) ?_
  refine vv_aload_n 1615 dL_law_1614 rfl rfl ?_
  refine vv_aload_n 1616 dL_law_1615 rfl rfl ?_
  refine vv_iload_n 1617 dL_law_1616 rfl rfl ?_
  refine vv_iconst 1618 (v := 1) dL_law_1617 rfl (by decide) ?_
  refine vv_iadd 1619 dL_law_1618 rfl ?_
  obtain ⟨h4, hf⟩ := gd_s hf
  refine vv_scr 1620 dL_law_1619 rfl h4 ?_
  refine vv_aload_n 1621 dL_law_1620 rfl rfl ?_
  refine vv_iload_n 1622 dL_law_1621 rfl rfl ?_
  refine vv_iconst 1623 (v := 2) dL_law_1622 rfl (by decide) ?_
  refine vv_iadd 1624 dL_law_1623 rfl ?_
  obtain ⟨h5, hf⟩ := gd_s hf
  refine vv_scr 1625 dL_law_1624 rfl h5 ?_
  obtain ⟨q6, g_q6, hf⟩ := bind_s hf
  refine vv_callV 1628 (st := [.int q3.1]) (As := [.int (w.2.2.2.2.2.2 (x3 + (1 : Int32)).toNatClampNeg), .int (w.2.2.2.2.2.2 (x3 + (2 : Int32)).toNatClampNeg)]) (stk2 := [.int q6.1, .int q3.1]) (cl2 := cl) (sl2 := sl) dL_law_1625 rfl lk_RL_159 w_1418 w_1419 rfl t_a2 ⟨(Nat.le_of_ble_eq_true rfl), (Nat.le_of_ble_eq_true rfl)⟩ rfl rfl ⟨Nat.le_trans (Nat.add_le_add_left (by decide) _) hcl, Nat.le_trans (Nat.add_le_add_left (by decide) _) hsl⟩ rfl (Nat.le_of_ble_eq_true rfl) rfl rfl rfl rfl (c_X9_mends t_a2 g_q6) ?_
  refine vv_icmp_eq 2058 1631 dL_law_1628 rfl (by decide) (fun c7 => ?_) (fun c7 => ?_)
  · rw [if_pos c7] at hf
    obtain ⟨z8, e_z8, hf⟩ := bd_s hf
    refine vv_iincE (q := 2061) (v := z8) (c := 6) (L' := [some (.ref w.2.2.2.2.1), some (.ref a1), some (.ref a2), some (.int z8)]) e_z8 dL_law_2058 rfl rfl (by decide) (Nat.le_of_ble_eq_true rfl) rfl ?_
    refine vv_goto 18 dL_law_2061 (by decide) ?_
    exact hk18 _ _ _ _ _ _ t_a1 t_a2 (Nat.le_succ _) (Nat.le_add_right _ _) hf
  · rw [if_neg c7] at hf
    refine vv_iconst 1632 (v := 0) dL_law_1631 rfl (by decide) ?_
    exact absurd (Option.some.inj hf) (by decide)

set_option maxHeartbeats 4000000 in
theorem v_L_law_1633 {w : Wo} {K : Kn} {cl sl : Nat} (hcl : cl + 1 ≤ 600000) (hsl : sl + 5 ≤ 7302250) (k18 : Mem → Nat → Nat → Int32 → Option Int32) (hk18 : ∀ (m : Mem) (a1 : Nat) (a2 : Nat) (x3 : Int32) (cl2 sl2 : Nat), K a1 = some (.inl 7) → K a2 = some (.inl 8) → cl2 ≤ cl + 1 → sl2 ≤ sl + 5 → k18 m a1 a2 x3 = some 1 → VV w RL cL_law 4 (some .boolean) room_1 false (QL w) K 18 [some (.ref w.2.2.2.2.1), some (.ref a1), some (.ref a2), some (.int x3)] [] cl2 sl2 m) {m : Mem} {a1 : Nat} {a2 : Nat} {x3 : Int32} (t_a1 : K a1 = some (.inl 7)) (t_a2 : K a2 = some (.inl 8)) (hf : f_L_law_1633 K w.2.2.2.2.2.1 w.2.2.2.2.2.2 k18 m a1 a2 x3 = some 1) : VV w RL cL_law 4 (some .boolean) room_1 false (QL w) K 1633 [some (.ref w.2.2.2.2.1), some (.ref a1), some (.ref a2), some (.int x3)] [] cl sl m := by
  unfold f_L_law_1633 at hf
  refine vv_aload_n 1634 dL_law_1633 rfl rfl ?_
  refine vv_aload_n 1635 dL_law_1634 rfl rfl ?_
  refine vv_iload_n 1636 dL_law_1635 rfl rfl ?_
  refine vv_iconst 1637 (v := 1) dL_law_1636 rfl (by decide) ?_
  refine vv_iadd 1638 dL_law_1637 rfl ?_
  obtain ⟨h1, hf⟩ := gd_s hf
  refine vv_scr 1639 dL_law_1638 rfl h1 ?_
  refine vv_aload_n 1640 dL_law_1639 rfl rfl ?_
  refine vv_iload_n 1641 dL_law_1640 rfl rfl ?_
  refine vv_iconst 1642 (v := 2) dL_law_1641 rfl (by decide) ?_
  refine vv_iadd 1643 dL_law_1642 rfl ?_
  obtain ⟨h2, hf⟩ := gd_s hf
  refine vv_scr 1644 dL_law_1643 rfl h2 ?_
  refine vv_aload_n 1645 dL_law_1644 rfl rfl ?_
  refine vv_iload_n 1646 dL_law_1645 rfl rfl ?_
  refine vv_iconst 1647 (v := 3) dL_law_1646 rfl (by decide) ?_
  refine vv_iadd 1648 dL_law_1647 rfl ?_
  obtain ⟨h3, hf⟩ := gd_s hf
  refine vv_scr 1649 dL_law_1648 rfl h3 ?_
  refine vv_aload_n 1650 dL_law_1649 rfl rfl ?_
  refine vv_iload_n 1651 dL_law_1650 rfl rfl ?_
  refine vv_iconst 1652 (v := 4) dL_law_1651 rfl (by decide) ?_
  refine vv_iadd 1653 dL_law_1652 rfl ?_
  obtain ⟨h4, hf⟩ := gd_s hf
  refine vv_scr 1654 dL_law_1653 rfl h4 ?_
  obtain ⟨q5, g_q5, hf⟩ := bind_s hf
  refine vv_callV 1657 (st := []) (As := [.int (w.2.2.2.2.2.2 (x3 + (1 : Int32)).toNatClampNeg), .int (w.2.2.2.2.2.2 (x3 + (2 : Int32)).toNatClampNeg), .int (w.2.2.2.2.2.2 (x3 + (3 : Int32)).toNatClampNeg), .int (w.2.2.2.2.2.2 (x3 + (4 : Int32)).toNatClampNeg)]) (stk2 := [.int q5.1]) (cl2 := cl) (sl2 := sl) dL_law_1654 rfl lk_RL_160 w_749 w_750 rfl t_a1 ⟨(Nat.le_of_ble_eq_true rfl), (Nat.le_of_ble_eq_true rfl)⟩ rfl rfl ⟨Nat.le_trans (Nat.add_le_add_left (by decide) _) hcl, Nat.le_trans (Nat.add_le_add_left (by decide) _) hsl⟩ rfl (Nat.le_of_ble_eq_true rfl) rfl rfl rfl rfl (c_X8_mend t_a1 g_q5) ?_
  refine vv_aload_n 1658 dL_law_1657 rfl rfl ?_
  refine vv_aload_n 1659 dL_law_1658 rfl rfl ?_
  refine vv_iload_n 1660 dL_law_1659 rfl rfl ?_
  refine vv_iconst 1661 (v := 1) dL_law_1660 rfl (by decide) ?_
  refine vv_iadd 1662 dL_law_1661 rfl ?_
  obtain ⟨h6, hf⟩ := gd_s hf
  refine vv_scr 1663 dL_law_1662 rfl h6 ?_
  refine vv_aload_n 1664 dL_law_1663 rfl rfl ?_
  refine vv_iload_n 1665 dL_law_1664 rfl rfl ?_
  refine vv_iconst 1666 (v := 2) dL_law_1665 rfl (by decide) ?_
  refine vv_iadd 1667 dL_law_1666 rfl ?_
  obtain ⟨h7, hf⟩ := gd_s hf
  refine vv_scr 1668 dL_law_1667 rfl h7 ?_
  refine vv_aload_n 1669 dL_law_1668 rfl rfl ?_
  refine vv_iload_n 1670 dL_law_1669 rfl rfl ?_
  refine vv_iconst 1671 (v := 3) dL_law_1670 rfl (by decide) ?_
  refine vv_iadd 1672 dL_law_1671 rfl ?_
  obtain ⟨h8, hf⟩ := gd_s hf
  refine vv_scr 1673 dL_law_1672 rfl h8 ?_
  refine vv_aload_n 1674 dL_law_1673 rfl rfl ?_
  refine vv_iload_n 1675 dL_law_1674 rfl rfl ?_
  refine vv_iconst 1676 (v := 4) dL_law_1675 rfl (by decide) ?_
  refine vv_iadd 1677 dL_law_1676 rfl ?_
  obtain ⟨h9, hf⟩ := gd_s hf
  refine vv_scr 1678 dL_law_1677 rfl h9 ?_
  obtain ⟨q10, g_q10, hf⟩ := bind_s hf
  refine vv_callV 1681 (st := [.int q5.1]) (As := [.int (w.2.2.2.2.2.2 (x3 + (1 : Int32)).toNatClampNeg), .int (w.2.2.2.2.2.2 (x3 + (2 : Int32)).toNatClampNeg), .int (w.2.2.2.2.2.2 (x3 + (3 : Int32)).toNatClampNeg), .int (w.2.2.2.2.2.2 (x3 + (4 : Int32)).toNatClampNeg)]) (stk2 := [.int q10.1, .int q5.1]) (cl2 := cl) (sl2 := sl) dL_law_1678 rfl lk_RL_163 w_1426 w_1427 rfl t_a2 ⟨(Nat.le_of_ble_eq_true rfl), (Nat.le_of_ble_eq_true rfl)⟩ rfl rfl ⟨Nat.le_trans (Nat.add_le_add_left (by decide) _) hcl, Nat.le_trans (Nat.add_le_add_left (by decide) _) hsl⟩ rfl (Nat.le_of_ble_eq_true rfl) rfl rfl rfl rfl (c_X9_mend t_a2 g_q10) ?_
  refine vv_icmp_eq 2058 1684 dL_law_1681 rfl (by decide) (fun c11 => ?_) (fun c11 => ?_)
  · rw [if_pos c11] at hf
    obtain ⟨z12, e_z12, hf⟩ := bd_s hf
    refine vv_iincE (q := 2061) (v := z12) (c := 6) (L' := [some (.ref w.2.2.2.2.1), some (.ref a1), some (.ref a2), some (.int z12)]) e_z12 dL_law_2058 rfl rfl (by decide) (Nat.le_of_ble_eq_true rfl) rfl ?_
    refine vv_goto 18 dL_law_2061 (by decide) ?_
    exact hk18 _ _ _ _ _ _ t_a1 t_a2 (Nat.le_succ _) (Nat.le_add_right _ _) hf
  · rw [if_neg c11] at hf
    refine vv_iconst 1685 (v := 0) dL_law_1684 rfl (by decide) ?_
    exact absurd (Option.some.inj hf) (by decide)

set_option maxHeartbeats 4000000 in
theorem v_L_law_1686 {w : Wo} {K : Kn} {cl sl : Nat} (hcl : cl + 1 ≤ 600000) (hsl : sl + 5 ≤ 7302250) (k18 : Mem → Nat → Nat → Int32 → Option Int32) (hk18 : ∀ (m : Mem) (a1 : Nat) (a2 : Nat) (x3 : Int32) (cl2 sl2 : Nat), K a1 = some (.inl 7) → K a2 = some (.inl 8) → cl2 ≤ cl + 1 → sl2 ≤ sl + 5 → k18 m a1 a2 x3 = some 1 → VV w RL cL_law 4 (some .boolean) room_1 false (QL w) K 18 [some (.ref w.2.2.2.2.1), some (.ref a1), some (.ref a2), some (.int x3)] [] cl2 sl2 m) {m : Mem} {a1 : Nat} {a2 : Nat} {x3 : Int32} (t_a1 : K a1 = some (.inl 7)) (t_a2 : K a2 = some (.inl 8)) (hf : f_L_law_1686 K w.2.2.2.2.2.1 w.2.2.2.2.2.2 k18 m a1 a2 x3 = some 1) : VV w RL cL_law 4 (some .boolean) room_1 false (QL w) K 1686 [some (.ref w.2.2.2.2.1), some (.ref a1), some (.ref a2), some (.int x3)] [] cl sl m := by
  unfold f_L_law_1686 at hf
  refine vv_aload_n 1687 dL_law_1686 rfl rfl ?_
  refine vv_aload_n 1688 dL_law_1687 rfl rfl ?_
  refine vv_iload_n 1689 dL_law_1688 rfl rfl ?_
  refine vv_iconst 1690 (v := 1) dL_law_1689 rfl (by decide) ?_
  refine vv_iadd 1691 dL_law_1690 rfl ?_
  obtain ⟨h1, hf⟩ := gd_s hf
  refine vv_scr 1692 dL_law_1691 rfl h1 ?_
  obtain ⟨q2, g_q2, hf⟩ := bind_s hf
  refine vv_callV 1695 (st := []) (As := [.int (w.2.2.2.2.2.2 (x3 + (1 : Int32)).toNatClampNeg)]) (stk2 := [.int q2.1]) (cl2 := cl) (sl2 := sl) dL_law_1692 rfl lk_RL_164 w_584 w_585 rfl t_a1 ⟨(Nat.le_of_ble_eq_true rfl), (Nat.le_of_ble_eq_true rfl)⟩ rfl rfl ⟨Nat.le_trans (Nat.add_le_add_left (by decide) _) hcl, Nat.le_trans (Nat.add_le_add_left (by decide) _) hsl⟩ rfl (Nat.le_of_ble_eq_true rfl) rfl rfl rfl rfl (c_X8_seals t_a1 g_q2) ?_
  refine vv_aload_n 1696 dL_law_1695 rfl rfl ?_
  refine vv_aload_n 1697 dL_law_1696 rfl rfl ?_
  refine vv_iload_n 1698 dL_law_1697 rfl rfl ?_
  refine vv_iconst 1699 (v := 1) dL_law_1698 rfl (by decide) ?_
  refine vv_iadd 1700 dL_law_1699 rfl ?_
  obtain ⟨h3, hf⟩ := gd_s hf
  refine vv_scr 1701 dL_law_1700 rfl h3 ?_
  obtain ⟨q4, g_q4, hf⟩ := bind_s hf
  refine vv_callV 1704 (st := [.int q2.1]) (As := [.int (w.2.2.2.2.2.2 (x3 + (1 : Int32)).toNatClampNeg)]) (stk2 := [.int q4.1, .int q2.1]) (cl2 := cl) (sl2 := sl) dL_law_1701 rfl lk_RL_167 w_1430 w_1431 rfl t_a2 ⟨(Nat.le_of_ble_eq_true rfl), (Nat.le_of_ble_eq_true rfl)⟩ rfl rfl ⟨Nat.le_trans (Nat.add_le_add_left (by decide) _) hcl, Nat.le_trans (Nat.add_le_add_left (by decide) _) hsl⟩ rfl (Nat.le_of_ble_eq_true rfl) rfl rfl rfl rfl (c_X9_seals t_a2 g_q4) ?_
  refine vv_icmp_eq 2058 1707 dL_law_1704 rfl (by decide) (fun c5 => ?_) (fun c5 => ?_)
  · rw [if_pos c5] at hf
    obtain ⟨z6, e_z6, hf⟩ := bd_s hf
    refine vv_iincE (q := 2061) (v := z6) (c := 6) (L' := [some (.ref w.2.2.2.2.1), some (.ref a1), some (.ref a2), some (.int z6)]) e_z6 dL_law_2058 rfl rfl (by decide) (Nat.le_of_ble_eq_true rfl) rfl ?_
    refine vv_goto 18 dL_law_2061 (by decide) ?_
    exact hk18 _ _ _ _ _ _ t_a1 t_a2 (Nat.le_succ _) (Nat.le_add_right _ _) hf
  · rw [if_neg c5] at hf
    refine vv_iconst 1708 (v := 0) dL_law_1707 rfl (by decide) ?_
    exact absurd (Option.some.inj hf) (by decide)

set_option maxHeartbeats 4000000 in
theorem v_L_law_1709 {w : Wo} {K : Kn} {cl sl : Nat} (hcl : cl + 1 ≤ 600000) (hsl : sl + 5 ≤ 7302250) (k18 : Mem → Nat → Nat → Int32 → Option Int32) (hk18 : ∀ (m : Mem) (a1 : Nat) (a2 : Nat) (x3 : Int32) (cl2 sl2 : Nat), K a1 = some (.inl 7) → K a2 = some (.inl 8) → cl2 ≤ cl + 1 → sl2 ≤ sl + 5 → k18 m a1 a2 x3 = some 1 → VV w RL cL_law 4 (some .boolean) room_1 false (QL w) K 18 [some (.ref w.2.2.2.2.1), some (.ref a1), some (.ref a2), some (.int x3)] [] cl2 sl2 m) {m : Mem} {a1 : Nat} {a2 : Nat} {x3 : Int32} (t_a1 : K a1 = some (.inl 7)) (t_a2 : K a2 = some (.inl 8)) (hf : f_L_law_1709 K w.2.2.2.2.2.1 w.2.2.2.2.2.2 k18 m a1 a2 x3 = some 1) : VV w RL cL_law 4 (some .boolean) room_1 false (QL w) K 1709 [some (.ref w.2.2.2.2.1), some (.ref a1), some (.ref a2), some (.int x3)] [] cl sl m := by
  unfold f_L_law_1709 at hf
  refine vv_aload_n 1710 dL_law_1709 rfl rfl ?_
  refine vv_aload_n 1711 dL_law_1710 rfl rfl ?_
  refine vv_iload_n 1712 dL_law_1711 rfl rfl ?_
  refine vv_iconst 1713 (v := 1) dL_law_1712 rfl (by decide) ?_
  refine vv_iadd 1714 dL_law_1713 rfl ?_
  obtain ⟨h1, hf⟩ := gd_s hf
  refine vv_scr 1715 dL_law_1714 rfl h1 ?_
  refine vv_aload_n 1716 dL_law_1715 rfl rfl ?_
  refine vv_iload_n 1717 dL_law_1716 rfl rfl ?_
  refine vv_iconst 1718 (v := 2) dL_law_1717 rfl (by decide) ?_
  refine vv_iadd 1719 dL_law_1718 rfl ?_
  obtain ⟨h2, hf⟩ := gd_s hf
  refine vv_scr 1720 dL_law_1719 rfl h2 ?_
  obtain ⟨q3, g_q3, hf⟩ := bind_s hf
  refine vv_callV 1723 (st := []) (As := [.int (w.2.2.2.2.2.2 (x3 + (1 : Int32)).toNatClampNeg), .int (w.2.2.2.2.2.2 (x3 + (2 : Int32)).toNatClampNeg)]) (stk2 := [.int q3.1]) (cl2 := cl) (sl2 := sl) dL_law_1720 rfl lk_RL_168 w_590 w_591 rfl t_a1 ⟨(Nat.le_of_ble_eq_true rfl), (Nat.le_of_ble_eq_true rfl)⟩ rfl rfl ⟨Nat.le_trans (Nat.add_le_add_left (by decide) _) hcl, Nat.le_trans (Nat.add_le_add_left (by decide) _) hsl⟩ rfl (Nat.le_of_ble_eq_true rfl) rfl rfl rfl rfl (c_X8_drops t_a1 g_q3) ?_
  refine vv_aload_n 1724 dL_law_1723 rfl rfl ?_
  refine vv_aload_n 1725 dL_law_1724 rfl rfl ?_
  refine vv_iload_n 1726 dL_law_1725 rfl rfl ?_
  refine vv_iconst 1727 (v := 1) dL_law_1726 rfl (by decide) ?_
  refine vv_iadd 1728 dL_law_1727 rfl ?_
  obtain ⟨h4, hf⟩ := gd_s hf
  refine vv_scr 1729 dL_law_1728 rfl h4 ?_
  refine vv_aload_n 1730 dL_law_1729 rfl rfl ?_
  refine vv_iload_n 1731 dL_law_1730 rfl rfl ?_
  refine vv_iconst 1732 (v := 2) dL_law_1731 rfl (by decide) ?_
  refine vv_iadd 1733 dL_law_1732 rfl ?_
  obtain ⟨h5, hf⟩ := gd_s hf
  refine vv_scr 1734 dL_law_1733 rfl h5 ?_
  obtain ⟨q6, g_q6, hf⟩ := bind_s hf
  refine vv_callV 1737 (st := [.int q3.1]) (As := [.int (w.2.2.2.2.2.2 (x3 + (1 : Int32)).toNatClampNeg), .int (w.2.2.2.2.2.2 (x3 + (2 : Int32)).toNatClampNeg)]) (stk2 := [.int q6.1, .int q3.1]) (cl2 := cl) (sl2 := sl) dL_law_1734 rfl lk_RL_171 w_1434 w_1435 rfl t_a2 ⟨(Nat.le_of_ble_eq_true rfl), (Nat.le_of_ble_eq_true rfl)⟩ rfl rfl ⟨Nat.le_trans (Nat.add_le_add_left (by decide) _) hcl, Nat.le_trans (Nat.add_le_add_left (by decide) _) hsl⟩ rfl (Nat.le_of_ble_eq_true rfl) rfl rfl rfl rfl (c_X9_drops t_a2 g_q6) ?_
  refine vv_icmp_eq 2058 1740 dL_law_1737 rfl (by decide) (fun c7 => ?_) (fun c7 => ?_)
  · rw [if_pos c7] at hf
    obtain ⟨z8, e_z8, hf⟩ := bd_s hf
    refine vv_iincE (q := 2061) (v := z8) (c := 6) (L' := [some (.ref w.2.2.2.2.1), some (.ref a1), some (.ref a2), some (.int z8)]) e_z8 dL_law_2058 rfl rfl (by decide) (Nat.le_of_ble_eq_true rfl) rfl ?_
    refine vv_goto 18 dL_law_2061 (by decide) ?_
    exact hk18 _ _ _ _ _ _ t_a1 t_a2 (Nat.le_succ _) (Nat.le_add_right _ _) hf
  · rw [if_neg c7] at hf
    refine vv_iconst 1741 (v := 0) dL_law_1740 rfl (by decide) ?_
    exact absurd (Option.some.inj hf) (by decide)

set_option maxHeartbeats 4000000 in
theorem v_L_law_1742 {w : Wo} {K : Kn} {cl sl : Nat} (hcl : cl + 1 ≤ 600000) (hsl : sl + 5 ≤ 7302250) (k18 : Mem → Nat → Nat → Int32 → Option Int32) (hk18 : ∀ (m : Mem) (a1 : Nat) (a2 : Nat) (x3 : Int32) (cl2 sl2 : Nat), K a1 = some (.inl 7) → K a2 = some (.inl 8) → cl2 ≤ cl + 1 → sl2 ≤ sl + 5 → k18 m a1 a2 x3 = some 1 → VV w RL cL_law 4 (some .boolean) room_1 false (QL w) K 18 [some (.ref w.2.2.2.2.1), some (.ref a1), some (.ref a2), some (.int x3)] [] cl2 sl2 m) {m : Mem} {a1 : Nat} {a2 : Nat} {x3 : Int32} (t_a1 : K a1 = some (.inl 7)) (t_a2 : K a2 = some (.inl 8)) (hf : f_L_law_1742 K w.2.2.2.2.2.1 w.2.2.2.2.2.2 k18 m a1 a2 x3 = some 1) : VV w RL cL_law 4 (some .boolean) room_1 false (QL w) K 1742 [some (.ref w.2.2.2.2.1), some (.ref a1), some (.ref a2), some (.int x3)] [] cl sl m := by
  unfold f_L_law_1742 at hf
  refine vv_aload_n 1743 dL_law_1742 rfl rfl ?_
  refine vv_aload_n 1744 dL_law_1743 rfl rfl ?_
  refine vv_iload_n 1745 dL_law_1744 rfl rfl ?_
  refine vv_iconst 1746 (v := 1) dL_law_1745 rfl (by decide) ?_
  refine vv_iadd 1747 dL_law_1746 rfl ?_
  obtain ⟨h1, hf⟩ := gd_s hf
  refine vv_scr 1748 dL_law_1747 rfl h1 ?_
  refine vv_aload_n 1749 dL_law_1748 rfl rfl ?_
  refine vv_iload_n 1750 dL_law_1749 rfl rfl ?_
  refine vv_iconst 1751 (v := 2) dL_law_1750 rfl (by decide) ?_
  refine vv_iadd 1752 dL_law_1751 rfl ?_
  obtain ⟨h2, hf⟩ := gd_s hf
  refine vv_scr 1753 dL_law_1752 rfl h2 ?_
  refine vv_aload_n 1754 dL_law_1753 rfl rfl ?_
  refine vv_iload_n 1755 dL_law_1754 rfl rfl ?_
  refine vv_iconst 1756 (v := 3) dL_law_1755 rfl (by decide) ?_
  refine vv_iadd 1757 dL_law_1756 rfl ?_
  obtain ⟨h3, hf⟩ := gd_s hf
  refine vv_scr 1758 dL_law_1757 rfl h3 ?_
  refine vv_aload_n 1759 dL_law_1758 rfl rfl ?_
  refine vv_iload_n 1760 dL_law_1759 rfl rfl ?_
  refine vv_iconst 1761 (v := 4) dL_law_1760 rfl (by decide) ?_
  refine vv_iadd 1762 dL_law_1761 rfl ?_
  obtain ⟨h4, hf⟩ := gd_s hf
  refine vv_scr 1763 dL_law_1762 rfl h4 ?_
  obtain ⟨q5, g_q5, hf⟩ := bind_s hf
  refine vv_callV 1766 (st := []) (As := [.int (w.2.2.2.2.2.2 (x3 + (1 : Int32)).toNatClampNeg), .int (w.2.2.2.2.2.2 (x3 + (2 : Int32)).toNatClampNeg), .int (w.2.2.2.2.2.2 (x3 + (3 : Int32)).toNatClampNeg), .int (w.2.2.2.2.2.2 (x3 + (4 : Int32)).toNatClampNeg)]) (stk2 := [.long q5.1]) (cl2 := cl) (sl2 := sl) dL_law_1763 rfl lk_RL_172 w_929 w_930 rfl t_a1 ⟨(Nat.le_of_ble_eq_true rfl), (Nat.le_of_ble_eq_true rfl)⟩ rfl rfl ⟨Nat.le_trans (Nat.add_le_add_left (by decide) _) hcl, Nat.le_trans (Nat.add_le_add_left (by decide) _) hsl⟩ rfl (Nat.le_of_ble_eq_true rfl) rfl rfl rfl rfl (c_X8_least t_a1 g_q5) ?_
  refine vv_aload_n 1767 dL_law_1766 rfl rfl ?_
  refine vv_aload_n 1768 dL_law_1767 rfl rfl ?_
  refine vv_iload_n 1769 dL_law_1768 rfl rfl ?_
  refine vv_iconst 1770 (v := 1) dL_law_1769 rfl (by decide) ?_
  refine vv_iadd 1771 dL_law_1770 rfl ?_
  obtain ⟨h6, hf⟩ := gd_s hf
  refine vv_scr 1772 dL_law_1771 rfl h6 ?_
  refine vv_aload_n 1773 dL_law_1772 rfl rfl ?_
  refine vv_iload_n 1774 dL_law_1773 rfl rfl ?_
  refine vv_iconst 1775 (v := 2) dL_law_1774 rfl (by decide) ?_
  refine vv_iadd 1776 dL_law_1775 rfl ?_
  obtain ⟨h7, hf⟩ := gd_s hf
  refine vv_scr 1777 dL_law_1776 rfl h7 ?_
  refine vv_aload_n 1778 dL_law_1777 rfl rfl ?_
  refine vv_iload_n 1779 dL_law_1778 rfl rfl ?_
  refine vv_iconst 1780 (v := 3) dL_law_1779 rfl (by decide) ?_
  refine vv_iadd 1781 dL_law_1780 rfl ?_
  obtain ⟨h8, hf⟩ := gd_s hf
  refine vv_scr 1782 dL_law_1781 rfl h8 ?_
  refine vv_aload_n 1783 dL_law_1782 rfl rfl ?_
  refine vv_iload_n 1784 dL_law_1783 rfl rfl ?_
  refine vv_iconst 1785 (v := 4) dL_law_1784 rfl (by decide) ?_
  refine vv_iadd 1786 dL_law_1785 rfl ?_
  obtain ⟨h9, hf⟩ := gd_s hf
  refine vv_scr 1787 dL_law_1786 rfl h9 ?_
  obtain ⟨q10, g_q10, hf⟩ := bind_s hf
  refine vv_callV 1790 (st := [.long q5.1]) (As := [.int (w.2.2.2.2.2.2 (x3 + (1 : Int32)).toNatClampNeg), .int (w.2.2.2.2.2.2 (x3 + (2 : Int32)).toNatClampNeg), .int (w.2.2.2.2.2.2 (x3 + (3 : Int32)).toNatClampNeg), .int (w.2.2.2.2.2.2 (x3 + (4 : Int32)).toNatClampNeg)]) (stk2 := [.long q10.1, .long q5.1]) (cl2 := cl) (sl2 := sl) dL_law_1787 rfl lk_RL_175 w_1542 w_1543 rfl t_a2 ⟨(Nat.le_of_ble_eq_true rfl), (Nat.le_of_ble_eq_true rfl)⟩ rfl rfl ⟨Nat.le_trans (Nat.add_le_add_left (by decide) _) hcl, Nat.le_trans (Nat.add_le_add_left (by decide) _) hsl⟩ rfl (Nat.le_of_ble_eq_true rfl) rfl rfl rfl rfl (c_X9_least t_a2 g_q10) ?_
  refine vv_lcmp 1791 dL_law_1790 rfl ?_
  refine vv_if_eq 2058 1794 dL_law_1791 rfl (by decide) (fun c11 => ?_) (fun c11 => ?_)
  · rw [if_pos c11] at hf
    obtain ⟨z12, e_z12, hf⟩ := bd_s hf
    refine vv_iincE (q := 2061) (v := z12) (c := 6) (L' := [some (.ref w.2.2.2.2.1), some (.ref a1), some (.ref a2), some (.int z12)]) e_z12 dL_law_2058 rfl rfl (by decide) (Nat.le_of_ble_eq_true rfl) rfl ?_
    refine vv_goto 18 dL_law_2061 (by decide) ?_
    exact hk18 _ _ _ _ _ _ t_a1 t_a2 (Nat.le_succ _) (Nat.le_add_right _ _) hf
  · rw [if_neg c11] at hf
    refine vv_iconst 1795 (v := 0) dL_law_1794 rfl (by decide) ?_
    exact absurd (Option.some.inj hf) (by decide)

set_option maxHeartbeats 4000000 in
theorem v_L_law_1796 {w : Wo} {K : Kn} {cl sl : Nat} (hcl : cl + 1 ≤ 600000) (hsl : sl + 5 ≤ 7302250) (k18 : Mem → Nat → Nat → Int32 → Option Int32) (hk18 : ∀ (m : Mem) (a1 : Nat) (a2 : Nat) (x3 : Int32) (cl2 sl2 : Nat), K a1 = some (.inl 7) → K a2 = some (.inl 8) → cl2 ≤ cl + 1 → sl2 ≤ sl + 5 → k18 m a1 a2 x3 = some 1 → VV w RL cL_law 4 (some .boolean) room_1 false (QL w) K 18 [some (.ref w.2.2.2.2.1), some (.ref a1), some (.ref a2), some (.int x3)] [] cl2 sl2 m) {m : Mem} {a1 : Nat} {a2 : Nat} {x3 : Int32} (t_a1 : K a1 = some (.inl 7)) (t_a2 : K a2 = some (.inl 8)) (hf : f_L_law_1796 K w.2.2.2.2.2.1 w.2.2.2.2.2.2 k18 m a1 a2 x3 = some 1) : VV w RL cL_law 4 (some .boolean) room_1 false (QL w) K 1796 [some (.ref w.2.2.2.2.1), some (.ref a1), some (.ref a2), some (.int x3)] [] cl sl m := by
  unfold f_L_law_1796 at hf
  refine vv_aload_n 1797 dL_law_1796 rfl rfl ?_
  refine vv_aload_n 1798 dL_law_1797 rfl rfl ?_
  refine vv_iload_n 1799 dL_law_1798 rfl rfl ?_
  refine vv_iconst 1800 (v := 1) dL_law_1799 rfl (by decide) ?_
  refine vv_iadd 1801 dL_law_1800 rfl ?_
  obtain ⟨h1, hf⟩ := gd_s hf
  refine vv_scr 1802 dL_law_1801 rfl h1 ?_
  refine vv_aload_n 1803 dL_law_1802 rfl rfl ?_
  refine vv_iload_n 1804 dL_law_1803 rfl rfl ?_
  refine vv_iconst 1805 (v := 2) dL_law_1804 rfl (by decide) ?_
  refine vv_iadd 1806 dL_law_1805 rfl ?_
  obtain ⟨h2, hf⟩ := gd_s hf
  refine vv_scr 1807 dL_law_1806 rfl h2 ?_
  refine vv_i2l 1808 dL_law_1807 rfl ?_
  refine vv_bipush 1810 (v := 32) dL_law_1808 rfl (by decide) ?_
  refine vv_lshl 1811 dL_law_1810 rfl ?_
  refine vv_aload_n 1812 dL_law_1811 rfl rfl ?_
  refine vv_iload_n 1813 dL_law_1812 rfl rfl ?_
  refine vv_iconst 1814 (v := 3) dL_law_1813 rfl (by decide) ?_
  refine vv_iadd 1815 dL_law_1814 rfl ?_
  obtain ⟨h3, hf⟩ := gd_s hf
  refine vv_scr 1816 dL_law_1815 rfl h3 ?_
  refine vv_i2l 1817 dL_law_1816 rfl ?_
  refine vv_ldc2 1820 (v := 4294967295) dL_law_1817 rfl w_1629 ?_
  refine vv_land 1821 dL_law_1820 rfl ?_
  refine vv_lor 1822 dL_law_1821 rfl ?_
  obtain ⟨q4, g_q4, hf⟩ := bind_s hf
  refine vv_callV 1825 (st := []) (As := [.int (w.2.2.2.2.2.2 (x3 + (1 : Int32)).toNatClampNeg), .long ((lshl ((w.2.2.2.2.2.2 (x3 + (2 : Int32)).toNatClampNeg).toInt64) (32 : Int32)) ||| (((w.2.2.2.2.2.2 (x3 + (3 : Int32)).toNatClampNeg).toInt64) &&& (4294967295 : Int64)))]) (stk2 := [.int q4.1]) (cl2 := cl) (sl2 := sl) dL_law_1822 rfl lk_RL_176 w_842 w_843 rfl t_a1 ⟨(Nat.le_of_ble_eq_true rfl), (Nat.le_of_ble_eq_true rfl)⟩ rfl rfl ⟨Nat.le_trans (Nat.add_le_add_left (by decide) _) hcl, Nat.le_trans (Nat.add_le_add_left (by decide) _) hsl⟩ rfl (Nat.le_of_ble_eq_true rfl) rfl rfl rfl rfl (c_X8_passes t_a1 g_q4) ?_
  refine vv_aload_n 1826 dL_law_1825 rfl rfl ?_
  refine vv_aload_n 1827 dL_law_1826 rfl rfl ?_
  refine vv_iload_n 1828 dL_law_1827 rfl rfl ?_
  refine vv_iconst 1829 (v := 1) dL_law_1828 rfl (by decide) ?_
  refine vv_iadd 1830 dL_law_1829 rfl ?_
  obtain ⟨h5, hf⟩ := gd_s hf
  refine vv_scr 1831 dL_law_1830 rfl h5 ?_
  refine vv_aload_n 1832 dL_law_1831 rfl rfl ?_
  refine vv_iload_n 1833 dL_law_1832 rfl rfl ?_
  refine vv_iconst 1834 (v := 2) dL_law_1833 rfl (by decide) ?_
  refine vv_iadd 1835 dL_law_1834 rfl ?_
  obtain ⟨h6, hf⟩ := gd_s hf
  refine vv_scr 1836 dL_law_1835 rfl h6 ?_
  refine vv_i2l 1837 dL_law_1836 rfl ?_
  refine vv_bipush 1839 (v := 32) dL_law_1837 rfl (by decide) ?_
  refine vv_lshl 1840 dL_law_1839 rfl ?_
  refine vv_aload_n 1841 dL_law_1840 rfl rfl ?_
  refine vv_iload_n 1842 dL_law_1841 rfl rfl ?_
  refine vv_iconst 1843 (v := 3) dL_law_1842 rfl (by decide) ?_
  refine vv_iadd 1844 dL_law_1843 rfl ?_
  obtain ⟨h7, hf⟩ := gd_s hf
  refine vv_scr 1845 dL_law_1844 rfl h7 ?_
  refine vv_i2l 1846 dL_law_1845 rfl ?_
  refine vv_ldc2 1849 (v := 4294967295) dL_law_1846 rfl w_1629 ?_
  refine vv_land 1850 dL_law_1849 rfl ?_
  refine vv_lor 1851 dL_law_1850 rfl ?_
  obtain ⟨q8, g_q8, hf⟩ := bind_s hf
  refine vv_callV 1854 (st := [.int q4.1]) (As := [.int (w.2.2.2.2.2.2 (x3 + (1 : Int32)).toNatClampNeg), .long ((lshl ((w.2.2.2.2.2.2 (x3 + (2 : Int32)).toNatClampNeg).toInt64) (32 : Int32)) ||| (((w.2.2.2.2.2.2 (x3 + (3 : Int32)).toNatClampNeg).toInt64) &&& (4294967295 : Int64)))]) (stk2 := [.int q8.1, .int q4.1]) (cl2 := cl) (sl2 := sl) dL_law_1851 rfl lk_RL_180 w_1546 w_1547 rfl t_a2 ⟨(Nat.le_of_ble_eq_true rfl), (Nat.le_of_ble_eq_true rfl)⟩ rfl rfl ⟨Nat.le_trans (Nat.add_le_add_left (by decide) _) hcl, Nat.le_trans (Nat.add_le_add_left (by decide) _) hsl⟩ rfl (Nat.le_of_ble_eq_true rfl) rfl rfl rfl rfl (c_X9_passes t_a2 g_q8) ?_
  refine vv_icmp_eq 2058 1857 dL_law_1854 rfl (by decide) (fun c9 => ?_) (fun c9 => ?_)
  · rw [if_pos c9] at hf
    obtain ⟨z10, e_z10, hf⟩ := bd_s hf
    refine vv_iincE (q := 2061) (v := z10) (c := 6) (L' := [some (.ref w.2.2.2.2.1), some (.ref a1), some (.ref a2), some (.int z10)]) e_z10 dL_law_2058 rfl rfl (by decide) (Nat.le_of_ble_eq_true rfl) rfl ?_
    refine vv_goto 18 dL_law_2061 (by decide) ?_
    exact hk18 _ _ _ _ _ _ t_a1 t_a2 (Nat.le_succ _) (Nat.le_add_right _ _) hf
  · rw [if_neg c9] at hf
    refine vv_iconst 1858 (v := 0) dL_law_1857 rfl (by decide) ?_
    exact absurd (Option.some.inj hf) (by decide)

set_option maxHeartbeats 4000000 in
theorem v_L_law_1859 {w : Wo} {K : Kn} {cl sl : Nat} (hcl : cl + 1 ≤ 600000) (hsl : sl + 5 ≤ 7302250) (k18 : Mem → Nat → Nat → Int32 → Option Int32) (hk18 : ∀ (m : Mem) (a1 : Nat) (a2 : Nat) (x3 : Int32) (cl2 sl2 : Nat), K a1 = some (.inl 7) → K a2 = some (.inl 8) → cl2 ≤ cl + 1 → sl2 ≤ sl + 5 → k18 m a1 a2 x3 = some 1 → VV w RL cL_law 4 (some .boolean) room_1 false (QL w) K 18 [some (.ref w.2.2.2.2.1), some (.ref a1), some (.ref a2), some (.int x3)] [] cl2 sl2 m) {m : Mem} {a1 : Nat} {a2 : Nat} {x3 : Int32} (t_a1 : K a1 = some (.inl 7)) (t_a2 : K a2 = some (.inl 8)) (hf : f_L_law_1859 K w.2.2.2.2.2.1 w.2.2.2.2.2.2 k18 m a1 a2 x3 = some 1) : VV w RL cL_law 4 (some .boolean) room_1 false (QL w) K 1859 [some (.ref w.2.2.2.2.1), some (.ref a1), some (.ref a2), some (.int x3)] [] cl sl m := by
  unfold f_L_law_1859 at hf
  refine vv_aload_n 1860 dL_law_1859 rfl rfl ?_
  refine vv_aload_n 1861 dL_law_1860 rfl rfl ?_
  refine vv_iload_n 1862 dL_law_1861 rfl rfl ?_
  refine vv_iconst 1863 (v := 1) dL_law_1862 rfl (by decide) ?_
  refine vv_iadd 1864 dL_law_1863 rfl ?_
  obtain ⟨h1, hf⟩ := gd_s hf
  refine vv_scr 1865 dL_law_1864 rfl h1 ?_
  refine vv_aload_n 1866 dL_law_1865 rfl rfl ?_
  refine vv_iload_n 1867 dL_law_1866 rfl rfl ?_
  refine vv_iconst 1868 (v := 2) dL_law_1867 rfl (by decide) ?_
  refine vv_iadd 1869 dL_law_1868 rfl ?_
  obtain ⟨h2, hf⟩ := gd_s hf
  refine vv_scr 1870 dL_law_1869 rfl h2 ?_
  obtain ⟨q3, g_q3, hf⟩ := bind_s hf
  refine vv_callV 1873 (st := []) (As := [.int (w.2.2.2.2.2.2 (x3 + (1 : Int32)).toNatClampNeg), .int (w.2.2.2.2.2.2 (x3 + (2 : Int32)).toNatClampNeg)]) (stk2 := [.int q3.1]) (cl2 := cl) (sl2 := sl) dL_law_1870 rfl lk_RL_181 w_803 w_804 rfl t_a1 ⟨(Nat.le_of_ble_eq_true rfl), (Nat.le_of_ble_eq_true rfl)⟩ rfl rfl ⟨Nat.le_trans (Nat.add_le_add_left (by decide) _) hcl, Nat.le_trans (Nat.add_le_add_left (by decide) _) hsl⟩ rfl (Nat.le_of_ble_eq_true rfl) rfl rfl rfl rfl (c_X8_since t_a1 g_q3) ?_
  refine vv_aload_n 1874 dL_law_1873 rfl rfl ?_
  refine vv_aload_n 1875 dL_law_1874 rfl rfl ?_
  refine vv_iload_n 1876 dL_law_1875 rfl rfl ?_
  refine vv_iconst 1877 (v := 1) dL_law_1876 rfl (by decide) ?_
  refine vv_iadd 1878 dL_law_1877 rfl ?_
  obtain ⟨h4, hf⟩ := gd_s hf
  refine vv_scr 1879 dL_law_1878 rfl h4 ?_
  refine vv_aload_n 1880 dL_law_1879 rfl rfl ?_
  refine vv_iload_n 1881 dL_law_1880 rfl rfl ?_
  refine vv_iconst 1882 (v := 2) dL_law_1881 rfl (by decide) ?_
  refine vv_iadd 1883 dL_law_1882 rfl ?_
  obtain ⟨h5, hf⟩ := gd_s hf
  refine vv_scr 1884 dL_law_1883 rfl h5 ?_
  obtain ⟨q6, g_q6, hf⟩ := bind_s hf
  refine vv_callV 1887 (st := [.int q3.1]) (As := [.int (w.2.2.2.2.2.2 (x3 + (1 : Int32)).toNatClampNeg), .int (w.2.2.2.2.2.2 (x3 + (2 : Int32)).toNatClampNeg)]) (stk2 := [.int q6.1, .int q3.1]) (cl2 := cl) (sl2 := sl) dL_law_1884 rfl lk_RL_184 w_1475 w_1476 rfl t_a2 ⟨(Nat.le_of_ble_eq_true rfl), (Nat.le_of_ble_eq_true rfl)⟩ rfl rfl ⟨Nat.le_trans (Nat.add_le_add_left (by decide) _) hcl, Nat.le_trans (Nat.add_le_add_left (by decide) _) hsl⟩ rfl (Nat.le_of_ble_eq_true rfl) rfl rfl rfl rfl (c_X9_since t_a2 g_q6) ?_
  refine vv_icmp_eq 2058 1890 dL_law_1887 rfl (by decide) (fun c7 => ?_) (fun c7 => ?_)
  · rw [if_pos c7] at hf
    obtain ⟨z8, e_z8, hf⟩ := bd_s hf
    refine vv_iincE (q := 2061) (v := z8) (c := 6) (L' := [some (.ref w.2.2.2.2.1), some (.ref a1), some (.ref a2), some (.int z8)]) e_z8 dL_law_2058 rfl rfl (by decide) (Nat.le_of_ble_eq_true rfl) rfl ?_
    refine vv_goto 18 dL_law_2061 (by decide) ?_
    exact hk18 _ _ _ _ _ _ t_a1 t_a2 (Nat.le_succ _) (Nat.le_add_right _ _) hf
  · rw [if_neg c7] at hf
    refine vv_iconst 1891 (v := 0) dL_law_1890 rfl (by decide) ?_
    exact absurd (Option.some.inj hf) (by decide)

set_option maxHeartbeats 4000000 in
theorem v_L_law_1892 {w : Wo} {K : Kn} {cl sl : Nat} (hcl : cl + 1 ≤ 600000) (hsl : sl + 5 ≤ 7302250) (k18 : Mem → Nat → Nat → Int32 → Option Int32) (hk18 : ∀ (m : Mem) (a1 : Nat) (a2 : Nat) (x3 : Int32) (cl2 sl2 : Nat), K a1 = some (.inl 7) → K a2 = some (.inl 8) → cl2 ≤ cl + 1 → sl2 ≤ sl + 5 → k18 m a1 a2 x3 = some 1 → VV w RL cL_law 4 (some .boolean) room_1 false (QL w) K 18 [some (.ref w.2.2.2.2.1), some (.ref a1), some (.ref a2), some (.int x3)] [] cl2 sl2 m) {m : Mem} {a1 : Nat} {a2 : Nat} {x3 : Int32} (t_a1 : K a1 = some (.inl 7)) (t_a2 : K a2 = some (.inl 8)) (hf : f_L_law_1892 K w.2.2.2.2.2.1 w.2.2.2.2.2.2 k18 m a1 a2 x3 = some 1) : VV w RL cL_law 4 (some .boolean) room_1 false (QL w) K 1892 [some (.ref w.2.2.2.2.1), some (.ref a1), some (.ref a2), some (.int x3)] [] cl sl m := by
  unfold f_L_law_1892 at hf
  refine vv_aload_n 1893 dL_law_1892 rfl rfl ?_
  refine vv_aload_n 1894 dL_law_1893 rfl rfl ?_
  refine vv_iload_n 1895 dL_law_1894 rfl rfl ?_
  refine vv_iconst 1896 (v := 1) dL_law_1895 rfl (by decide) ?_
  refine vv_iadd 1897 dL_law_1896 rfl ?_
  obtain ⟨h1, hf⟩ := gd_s hf
  refine vv_scr 1898 dL_law_1897 rfl h1 ?_
  refine vv_aload_n 1899 dL_law_1898 rfl rfl ?_
  refine vv_iload_n 1900 dL_law_1899 rfl rfl ?_
  refine vv_iconst 1901 (v := 2) dL_law_1900 rfl (by decide) ?_
  refine vv_iadd 1902 dL_law_1901 rfl ?_
  obtain ⟨h2, hf⟩ := gd_s hf
  refine vv_scr 1903 dL_law_1902 rfl h2 ?_
  refine vv_aload_n 1904 dL_law_1903 rfl rfl ?_
  refine vv_iload_n 1905 dL_law_1904 rfl rfl ?_
  refine vv_iconst 1906 (v := 3) dL_law_1905 rfl (by decide) ?_
  refine vv_iadd 1907 dL_law_1906 rfl ?_
  obtain ⟨h3, hf⟩ := gd_s hf
  refine vv_scr 1908 dL_law_1907 rfl h3 ?_
  obtain ⟨q4, g_q4, hf⟩ := bind_s hf
  refine vv_callV 1911 (st := []) (As := [.int (w.2.2.2.2.2.2 (x3 + (1 : Int32)).toNatClampNeg), .int (w.2.2.2.2.2.2 (x3 + (2 : Int32)).toNatClampNeg), .int (w.2.2.2.2.2.2 (x3 + (3 : Int32)).toNatClampNeg)]) (stk2 := [.long q4.1]) (cl2 := cl) (sl2 := sl) dL_law_1908 rfl lk_RL_185 w_943 w_944 rfl t_a1 ⟨(Nat.le_of_ble_eq_true rfl), (Nat.le_of_ble_eq_true rfl)⟩ rfl rfl ⟨Nat.le_trans (Nat.add_le_add_left (by decide) _) hcl, Nat.le_trans (Nat.add_le_add_left (by decide) _) hsl⟩ rfl (Nat.le_of_ble_eq_true rfl) rfl rfl rfl rfl (c_X8_area t_a1 g_q4) ?_
  refine vv_aload_n 1912 dL_law_1911 rfl rfl ?_
  refine vv_aload_n 1913 dL_law_1912 rfl rfl ?_
  refine vv_iload_n 1914 dL_law_1913 rfl rfl ?_
  refine vv_iconst 1915 (v := 1) dL_law_1914 rfl (by decide) ?_
  refine vv_iadd 1916 dL_law_1915 rfl ?_
  obtain ⟨h5, hf⟩ := gd_s hf
  refine vv_scr 1917 dL_law_1916 rfl h5 ?_
  refine vv_aload_n 1918 dL_law_1917 rfl rfl ?_
  refine vv_iload_n 1919 dL_law_1918 rfl rfl ?_
  refine vv_iconst 1920 (v := 2) dL_law_1919 rfl (by decide) ?_
  refine vv_iadd 1921 dL_law_1920 rfl ?_
  obtain ⟨h6, hf⟩ := gd_s hf
  refine vv_scr 1922 dL_law_1921 rfl h6 ?_
  refine vv_aload_n 1923 dL_law_1922 rfl rfl ?_
  refine vv_iload_n 1924 dL_law_1923 rfl rfl ?_
  refine vv_iconst 1925 (v := 3) dL_law_1924 rfl (by decide) ?_
  refine vv_iadd 1926 dL_law_1925 rfl ?_
  obtain ⟨h7, hf⟩ := gd_s hf
  refine vv_scr 1927 dL_law_1926 rfl h7 ?_
  obtain ⟨q8, g_q8, hf⟩ := bind_s hf
  refine vv_callV 1930 (st := [.long q4.1]) (As := [.int (w.2.2.2.2.2.2 (x3 + (1 : Int32)).toNatClampNeg), .int (w.2.2.2.2.2.2 (x3 + (2 : Int32)).toNatClampNeg), .int (w.2.2.2.2.2.2 (x3 + (3 : Int32)).toNatClampNeg)]) (stk2 := [.long q8.1, .long q4.1]) (cl2 := cl) (sl2 := sl) dL_law_1927 rfl lk_RL_188 w_1550 w_1551 rfl t_a2 ⟨(Nat.le_of_ble_eq_true rfl), (Nat.le_of_ble_eq_true rfl)⟩ rfl rfl ⟨Nat.le_trans (Nat.add_le_add_left (by decide) _) hcl, Nat.le_trans (Nat.add_le_add_left (by decide) _) hsl⟩ rfl (Nat.le_of_ble_eq_true rfl) rfl rfl rfl rfl (c_X9_area t_a2 g_q8) ?_
  refine vv_lcmp 1931 dL_law_1930 rfl ?_
  refine vv_if_eq 2058 1934 dL_law_1931 rfl (by decide) (fun c9 => ?_) (fun c9 => ?_)
  · rw [if_pos c9] at hf
    obtain ⟨z10, e_z10, hf⟩ := bd_s hf
    refine vv_iincE (q := 2061) (v := z10) (c := 6) (L' := [some (.ref w.2.2.2.2.1), some (.ref a1), some (.ref a2), some (.int z10)]) e_z10 dL_law_2058 rfl rfl (by decide) (Nat.le_of_ble_eq_true rfl) rfl ?_
    refine vv_goto 18 dL_law_2061 (by decide) ?_
    exact hk18 _ _ _ _ _ _ t_a1 t_a2 (Nat.le_succ _) (Nat.le_add_right _ _) hf
  · rw [if_neg c9] at hf
    refine vv_iconst 1935 (v := 0) dL_law_1934 rfl (by decide) ?_
    exact absurd (Option.some.inj hf) (by decide)

set_option maxHeartbeats 4000000 in
theorem v_L_law_1936 {w : Wo} {K : Kn} {cl sl : Nat} (hcl : cl + 1 ≤ 600000) (hsl : sl + 5 ≤ 7302250) (k18 : Mem → Nat → Nat → Int32 → Option Int32) (hk18 : ∀ (m : Mem) (a1 : Nat) (a2 : Nat) (x3 : Int32) (cl2 sl2 : Nat), K a1 = some (.inl 7) → K a2 = some (.inl 8) → cl2 ≤ cl + 1 → sl2 ≤ sl + 5 → k18 m a1 a2 x3 = some 1 → VV w RL cL_law 4 (some .boolean) room_1 false (QL w) K 18 [some (.ref w.2.2.2.2.1), some (.ref a1), some (.ref a2), some (.int x3)] [] cl2 sl2 m) {m : Mem} {a1 : Nat} {a2 : Nat} {x3 : Int32} (t_a1 : K a1 = some (.inl 7)) (t_a2 : K a2 = some (.inl 8)) (hf : f_L_law_1936 K w.2.2.2.2.2.1 w.2.2.2.2.2.2 k18 m a1 a2 x3 = some 1) : VV w RL cL_law 4 (some .boolean) room_1 false (QL w) K 1936 [some (.ref w.2.2.2.2.1), some (.ref a1), some (.ref a2), some (.int x3)] [] cl sl m := by
  unfold f_L_law_1936 at hf
  refine vv_aload_n 1937 dL_law_1936 rfl rfl ?_
  refine vv_aload_n 1938 dL_law_1937 rfl rfl ?_
  refine vv_iload_n 1939 dL_law_1938 rfl rfl ?_
  refine vv_iconst 1940 (v := 1) dL_law_1939 rfl (by decide) ?_
  refine vv_iadd 1941 dL_law_1940 rfl ?_
  obtain ⟨h1, hf⟩ := gd_s hf
  refine vv_scr 1942 dL_law_1941 rfl h1 ?_
  refine vv_aload_n 1943 dL_law_1942 rfl rfl ?_
  refine vv_iload_n 1944 dL_law_1943 rfl rfl ?_
  refine vv_iconst 1945 (v := 2) dL_law_1944 rfl (by decide) ?_
  refine vv_iadd 1946 dL_law_1945 rfl ?_
  obtain ⟨h2, hf⟩ := gd_s hf
  refine vv_scr 1947 dL_law_1946 rfl h2 ?_
  refine vv_aload_n 1948 dL_law_1947 rfl rfl ?_
  refine vv_iload_n 1949 dL_law_1948 rfl rfl ?_
  refine vv_iconst 1950 (v := 3) dL_law_1949 rfl (by decide) ?_
  refine vv_iadd 1951 dL_law_1950 rfl ?_
  obtain ⟨h3, hf⟩ := gd_s hf
  refine vv_scr 1952 dL_law_1951 rfl h3 ?_
  refine vv_aload_n 1953 dL_law_1952 rfl rfl ?_
  refine vv_iload_n 1954 dL_law_1953 rfl rfl ?_
  refine vv_iconst 1955 (v := 4) dL_law_1954 rfl (by decide) ?_
  refine vv_iadd 1956 dL_law_1955 rfl ?_
  obtain ⟨h4, hf⟩ := gd_s hf
  refine vv_scr 1957 dL_law_1956 rfl h4 ?_
  refine vv_aload_n 1958 dL_law_1957 rfl rfl ?_
  refine vv_iload_n 1959 dL_law_1958 rfl rfl ?_
  refine vv_iconst 1960 (v := 5) dL_law_1959 rfl (by decide) ?_
  refine vv_iadd 1961 dL_law_1960 rfl ?_
  obtain ⟨h5, hf⟩ := gd_s hf
  refine vv_scr 1962 dL_law_1961 rfl h5 ?_
  obtain ⟨q6, g_q6, hf⟩ := bind_s hf
  refine vv_callV 1965 (st := []) (As := [.int (w.2.2.2.2.2.2 (x3 + (1 : Int32)).toNatClampNeg), .int (w.2.2.2.2.2.2 (x3 + (2 : Int32)).toNatClampNeg), .int (w.2.2.2.2.2.2 (x3 + (3 : Int32)).toNatClampNeg), .int (w.2.2.2.2.2.2 (x3 + (4 : Int32)).toNatClampNeg), .int (w.2.2.2.2.2.2 (x3 + (5 : Int32)).toNatClampNeg)]) (stk2 := [.int q6.1]) (cl2 := cl) (sl2 := sl) dL_law_1962 rfl lk_RL_189 w_602 w_603 rfl t_a1 ⟨(Nat.le_of_ble_eq_true rfl), (Nat.le_of_ble_eq_true rfl)⟩ rfl rfl ⟨Nat.le_trans (Nat.add_le_add_left (by decide) _) hcl, Nat.le_trans (Nat.add_le_add_left (by decide) _) hsl⟩ rfl (Nat.le_of_ble_eq_true rfl) rfl rfl rfl rfl (c_X8_feed t_a1 g_q6) ?_
  refine vv_aload_n 1966 dL_law_1965 rfl rfl ?_
  refine vv_aload_n 1967 dL_law_1966 rfl rfl ?_
  refine vv_iload_n 1968 dL_law_1967 rfl rfl ?_
  refine vv_iconst 1969 (v := 1) dL_law_1968 rfl (by decide) ?_
  refine vv_iadd 1970 dL_law_1969 rfl ?_
  obtain ⟨h7, hf⟩ := gd_s hf
  refine vv_scr 1971 dL_law_1970 rfl h7 ?_
  refine vv_aload_n 1972 dL_law_1971 rfl rfl ?_
  refine vv_iload_n 1973 dL_law_1972 rfl rfl ?_
  refine vv_iconst 1974 (v := 2) dL_law_1973 rfl (by decide) ?_
  refine vv_iadd 1975 dL_law_1974 rfl ?_
  obtain ⟨h8, hf⟩ := gd_s hf
  refine vv_scr 1976 dL_law_1975 rfl h8 ?_
  refine vv_aload_n 1977 dL_law_1976 rfl rfl ?_
  refine vv_iload_n 1978 dL_law_1977 rfl rfl ?_
  refine vv_iconst 1979 (v := 3) dL_law_1978 rfl (by decide) ?_
  refine vv_iadd 1980 dL_law_1979 rfl ?_
  obtain ⟨h9, hf⟩ := gd_s hf
  refine vv_scr 1981 dL_law_1980 rfl h9 ?_
  refine vv_aload_n 1982 dL_law_1981 rfl rfl ?_
  refine vv_iload_n 1983 dL_law_1982 rfl rfl ?_
  refine vv_iconst 1984 (v := 4) dL_law_1983 rfl (by decide) ?_
  refine vv_iadd 1985 dL_law_1984 rfl ?_
  obtain ⟨h10, hf⟩ := gd_s hf
  refine vv_scr 1986 dL_law_1985 rfl h10 ?_
  refine vv_aload_n 1987 dL_law_1986 rfl rfl ?_
  refine vv_iload_n 1988 dL_law_1987 rfl rfl ?_
  refine vv_iconst 1989 (v := 5) dL_law_1988 rfl (by decide) ?_
  refine vv_iadd 1990 dL_law_1989 rfl ?_
  obtain ⟨h11, hf⟩ := gd_s hf
  refine vv_scr 1991 dL_law_1990 rfl h11 ?_
  obtain ⟨q12, g_q12, hf⟩ := bind_s hf
  refine vv_callV 1994 (st := [.int q6.1]) (As := [.int (w.2.2.2.2.2.2 (x3 + (1 : Int32)).toNatClampNeg), .int (w.2.2.2.2.2.2 (x3 + (2 : Int32)).toNatClampNeg), .int (w.2.2.2.2.2.2 (x3 + (3 : Int32)).toNatClampNeg), .int (w.2.2.2.2.2.2 (x3 + (4 : Int32)).toNatClampNeg), .int (w.2.2.2.2.2.2 (x3 + (5 : Int32)).toNatClampNeg)]) (stk2 := [.int q12.1, .int q6.1]) (cl2 := cl + 1) (sl2 := sl + 5) dL_law_1991 rfl lk_RL_193 w_1613 w_1614 rfl t_a2 ⟨(Nat.le_of_ble_eq_true rfl), (Nat.le_of_ble_eq_true rfl)⟩ rfl rfl ⟨Nat.le_trans (Nat.add_le_add_left (by decide) _) hcl, Nat.le_trans (Nat.add_le_add_left (by decide) _) hsl⟩ rfl (Nat.le_of_ble_eq_true rfl) rfl rfl rfl rfl (c_X9_feed t_a2 g_q12) ?_
  refine vv_icmp_eq 2058 1997 dL_law_1994 rfl (by decide) (fun c13 => ?_) (fun c13 => ?_)
  · rw [if_pos c13] at hf
    obtain ⟨z14, e_z14, hf⟩ := bd_s hf
    refine vv_iincE (q := 2061) (v := z14) (c := 6) (L' := [some (.ref w.2.2.2.2.1), some (.ref a1), some (.ref a2), some (.int z14)]) e_z14 dL_law_2058 rfl rfl (by decide) (Nat.le_of_ble_eq_true rfl) rfl ?_
    refine vv_goto 18 dL_law_2061 (by decide) ?_
    exact hk18 _ _ _ _ _ _ t_a1 t_a2 (Nat.le_refl _) (Nat.le_refl _) hf
  · rw [if_neg c13] at hf
    refine vv_iconst 1998 (v := 0) dL_law_1997 rfl (by decide) ?_
    exact absurd (Option.some.inj hf) (by decide)

set_option maxHeartbeats 4000000 in
theorem v_L_law_1999 {w : Wo} {K : Kn} {cl sl : Nat} (hcl : cl + 1 ≤ 600000) (hsl : sl + 5 ≤ 7302250) (k18 : Mem → Nat → Nat → Int32 → Option Int32) (hk18 : ∀ (m : Mem) (a1 : Nat) (a2 : Nat) (x3 : Int32) (cl2 sl2 : Nat), K a1 = some (.inl 7) → K a2 = some (.inl 8) → cl2 ≤ cl + 1 → sl2 ≤ sl + 5 → k18 m a1 a2 x3 = some 1 → VV w RL cL_law 4 (some .boolean) room_1 false (QL w) K 18 [some (.ref w.2.2.2.2.1), some (.ref a1), some (.ref a2), some (.int x3)] [] cl2 sl2 m) {m : Mem} {a1 : Nat} {a2 : Nat} {x3 : Int32} (t_a1 : K a1 = some (.inl 7)) (t_a2 : K a2 = some (.inl 8)) (hf : f_L_law_1999 K w.2.2.2.2.2.1 w.2.2.2.2.2.2 k18 m a1 a2 x3 = some 1) : VV w RL cL_law 4 (some .boolean) room_1 false (QL w) K 1999 [some (.ref w.2.2.2.2.1), some (.ref a1), some (.ref a2), some (.int x3)] [] cl sl m := by
  unfold f_L_law_1999 at hf
  refine vv_aload_n 2000 dL_law_1999 rfl rfl ?_
  refine vv_aload_n 2001 dL_law_2000 rfl rfl ?_
  refine vv_iload_n 2002 dL_law_2001 rfl rfl ?_
  refine vv_iconst 2003 (v := 1) dL_law_2002 rfl (by decide) ?_
  refine vv_iadd 2004 dL_law_2003 rfl ?_
  obtain ⟨h1, hf⟩ := gd_s hf
  refine vv_scr 2005 dL_law_2004 rfl h1 ?_
  obtain ⟨q2, g_q2, hf⟩ := bind_s hf
  refine vv_callV 2008 (st := []) (As := [.int (w.2.2.2.2.2.2 (x3 + (1 : Int32)).toNatClampNeg)]) (stk2 := [.int q2.1]) (cl2 := cl) (sl2 := sl) dL_law_2005 rfl lk_RL_194 w_607 w_608 rfl t_a1 ⟨(Nat.le_of_ble_eq_true rfl), (Nat.le_of_ble_eq_true rfl)⟩ rfl rfl ⟨Nat.le_trans (Nat.add_le_add_left (by decide) _) hcl, Nat.le_trans (Nat.add_le_add_left (by decide) _) hsl⟩ rfl (Nat.le_of_ble_eq_true rfl) rfl rfl rfl rfl (c_X8_end t_a1 g_q2) ?_
  refine vv_aload_n 2009 dL_law_2008 rfl rfl ?_
  refine vv_aload_n 2010 dL_law_2009 rfl rfl ?_
  refine vv_iload_n 2011 dL_law_2010 rfl rfl ?_
  refine vv_iconst 2012 (v := 1) dL_law_2011 rfl (by decide) ?_
  refine vv_iadd 2013 dL_law_2012 rfl ?_
  obtain ⟨h3, hf⟩ := gd_s hf
  refine vv_scr 2014 dL_law_2013 rfl h3 ?_
  obtain ⟨q4, g_q4, hf⟩ := bind_s hf
  refine vv_callV 2017 (st := [.int q2.1]) (As := [.int (w.2.2.2.2.2.2 (x3 + (1 : Int32)).toNatClampNeg)]) (stk2 := [.int q4.1, .int q2.1]) (cl2 := cl) (sl2 := sl) dL_law_2014 rfl lk_RL_197 w_1617 w_1618 rfl t_a2 ⟨(Nat.le_of_ble_eq_true rfl), (Nat.le_of_ble_eq_true rfl)⟩ rfl rfl ⟨Nat.le_trans (Nat.add_le_add_left (by decide) _) hcl, Nat.le_trans (Nat.add_le_add_left (by decide) _) hsl⟩ rfl (Nat.le_of_ble_eq_true rfl) rfl rfl rfl rfl (c_X9_end t_a2 g_q4) ?_
  refine vv_icmp_eq 2058 2020 dL_law_2017 rfl (by decide) (fun c5 => ?_) (fun c5 => ?_)
  · rw [if_pos c5] at hf
    obtain ⟨z6, e_z6, hf⟩ := bd_s hf
    refine vv_iincE (q := 2061) (v := z6) (c := 6) (L' := [some (.ref w.2.2.2.2.1), some (.ref a1), some (.ref a2), some (.int z6)]) e_z6 dL_law_2058 rfl rfl (by decide) (Nat.le_of_ble_eq_true rfl) rfl ?_
    refine vv_goto 18 dL_law_2061 (by decide) ?_
    exact hk18 _ _ _ _ _ _ t_a1 t_a2 (Nat.le_succ _) (Nat.le_add_right _ _) hf
  · rw [if_neg c5] at hf
    refine vv_iconst 2021 (v := 0) dL_law_2020 rfl (by decide) ?_
    exact absurd (Option.some.inj hf) (by decide)

set_option maxHeartbeats 4000000 in
theorem v_L_law_2022 {w : Wo} {K : Kn} {cl sl : Nat} (hcl : cl + 1 ≤ 600000) (hsl : sl + 5 ≤ 7302250) (k18 : Mem → Nat → Nat → Int32 → Option Int32) (hk18 : ∀ (m : Mem) (a1 : Nat) (a2 : Nat) (x3 : Int32) (cl2 sl2 : Nat), K a1 = some (.inl 7) → K a2 = some (.inl 8) → cl2 ≤ cl + 1 → sl2 ≤ sl + 5 → k18 m a1 a2 x3 = some 1 → VV w RL cL_law 4 (some .boolean) room_1 false (QL w) K 18 [some (.ref w.2.2.2.2.1), some (.ref a1), some (.ref a2), some (.int x3)] [] cl2 sl2 m) {m : Mem} {a1 : Nat} {a2 : Nat} {x3 : Int32} (t_a1 : K a1 = some (.inl 7)) (t_a2 : K a2 = some (.inl 8)) (hf : f_L_law_2022 K w.2.2.2.2.2.1 w.2.2.2.2.2.2 k18 m a1 a2 x3 = some 1) : VV w RL cL_law 4 (some .boolean) room_1 false (QL w) K 2022 [some (.ref w.2.2.2.2.1), some (.ref a1), some (.ref a2), some (.int x3)] [] cl sl m := by
  unfold f_L_law_2022 at hf
  refine vv_aload_n 2023 dL_law_2022 rfl rfl ?_
  refine vv_aload_n 2024 dL_law_2023 rfl rfl ?_
  refine vv_iload_n 2025 dL_law_2024 rfl rfl ?_
  refine vv_iconst 2026 (v := 1) dL_law_2025 rfl (by decide) ?_
  refine vv_iadd 2027 dL_law_2026 rfl ?_
  obtain ⟨h1, hf⟩ := gd_s hf
  refine vv_scr 2028 dL_law_2027 rfl h1 ?_
  obtain ⟨q2, g_q2, hf⟩ := bind_s hf
  refine vv_callV 2031 (st := []) (As := [.int (w.2.2.2.2.2.2 (x3 + (1 : Int32)).toNatClampNeg)]) (stk2 := [.int q2.1]) (cl2 := cl) (sl2 := sl) dL_law_2028 rfl lk_RL_198 w_615 w_616 rfl t_a1 ⟨(Nat.le_of_ble_eq_true rfl), (Nat.le_of_ble_eq_true rfl)⟩ rfl rfl ⟨Nat.le_trans (Nat.add_le_add_left (by decide) _) hcl, Nat.le_trans (Nat.add_le_add_left (by decide) _) hsl⟩ rfl (Nat.le_of_ble_eq_true rfl) rfl rfl rfl rfl (c_X8_takes t_a1 g_q2) ?_
  refine vv_aload_n 2032 dL_law_2031 rfl rfl ?_
  refine vv_aload_n 2033 dL_law_2032 rfl rfl ?_
  refine vv_iload_n 2034 dL_law_2033 rfl rfl ?_
  refine vv_iconst 2035 (v := 1) dL_law_2034 rfl (by decide) ?_
  refine vv_iadd 2036 dL_law_2035 rfl ?_
  obtain ⟨h3, hf⟩ := gd_s hf
  refine vv_scr 2037 dL_law_2036 rfl h3 ?_
  obtain ⟨q4, g_q4, hf⟩ := bind_s hf
  refine vv_callV 2040 (st := [.int q2.1]) (As := [.int (w.2.2.2.2.2.2 (x3 + (1 : Int32)).toNatClampNeg)]) (stk2 := [.int q4.1, .int q2.1]) (cl2 := cl) (sl2 := sl) dL_law_2037 rfl lk_RL_201 w_1625 w_1626 rfl t_a2 ⟨(Nat.le_of_ble_eq_true rfl), (Nat.le_of_ble_eq_true rfl)⟩ rfl rfl ⟨Nat.le_trans (Nat.add_le_add_left (by decide) _) hcl, Nat.le_trans (Nat.add_le_add_left (by decide) _) hsl⟩ rfl (Nat.le_of_ble_eq_true rfl) rfl rfl rfl rfl (c_X9_takes t_a2 g_q4) ?_
  refine vv_icmp_eq 2058 2043 dL_law_2040 rfl (by decide) (fun c5 => ?_) (fun c5 => ?_)
  · rw [if_pos c5] at hf
    obtain ⟨z6, e_z6, hf⟩ := bd_s hf
    refine vv_iincE (q := 2061) (v := z6) (c := 6) (L' := [some (.ref w.2.2.2.2.1), some (.ref a1), some (.ref a2), some (.int z6)]) e_z6 dL_law_2058 rfl rfl (by decide) (Nat.le_of_ble_eq_true rfl) rfl ?_
    refine vv_goto 18 dL_law_2061 (by decide) ?_
    exact hk18 _ _ _ _ _ _ t_a1 t_a2 (Nat.le_succ _) (Nat.le_add_right _ _) hf
  · rw [if_neg c5] at hf
    refine vv_iconst 2044 (v := 0) dL_law_2043 rfl (by decide) ?_
    exact absurd (Option.some.inj hf) (by decide)

set_option maxHeartbeats 4000000 in
theorem v_L_law_2045 {w : Wo} {K : Kn} {cl sl : Nat} (hcl : cl + 1 ≤ 600000) (hsl : sl + 5 ≤ 7302250) (k18 : Mem → Nat → Nat → Int32 → Option Int32) (hk18 : ∀ (m : Mem) (a1 : Nat) (a2 : Nat) (x3 : Int32) (cl2 sl2 : Nat), K a1 = some (.inl 7) → K a2 = some (.inl 8) → cl2 ≤ cl + 1 → sl2 ≤ sl + 5 → k18 m a1 a2 x3 = some 1 → VV w RL cL_law 4 (some .boolean) room_1 false (QL w) K 18 [some (.ref w.2.2.2.2.1), some (.ref a1), some (.ref a2), some (.int x3)] [] cl2 sl2 m) {m : Mem} {a1 : Nat} {a2 : Nat} {x3 : Int32} (t_a1 : K a1 = some (.inl 7)) (t_a2 : K a2 = some (.inl 8)) (hf : f_L_law_2045 K w.2.2.2.2.2.1 w.2.2.2.2.2.2 k18 m a1 a2 x3 = some 1) : VV w RL cL_law 4 (some .boolean) room_1 false (QL w) K 2045 [some (.ref w.2.2.2.2.1), some (.ref a1), some (.ref a2), some (.int x3)] [] cl sl m := by
  unfold f_L_law_2045 at hf
  refine vv_aload_n 2046 dL_law_2045 rfl rfl ?_
  obtain ⟨q1, g_q1, hf⟩ := bind_s hf
  refine vv_callV 2049 (st := []) (As := []) (stk2 := [.int q1]) (cl2 := cl) (sl2 := sl) dL_law_2046 rfl lk_RL_202 w_611 w_612 rfl t_a1 ⟨(Nat.le_of_ble_eq_true rfl), (Nat.le_of_ble_eq_true rfl)⟩ rfl rfl ⟨Nat.le_trans (Nat.add_le_add_left (by decide) _) hcl, Nat.le_trans (Nat.add_le_add_left (by decide) _) hsl⟩ rfl (Nat.le_of_ble_eq_true rfl) rfl rfl rfl rfl (c_X8_taped t_a1 g_q1) ?_
  refine vv_aload_n 2050 dL_law_2049 rfl rfl ?_
  obtain ⟨q2, g_q2, hf⟩ := bind_s hf
  refine vv_callV 2053 (st := [.int q1]) (As := []) (stk2 := [.int q2, .int q1]) (cl2 := cl) (sl2 := sl) dL_law_2050 rfl lk_RL_206 w_1621 w_1622 rfl t_a2 ⟨(Nat.le_of_ble_eq_true rfl), (Nat.le_of_ble_eq_true rfl)⟩ rfl rfl ⟨Nat.le_trans (Nat.add_le_add_left (by decide) _) hcl, Nat.le_trans (Nat.add_le_add_left (by decide) _) hsl⟩ rfl (Nat.le_of_ble_eq_true rfl) rfl rfl rfl rfl (c_X9_taped t_a2 g_q2) ?_
  refine vv_icmp_eq 2058 2056 dL_law_2053 rfl (by decide) (fun c3 => ?_) (fun c3 => ?_)
  · rw [if_pos c3] at hf
    obtain ⟨z4, e_z4, hf⟩ := bd_s hf
    refine vv_iincE (q := 2061) (v := z4) (c := 6) (L' := [some (.ref w.2.2.2.2.1), some (.ref a1), some (.ref a2), some (.int z4)]) e_z4 dL_law_2058 rfl rfl (by decide) (Nat.le_of_ble_eq_true rfl) rfl ?_
    refine vv_goto 18 dL_law_2061 (by decide) ?_
    exact hk18 _ _ _ _ _ _ t_a1 t_a2 (Nat.le_succ _) (Nat.le_add_right _ _) hf
  · rw [if_neg c3] at hf
    refine vv_iconst 2057 (v := 0) dL_law_2056 rfl (by decide) ?_
    exact absurd (Option.some.inj hf) (by decide)

set_option maxHeartbeats 4000000 in
theorem v_L_law_18B {w : Wo} {K : Kn} {cl sl : Nat} (hcl : cl + 1 ≤ 600000) (hsl : sl + 5 ≤ 7302250) (k18 : Mem → Nat → Nat → Int32 → Option Int32) (hk18 : ∀ (m : Mem) (a1 : Nat) (a2 : Nat) (x3 : Int32) (cl2 sl2 : Nat), K a1 = some (.inl 7) → K a2 = some (.inl 8) → cl2 ≤ cl + 1 → sl2 ≤ sl + 5 → k18 m a1 a2 x3 = some 1 → VV w RL cL_law 4 (some .boolean) room_1 false (QL w) K 18 [some (.ref w.2.2.2.2.1), some (.ref a1), some (.ref a2), some (.int x3)] [] cl2 sl2 m) {m : Mem} {a1 : Nat} {a2 : Nat} {x3 : Int32} (t_a1 : K a1 = some (.inl 7)) (t_a2 : K a2 = some (.inl 8)) (hf : f_L_law_18B K w.2.2.2.2.2.1 w.2.2.2.2.2.2 k18 m a1 a2 x3 = some 1) : VV w RL cL_law 4 (some .boolean) room_1 false (QL w) K 18 [some (.ref w.2.2.2.2.1), some (.ref a1), some (.ref a2), some (.int x3)] [] cl sl m := by
  unfold f_L_law_18B at hf
  refine vv_iload_n 19 dL_law_18 rfl rfl ?_
  refine vv_aload_n 20 dL_law_19 rfl rfl ?_
  refine vv_scl 21 dL_law_20 rfl ?_
  refine vv_bipush 23 (v := 6) dL_law_21 rfl (by decide) ?_
  refine vv_isub 24 dL_law_23 rfl ?_
  refine vv_icmp_gt 2064 27 dL_law_24 rfl (by decide) (fun c1 => ?_) (fun c1 => ?_)
  · rw [if_pos c1] at hf
    refine vv_iconst 2065 (v := 1) dL_law_2064 rfl (by decide) ?_
    exact vv_lawret (Nat.le_of_succ_le hcl) (Nat.le_trans (Nat.le_add_right _ _) hsl) dL_law_2065
  · rw [if_neg c1] at hf
    refine vv_aload_n 28 dL_law_27 rfl rfl ?_
    refine vv_iload_n 29 dL_law_28 rfl rfl ?_
    obtain ⟨h2, hf⟩ := gd_s hf
    refine vv_scr 30 dL_law_29 rfl h2 ?_
    refine vv_bipush 32 (v := 63) dL_law_30 rfl (by decide) ?_
    refine vv_iand 33 dL_law_32 rfl ?_
    by_cases c3 : (w.2.2.2.2.2.2 (x3).toNatClampNeg) &&& (63 : Int32) = 0
    · rw [if_pos c3] at hf
      refine vv_tabK 228 (k := 0) c3 dL_law_33 (by decide) (by decide) (off := 195) rfl (by decide) ?_
      exact v_L_law_228 hcl hsl k18 hk18 t_a1 t_a2 hf
    rw [if_neg c3] at hf
    by_cases c4 : (w.2.2.2.2.2.2 (x3).toNatClampNeg) &&& (63 : Int32) = 1
    · rw [if_pos c4] at hf
      refine vv_tabK 261 (k := 1) c4 dL_law_33 (by decide) (by decide) (off := 228) rfl (by decide) ?_
      exact v_L_law_261 hcl hsl k18 hk18 t_a1 t_a2 hf
    rw [if_neg c4] at hf
    by_cases c5 : (w.2.2.2.2.2.2 (x3).toNatClampNeg) &&& (63 : Int32) = 2
    · rw [if_pos c5] at hf
      refine vv_tabK 334 (k := 2) c5 dL_law_33 (by decide) (by decide) (off := 301) rfl (by decide) ?_
      exact v_L_law_334 hcl hsl k18 hk18 t_a1 t_a2 hf
    rw [if_neg c5] at hf
    by_cases c6 : (w.2.2.2.2.2.2 (x3).toNatClampNeg) &&& (63 : Int32) = 3
    · rw [if_pos c6] at hf
      refine vv_tabK 407 (k := 3) c6 dL_law_33 (by decide) (by decide) (off := 374) rfl (by decide) ?_
      exact v_L_law_407 hcl hsl k18 hk18 t_a1 t_a2 hf
    rw [if_neg c6] at hf
    by_cases c7 : (w.2.2.2.2.2.2 (x3).toNatClampNeg) &&& (63 : Int32) = 4
    · rw [if_pos c7] at hf
      refine vv_tabK 480 (k := 4) c7 dL_law_33 (by decide) (by decide) (off := 447) rfl (by decide) ?_
      exact v_L_law_480 hcl hsl k18 hk18 t_a1 t_a2 hf
    rw [if_neg c7] at hf
    by_cases c8 : (w.2.2.2.2.2.2 (x3).toNatClampNeg) &&& (63 : Int32) = 5
    · rw [if_pos c8] at hf
      refine vv_tabK 503 (k := 5) c8 dL_law_33 (by decide) (by decide) (off := 470) rfl (by decide) ?_
      exact v_L_law_503 hcl hsl k18 hk18 t_a1 t_a2 hf
    rw [if_neg c8] at hf
    by_cases c9 : (w.2.2.2.2.2.2 (x3).toNatClampNeg) &&& (63 : Int32) = 6
    · rw [if_pos c9] at hf
      refine vv_tabK 536 (k := 6) c9 dL_law_33 (by decide) (by decide) (off := 503) rfl (by decide) ?_
      exact v_L_law_536 hcl hsl k18 hk18 t_a1 t_a2 hf
    rw [if_neg c9] at hf
    by_cases c10 : (w.2.2.2.2.2.2 (x3).toNatClampNeg) &&& (63 : Int32) = 7
    · rw [if_pos c10] at hf
      refine vv_tabK 579 (k := 7) c10 dL_law_33 (by decide) (by decide) (off := 546) rfl (by decide) ?_
      exact v_L_law_579 hcl hsl k18 hk18 t_a1 t_a2 hf
    rw [if_neg c10] at hf
    by_cases c11 : (w.2.2.2.2.2.2 (x3).toNatClampNeg) &&& (63 : Int32) = 8
    · rw [if_pos c11] at hf
      refine vv_tabK 622 (k := 8) c11 dL_law_33 (by decide) (by decide) (off := 589) rfl (by decide) ?_
      exact v_L_law_622 hcl hsl k18 hk18 t_a1 t_a2 hf
    rw [if_neg c11] at hf
    by_cases c12 : (w.2.2.2.2.2.2 (x3).toNatClampNeg) &&& (63 : Int32) = 9
    · rw [if_pos c12] at hf
      refine vv_tabK 665 (k := 9) c12 dL_law_33 (by decide) (by decide) (off := 632) rfl (by decide) ?_
      exact v_L_law_665 hcl hsl k18 hk18 t_a1 t_a2 hf
    rw [if_neg c12] at hf
    by_cases c13 : (w.2.2.2.2.2.2 (x3).toNatClampNeg) &&& (63 : Int32) = 10
    · rw [if_pos c13] at hf
      refine vv_tabK 718 (k := 10) c13 dL_law_33 (by decide) (by decide) (off := 685) rfl (by decide) ?_
      exact v_L_law_718 hcl hsl k18 hk18 t_a1 t_a2 hf
    rw [if_neg c13] at hf
    by_cases c14 : (w.2.2.2.2.2.2 (x3).toNatClampNeg) &&& (63 : Int32) = 11
    · rw [if_pos c14] at hf
      refine vv_tabK 751 (k := 11) c14 dL_law_33 (by decide) (by decide) (off := 718) rfl (by decide) ?_
      exact v_L_law_751 hcl hsl k18 hk18 t_a1 t_a2 hf
    rw [if_neg c14] at hf
    by_cases c15 : (w.2.2.2.2.2.2 (x3).toNatClampNeg) &&& (63 : Int32) = 12
    · rw [if_pos c15] at hf
      refine vv_tabK 785 (k := 12) c15 dL_law_33 (by decide) (by decide) (off := 752) rfl (by decide) ?_
      exact v_L_law_785 hcl hsl k18 hk18 t_a1 t_a2 hf
    rw [if_neg c15] at hf
    by_cases c16 : (w.2.2.2.2.2.2 (x3).toNatClampNeg) &&& (63 : Int32) = 13
    · rw [if_pos c16] at hf
      refine vv_tabK 818 (k := 13) c16 dL_law_33 (by decide) (by decide) (off := 785) rfl (by decide) ?_
      exact v_L_law_818 hcl hsl k18 hk18 t_a1 t_a2 hf
    rw [if_neg c16] at hf
    by_cases c17 : (w.2.2.2.2.2.2 (x3).toNatClampNeg) &&& (63 : Int32) = 14
    · rw [if_pos c17] at hf
      refine vv_tabK 862 (k := 14) c17 dL_law_33 (by decide) (by decide) (off := 829) rfl (by decide) ?_
      exact v_L_law_862 hcl hsl k18 hk18 t_a1 t_a2 hf
    rw [if_neg c17] at hf
    by_cases c18 : (w.2.2.2.2.2.2 (x3).toNatClampNeg) &&& (63 : Int32) = 15
    · rw [if_pos c18] at hf
      refine vv_tabK 915 (k := 15) c18 dL_law_33 (by decide) (by decide) (off := 882) rfl (by decide) ?_
      exact v_L_law_915 hcl hsl k18 hk18 t_a1 t_a2 hf
    rw [if_neg c18] at hf
    by_cases c19 : (w.2.2.2.2.2.2 (x3).toNatClampNeg) &&& (63 : Int32) = 16
    · rw [if_pos c19] at hf
      refine vv_tabK 969 (k := 16) c19 dL_law_33 (by decide) (by decide) (off := 936) rfl (by decide) ?_
      exact v_L_law_969 hcl hsl k18 hk18 t_a1 t_a2 hf
    rw [if_neg c19] at hf
    by_cases c20 : (w.2.2.2.2.2.2 (x3).toNatClampNeg) &&& (63 : Int32) = 17
    · rw [if_pos c20] at hf
      refine vv_tabK 1052 (k := 17) c20 dL_law_33 (by decide) (by decide) (off := 1019) rfl (by decide) ?_
      exact v_L_law_1052 hcl hsl k18 hk18 t_a1 t_a2 hf
    rw [if_neg c20] at hf
    by_cases c21 : (w.2.2.2.2.2.2 (x3).toNatClampNeg) &&& (63 : Int32) = 18
    · rw [if_pos c21] at hf
      refine vv_tabK 1085 (k := 18) c21 dL_law_33 (by decide) (by decide) (off := 1052) rfl (by decide) ?_
      exact v_L_law_1085 hcl hsl k18 hk18 t_a1 t_a2 hf
    rw [if_neg c21] at hf
    by_cases c22 : (w.2.2.2.2.2.2 (x3).toNatClampNeg) &&& (63 : Int32) = 19
    · rw [if_pos c22] at hf
      refine vv_tabK 1118 (k := 19) c22 dL_law_33 (by decide) (by decide) (off := 1085) rfl (by decide) ?_
      exact v_L_law_1118 hcl hsl k18 hk18 t_a1 t_a2 hf
    rw [if_neg c22] at hf
    by_cases c23 : (w.2.2.2.2.2.2 (x3).toNatClampNeg) &&& (63 : Int32) = 20
    · rw [if_pos c23] at hf
      refine vv_tabK 1151 (k := 20) c23 dL_law_33 (by decide) (by decide) (off := 1118) rfl (by decide) ?_
      exact v_L_law_1151 hcl hsl k18 hk18 t_a1 t_a2 hf
    rw [if_neg c23] at hf
    by_cases c24 : (w.2.2.2.2.2.2 (x3).toNatClampNeg) &&& (63 : Int32) = 21
    · rw [if_pos c24] at hf
      refine vv_tabK 1184 (k := 21) c24 dL_law_33 (by decide) (by decide) (off := 1151) rfl (by decide) ?_
      exact v_L_law_1184 hcl hsl k18 hk18 t_a1 t_a2 hf
    rw [if_neg c24] at hf
    by_cases c25 : (w.2.2.2.2.2.2 (x3).toNatClampNeg) &&& (63 : Int32) = 22
    · rw [if_pos c25] at hf
      refine vv_tabK 1227 (k := 22) c25 dL_law_33 (by decide) (by decide) (off := 1194) rfl (by decide) ?_
      exact v_L_law_1227 hcl hsl k18 hk18 t_a1 t_a2 hf
    rw [if_neg c25] at hf
    by_cases c26 : (w.2.2.2.2.2.2 (x3).toNatClampNeg) &&& (63 : Int32) = 23
    · rw [if_pos c26] at hf
      refine vv_tabK 1260 (k := 23) c26 dL_law_33 (by decide) (by decide) (off := 1227) rfl (by decide) ?_
      exact v_L_law_1260 hcl hsl k18 hk18 t_a1 t_a2 hf
    rw [if_neg c26] at hf
    by_cases c27 : (w.2.2.2.2.2.2 (x3).toNatClampNeg) &&& (63 : Int32) = 24
    · rw [if_pos c27] at hf
      refine vv_tabK 1283 (k := 24) c27 dL_law_33 (by decide) (by decide) (off := 1250) rfl (by decide) ?_
      exact v_L_law_1283 hcl hsl k18 hk18 t_a1 t_a2 hf
    rw [if_neg c27] at hf
    by_cases c28 : (w.2.2.2.2.2.2 (x3).toNatClampNeg) &&& (63 : Int32) = 25
    · rw [if_pos c28] at hf
      refine vv_tabK 1316 (k := 25) c28 dL_law_33 (by decide) (by decide) (off := 1283) rfl (by decide) ?_
      exact v_L_law_1316 hcl hsl k18 hk18 t_a1 t_a2 hf
    rw [if_neg c28] at hf
    by_cases c29 : (w.2.2.2.2.2.2 (x3).toNatClampNeg) &&& (63 : Int32) = 26
    · rw [if_pos c29] at hf
      refine vv_tabK 1349 (k := 26) c29 dL_law_33 (by decide) (by decide) (off := 1316) rfl (by decide) ?_
      exact v_L_law_1349 hcl hsl k18 hk18 t_a1 t_a2 hf
    rw [if_neg c29] at hf
    by_cases c30 : (w.2.2.2.2.2.2 (x3).toNatClampNeg) &&& (63 : Int32) = 27
    · rw [if_pos c30] at hf
      refine vv_tabK 1392 (k := 27) c30 dL_law_33 (by decide) (by decide) (off := 1359) rfl (by decide) ?_
      exact v_L_law_1392 hcl hsl k18 hk18 t_a1 t_a2 hf
    rw [if_neg c30] at hf
    by_cases c31 : (w.2.2.2.2.2.2 (x3).toNatClampNeg) &&& (63 : Int32) = 28
    · rw [if_pos c31] at hf
      refine vv_tabK 1435 (k := 28) c31 dL_law_33 (by decide) (by decide) (off := 1402) rfl (by decide) ?_
      exact v_L_law_1435 hcl hsl k18 hk18 t_a1 t_a2 hf
    rw [if_neg c31] at hf
    by_cases c32 : (w.2.2.2.2.2.2 (x3).toNatClampNeg) &&& (63 : Int32) = 29
    · rw [if_pos c32] at hf
      refine vv_tabK 1468 (k := 29) c32 dL_law_33 (by decide) (by decide) (off := 1435) rfl (by decide) ?_
      exact v_L_law_1468 hcl hsl k18 hk18 t_a1 t_a2 hf
    rw [if_neg c32] at hf
    by_cases c33 : (w.2.2.2.2.2.2 (x3).toNatClampNeg) &&& (63 : Int32) = 30
    · rw [if_pos c33] at hf
      refine vv_tabK 1501 (k := 30) c33 dL_law_33 (by decide) (by decide) (off := 1468) rfl (by decide) ?_
      exact v_L_law_1501 hcl hsl k18 hk18 t_a1 t_a2 hf
    rw [if_neg c33] at hf
    by_cases c34 : (w.2.2.2.2.2.2 (x3).toNatClampNeg) &&& (63 : Int32) = 31
    · rw [if_pos c34] at hf
      refine vv_tabK 1534 (k := 31) c34 dL_law_33 (by decide) (by decide) (off := 1501) rfl (by decide) ?_
      exact v_L_law_1534 hcl hsl k18 hk18 t_a1 t_a2 hf
    rw [if_neg c34] at hf
    by_cases c35 : (w.2.2.2.2.2.2 (x3).toNatClampNeg) &&& (63 : Int32) = 32
    · rw [if_pos c35] at hf
      refine vv_tabK 1567 (k := 32) c35 dL_law_33 (by decide) (by decide) (off := 1534) rfl (by decide) ?_
      exact v_L_law_1567 hcl hsl k18 hk18 t_a1 t_a2 hf
    rw [if_neg c35] at hf
    by_cases c36 : (w.2.2.2.2.2.2 (x3).toNatClampNeg) &&& (63 : Int32) = 33
    · rw [if_pos c36] at hf
      refine vv_tabK 1600 (k := 33) c36 dL_law_33 (by decide) (by decide) (off := 1567) rfl (by decide) ?_
      exact v_L_law_1600 hcl hsl k18 hk18 t_a1 t_a2 hf
    rw [if_neg c36] at hf
    by_cases c37 : (w.2.2.2.2.2.2 (x3).toNatClampNeg) &&& (63 : Int32) = 34
    · rw [if_pos c37] at hf
      refine vv_tabK 1633 (k := 34) c37 dL_law_33 (by decide) (by decide) (off := 1600) rfl (by decide) ?_
      exact v_L_law_1633 hcl hsl k18 hk18 t_a1 t_a2 hf
    rw [if_neg c37] at hf
    by_cases c38 : (w.2.2.2.2.2.2 (x3).toNatClampNeg) &&& (63 : Int32) = 35
    · rw [if_pos c38] at hf
      refine vv_tabK 1686 (k := 35) c38 dL_law_33 (by decide) (by decide) (off := 1653) rfl (by decide) ?_
      exact v_L_law_1686 hcl hsl k18 hk18 t_a1 t_a2 hf
    rw [if_neg c38] at hf
    by_cases c39 : (w.2.2.2.2.2.2 (x3).toNatClampNeg) &&& (63 : Int32) = 36
    · rw [if_pos c39] at hf
      refine vv_tabK 1709 (k := 36) c39 dL_law_33 (by decide) (by decide) (off := 1676) rfl (by decide) ?_
      exact v_L_law_1709 hcl hsl k18 hk18 t_a1 t_a2 hf
    rw [if_neg c39] at hf
    by_cases c40 : (w.2.2.2.2.2.2 (x3).toNatClampNeg) &&& (63 : Int32) = 37
    · rw [if_pos c40] at hf
      refine vv_tabK 1742 (k := 37) c40 dL_law_33 (by decide) (by decide) (off := 1709) rfl (by decide) ?_
      exact v_L_law_1742 hcl hsl k18 hk18 t_a1 t_a2 hf
    rw [if_neg c40] at hf
    by_cases c41 : (w.2.2.2.2.2.2 (x3).toNatClampNeg) &&& (63 : Int32) = 38
    · rw [if_pos c41] at hf
      refine vv_tabK 1796 (k := 38) c41 dL_law_33 (by decide) (by decide) (off := 1763) rfl (by decide) ?_
      exact v_L_law_1796 hcl hsl k18 hk18 t_a1 t_a2 hf
    rw [if_neg c41] at hf
    by_cases c42 : (w.2.2.2.2.2.2 (x3).toNatClampNeg) &&& (63 : Int32) = 39
    · rw [if_pos c42] at hf
      refine vv_tabK 1859 (k := 39) c42 dL_law_33 (by decide) (by decide) (off := 1826) rfl (by decide) ?_
      exact v_L_law_1859 hcl hsl k18 hk18 t_a1 t_a2 hf
    rw [if_neg c42] at hf
    by_cases c43 : (w.2.2.2.2.2.2 (x3).toNatClampNeg) &&& (63 : Int32) = 40
    · rw [if_pos c43] at hf
      refine vv_tabK 1892 (k := 40) c43 dL_law_33 (by decide) (by decide) (off := 1859) rfl (by decide) ?_
      exact v_L_law_1892 hcl hsl k18 hk18 t_a1 t_a2 hf
    rw [if_neg c43] at hf
    by_cases c44 : (w.2.2.2.2.2.2 (x3).toNatClampNeg) &&& (63 : Int32) = 41
    · rw [if_pos c44] at hf
      refine vv_tabK 1936 (k := 41) c44 dL_law_33 (by decide) (by decide) (off := 1903) rfl (by decide) ?_
      exact v_L_law_1936 hcl hsl k18 hk18 t_a1 t_a2 hf
    rw [if_neg c44] at hf
    by_cases c45 : (w.2.2.2.2.2.2 (x3).toNatClampNeg) &&& (63 : Int32) = 42
    · rw [if_pos c45] at hf
      refine vv_tabK 1999 (k := 42) c45 dL_law_33 (by decide) (by decide) (off := 1966) rfl (by decide) ?_
      exact v_L_law_1999 hcl hsl k18 hk18 t_a1 t_a2 hf
    rw [if_neg c45] at hf
    by_cases c46 : (w.2.2.2.2.2.2 (x3).toNatClampNeg) &&& (63 : Int32) = 43
    · rw [if_pos c46] at hf
      refine vv_tabK 2022 (k := 43) c46 dL_law_33 (by decide) (by decide) (off := 1989) rfl (by decide) ?_
      exact v_L_law_2022 hcl hsl k18 hk18 t_a1 t_a2 hf
    rw [if_neg c46] at hf
    by_cases c47 : (w.2.2.2.2.2.2 (x3).toNatClampNeg) &&& (63 : Int32) = 44
    · rw [if_pos c47] at hf
      refine vv_tabK 2045 (k := 44) c47 dL_law_33 (by decide) (by decide) (off := 2012) rfl (by decide) ?_
      exact v_L_law_2045 hcl hsl k18 hk18 t_a1 t_a2 hf
    rw [if_neg c47] at hf
    refine vv_tabOut 2058 dL_law_33 (tab_out (n := 44) (by decide) (fun k hk => ?_)) (by decide) ?_
    · match k, hk with
      | 0, _ => exact c3
      | 1, _ => exact c4
      | 2, _ => exact c5
      | 3, _ => exact c6
      | 4, _ => exact c7
      | 5, _ => exact c8
      | 6, _ => exact c9
      | 7, _ => exact c10
      | 8, _ => exact c11
      | 9, _ => exact c12
      | 10, _ => exact c13
      | 11, _ => exact c14
      | 12, _ => exact c15
      | 13, _ => exact c16
      | 14, _ => exact c17
      | 15, _ => exact c18
      | 16, _ => exact c19
      | 17, _ => exact c20
      | 18, _ => exact c21
      | 19, _ => exact c22
      | 20, _ => exact c23
      | 21, _ => exact c24
      | 22, _ => exact c25
      | 23, _ => exact c26
      | 24, _ => exact c27
      | 25, _ => exact c28
      | 26, _ => exact c29
      | 27, _ => exact c30
      | 28, _ => exact c31
      | 29, _ => exact c32
      | 30, _ => exact c33
      | 31, _ => exact c34
      | 32, _ => exact c35
      | 33, _ => exact c36
      | 34, _ => exact c37
      | 35, _ => exact c38
      | 36, _ => exact c39
      | 37, _ => exact c40
      | 38, _ => exact c41
      | 39, _ => exact c42
      | 40, _ => exact c43
      | 41, _ => exact c44
      | 42, _ => exact c45
      | 43, _ => exact c46
      | 44, _ => exact c47
      | k + 45, hk => exact absurd hk (by omega)
    obtain ⟨z48, e_z48, hf⟩ := bd_s hf
    refine vv_iincE (q := 2061) (v := z48) (c := 6) (L' := [some (.ref w.2.2.2.2.1), some (.ref a1), some (.ref a2), some (.int z48)]) e_z48 dL_law_2058 rfl rfl (by decide) (Nat.le_of_ble_eq_true rfl) rfl ?_
    refine vv_goto 18 dL_law_2061 (by decide) ?_
    exact hk18 _ _ _ _ _ _ t_a1 t_a2 (Nat.le_succ _) (Nat.le_add_right _ _) hf

theorem v_L_law_18 {w : Wo} {K : Kn} : ∀ (n : Nat) (m : Mem) (a1 : Nat) (a2 : Nat) (x3 : Int32) (cl sl : Nat), K a1 = some (.inl 7) → K a2 = some (.inl 8) → cl + n ≤ 600000 → sl + 5 * n ≤ 7302250 → f_L_law_18 K w.2.2.2.2.2.1 w.2.2.2.2.2.2 n m a1 a2 x3 = some 1 → VV w RL cL_law 4 (some .boolean) room_1 false (QL w) K 18 [some (.ref w.2.2.2.2.1), some (.ref a1), some (.ref a2), some (.int x3)] [] cl sl m := by
  intro n
  induction n with
  | zero => intro m a1 a2 x3 cl sl t_a1 t_a2 h1 h2 hf; cases hf
  | succ n ih => intro m a1 a2 x3 cl sl t_a1 t_a2 h1 h2 hf; exact v_L_law_18B (by omega) (by omega) (f_L_law_18 K w.2.2.2.2.2.1 w.2.2.2.2.2.2 n) (fun m a1 a2 x3 cl2 sl2 u1 u2 u3 u4 hf => ih m a1 a2 x3 cl2 sl2 u1 u2 (by omega) (by omega) hf) t_a1 t_a2 hf

set_option maxHeartbeats 4000000 in
theorem v_L_law_0 {w : Wo} {K : Kn} {m : Mem} (hf : f_L_law K w.2.2.2.2.2.1 w.2.2.2.2.2.2 m = some 1) : VV w RL cL_law 4 (some .boolean) room_1 false (QL w) K 0 [some (.ref w.2.2.2.2.1), none, none, none] [] 0 0 m := by
  unfold f_L_law at hf
  obtain ⟨b1, e_b1, hf⟩ := bd_s hf
  obtain ⟨K2, e_K2, hf⟩ := bd_s hf
  obtain ⟨m3, e_m3, hf⟩ := bd_s hf
  refine vv_newE 3 (cl2 := 1) (sl2 := 9) e_b1 e_K2 e_m3 dL_law_0 rfl (ci := 7) rfl inX8 (by decide +kernel) (by decide) w_78 w_79 w_63 (Nat.le_of_ble_eq_true rfl) (Nat.le_of_ble_eq_true rfl) rfl rfl (fun t_b1 => ?_)
  refine vv_dup 4 dL_law_3 rfl rfl ?_
  obtain ⟨q4, g_q4, hf⟩ := bind_s hf
  refine vv_callI 7 (st := [.ref b1]) (As := []) (stk2 := [.ref b1]) (cl2 := 205) (sl2 := 64655) dL_law_4 rfl lk_RL_9 w_81 rfl ⟨(Nat.le_of_ble_eq_true rfl), (Nat.le_of_ble_eq_true rfl)⟩ rfl rfl ⟨(Nat.le_of_ble_eq_true rfl), (Nat.le_of_ble_eq_true rfl)⟩ rfl (Nat.le_of_ble_eq_true rfl) rfl rfl rfl rfl (c_X8_init t_b1 g_q4) ?_
  have t_5 := e_X8_init g_q4 _ _ t_b1
  refine vv_astore_n 8 (L' := [some (.ref w.2.2.2.2.1), some (.ref b1), none, none]) dL_law_7 rfl (Nat.le_of_ble_eq_true rfl) rfl ?_
  obtain ⟨b6, e_b6, hf⟩ := bd_s hf
  obtain ⟨K7, e_K7, hf⟩ := bd_s hf
  obtain ⟨m8, e_m8, hf⟩ := bd_s hf
  refine vv_newE 11 (cl2 := 206) (sl2 := 64696) e_b6 e_K7 e_m8 dL_law_8 rfl (ci := 8) rfl inX9 (by decide +kernel) (by decide) w_1069 w_1070 w_71 (Nat.le_of_ble_eq_true rfl) (Nat.le_of_ble_eq_true rfl) rfl rfl (fun t_b6 => ?_)
  have t_9 := upK_oldE e_K7 t_5
  refine vv_dup 12 dL_law_11 rfl rfl ?_
  obtain ⟨q10, g_q10, hf⟩ := bind_s hf
  refine vv_callI 15 (st := [.ref b6]) (As := []) (stk2 := [.ref b6]) (cl2 := 229) (sl2 := 145716) dL_law_12 rfl lk_RL_12 w_1072 rfl ⟨(Nat.le_of_ble_eq_true rfl), (Nat.le_of_ble_eq_true rfl)⟩ rfl rfl ⟨(Nat.le_of_ble_eq_true rfl), (Nat.le_of_ble_eq_true rfl)⟩ rfl (Nat.le_of_ble_eq_true rfl) rfl rfl rfl rfl (c_X9_init t_b6 g_q10) ?_
  have t_11 := e_X9_init g_q10 _ _ t_9
  have t_12 := e_X9_init g_q10 _ _ t_b6
  refine vv_astore_n 16 (L' := [some (.ref w.2.2.2.2.1), some (.ref b1), some (.ref b6), none]) dL_law_15 rfl (Nat.le_of_ble_eq_true rfl) rfl ?_
  refine vv_iconst 17 (v := 0) dL_law_16 rfl (by decide) ?_
  refine vv_istore_n 18 (L' := [some (.ref w.2.2.2.2.1), some (.ref b1), some (.ref b6), some (.int (0 : Int32))]) dL_law_17 rfl (Nat.le_of_ble_eq_true rfl) rfl ?_
  exact v_L_law_18 513 _ _ _ _ _ _ t_11 t_12 (by decide) (by decide) hf
