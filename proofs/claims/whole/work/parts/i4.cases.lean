/-! Written by wip/whole/gen/lawcases.py. The law's calls. -/
theorem qn_1939 : Cond.constantLong "WhoRulesLaw" 156 4294967295 ∈ ALL := all_in 1939 (by decide +kernel) rfl
set_option maxHeartbeats 4000000 in
set_option maxRecDepth 100000 in
theorem lc_pass {X : Cx} {w wR : Wd} {M N : Mm} {a b c i z : Nat} {xv : Nat → Int32} (B : BL X) (I : LIw X w wR) (R : RI X wR) (S : LwS X b z xv) (n : Nat) (hn : 70000 ≤ n) (hL : z ≤ 3072) (hi : i + 6 ≤ z) (hr : a ≤ 600000 ∧ c ≤ 7302250) (hJ : J M N) (next : ∀ M9 N9 : Mm, J M9 N9 → LJ LR (xInc X a c) w wR M9 N9 (lvL b (wa w 0) (wa wR 0) i) [] 1562) : LJ LR (xInc X a c) w wR M N (lvL b (wa w 0) (wa wR 0) i) [] 196 := by
  obtain ⟨r, M9, N9, e1, e2, hJ9⟩ := q_pass n (xv (i + 1)).toInt (inR_toInt _) hJ
  have G := gl_C B I hr
  have GR := gl_R B R hr
  refine lj_aload_n G (p9 := 1) d_law_196 rfl rfl ?_
  refine lj_arg G (k := 1) S hL (by omega) rfl ⟨rfl, rfl, rfl, rfl, rfl⟩ d_law_197 d_law_198 d_law_199 d_law_200 d_law_201 ?_
  refine lj_callC G I.2.2.2.2 (fun _ => trivial) (ct_W_pass I.1 n (xv (i + 1)).toInt (inR_toInt _) e1) rfl q_487 cq_W_pass rfl (by decide) (Nat.le_of_ble_eq_true rfl) d_law_202 rfl (fun hr1 => ?_)
  refine lj_aload_n G (p9 := 2) d_law_205 rfl rfl ?_
  refine lj_arg G (k := 1) S hL (by omega) rfl ⟨rfl, rfl, rfl, rfl, rfl⟩ d_law_206 d_law_207 d_law_208 d_law_209 d_law_210 ?_
  refine lj_callR GR I.2.2.2.2 (ct_m_pass R.1 n (xv (i + 1)).toInt (inR_toInt _) e2) rfl q_1539 cq_m_pass rfl (by decide) (Nat.le_of_ble_eq_true rfl) d_law_211 rfl (fun hr2 => ?_)
  exact lj_icmp_eq G (tgt := 1562) d_law_214 (by decide) hr1 hr1 (fun _ => next _ _ hJ9) (fun h => absurd rfl h)
set_option maxHeartbeats 4000000 in
set_option maxRecDepth 100000 in
theorem lc_holder {X : Cx} {w wR : Wd} {M N : Mm} {a b c i z : Nat} {xv : Nat → Int32} (B : BL X) (I : LIw X w wR) (R : RI X wR) (S : LwS X b z xv) (n : Nat) (hn : 70000 ≤ n) (hL : z ≤ 3072) (hi : i + 6 ≤ z) (hr : a ≤ 600000 ∧ c ≤ 7302250) (hr3 : a + 1 ≤ 600000 ∧ c + 3 ≤ 7302250) (hJ : J M N) (next : ∀ (w2 : Wd) (M9 N9 : Mm), LIw X w2 wR → wa w2 0 = wa w 0 → J M9 N9 → LJ LR (xInc X (a + 1) (c + 3)) w2 wR M9 N9 (lvL b (wa w2 0) (wa wR 0) i) [] 1562) : LJ LR (xInc X a c) w wR M N (lvL b (wa w 0) (wa wR 0) i) [] 219 := by
  obtain ⟨r, M9, N9, e1, e2, hJ9⟩ := q_holder n (by omega) (xv (i + 1)).toInt (xv (i + 2)).toInt hJ
  have G := gl_C B I hr
  have GR := gl_R B R hr
  refine lj_aload_n G (p9 := 1) d_law_219 rfl rfl ?_
  refine lj_arg G (k := 1) S hL (by omega) rfl ⟨rfl, rfl, rfl, rfl, rfl⟩ d_law_220 d_law_221 d_law_222 d_law_223 d_law_224 ?_
  refine lj_arg G (k := 2) S hL (by omega) rfl ⟨rfl, rfl, rfl, rfl, rfl⟩ d_law_225 d_law_226 d_law_227 d_law_228 d_law_229 ?_
  refine lj_callHo B I (fun w6 h6 => ct_W_holder h6 n (xv (i + 1)).toInt (xv (i + 2)).toInt (inR_toInt _) (inR_toInt _) e1) rfl q_491 cq_W_holder rfl (by decide) ⟨by omega, by omega⟩ (Nat.le_of_ble_eq_true rfl) d_law_230 rfl (fun hr1 w2 I2 hw0 => ?_)
  have G2 := gl_C B I2 (a := a + 1) (b := c + 3) ⟨by omega, by omega⟩
  have GR2 := gl_R B R (a := a + 1) (b := c + 3) ⟨by omega, by omega⟩
  rw [← hw0]
  refine lj_aload_n G2 (p9 := 2) d_law_233 rfl rfl ?_
  refine lj_arg G2 (k := 1) S hL (by omega) rfl ⟨rfl, rfl, rfl, rfl, rfl⟩ d_law_234 d_law_235 d_law_236 d_law_237 d_law_238 ?_
  refine lj_arg G2 (k := 2) S hL (by omega) rfl ⟨rfl, rfl, rfl, rfl, rfl⟩ d_law_239 d_law_240 d_law_241 d_law_242 d_law_243 ?_
  refine lj_callR GR2 I2.2.2.2.2 (ct_m_holder R.1 n (xv (i + 1)).toInt (xv (i + 2)).toInt (inR_toInt _) (inR_toInt _) e2) rfl q_1547 cq_m_holder rfl (by decide) (Nat.le_of_ble_eq_true rfl) d_law_244 rfl (fun hr2 => ?_)
  exact lj_icmp_eq G2 (tgt := 1562) d_law_247 (by decide) hr1 hr1 (fun _ => next _ _ _ I2 hw0 hJ9) (fun h => absurd rfl h)
set_option maxHeartbeats 4000000 in
set_option maxRecDepth 100000 in
theorem lc_share {X : Cx} {w wR : Wd} {M N : Mm} {a b c i z : Nat} {xv : Nat → Int32} (B : BL X) (I : LIw X w wR) (R : RI X wR) (S : LwS X b z xv) (n : Nat) (hn : 70000 ≤ n) (hL : z ≤ 3072) (hi : i + 6 ≤ z) (hr : a ≤ 600000 ∧ c ≤ 7302250) (hJ : J M N) (next : ∀ M9 N9 : Mm, J M9 N9 → LJ LR (xInc X a c) w wR M9 N9 (lvL b (wa w 0) (wa wR 0) i) [] 1562) : LJ LR (xInc X a c) w wR M N (lvL b (wa w 0) (wa wR 0) i) [] 252 := by
  obtain ⟨r, M9, N9, e1, e2, hJ9⟩ := q_share n (by omega) (xv (i + 1)).toInt (xv (i + 2)).toInt (xv (i + 3)).toInt (xv (i + 4)).toInt hJ
  have G := gl_C B I hr
  have GR := gl_R B R hr
  refine lj_aload_n G (p9 := 1) d_law_252 rfl rfl ?_
  refine lj_arg G (k := 1) S hL (by omega) rfl ⟨rfl, rfl, rfl, rfl, rfl⟩ d_law_253 d_law_254 d_law_255 d_law_256 d_law_257 ?_
  refine lj_arg G (k := 2) S hL (by omega) rfl ⟨rfl, rfl, rfl, rfl, rfl⟩ d_law_258 d_law_259 d_law_260 d_law_261 d_law_262 ?_
  refine lj_arg G (k := 3) S hL (by omega) rfl ⟨rfl, rfl, rfl, rfl, rfl⟩ d_law_263 d_law_264 d_law_265 d_law_266 d_law_267 ?_
  refine lj_arg G (k := 4) S hL (by omega) rfl ⟨rfl, rfl, rfl, rfl, rfl⟩ d_law_268 d_law_269 d_law_270 d_law_271 d_law_272 ?_
  refine lj_callC G I.2.2.2.2 (fun _ => trivial) (ct_W_share I.1 n (xv (i + 1)).toInt (xv (i + 2)).toInt (xv (i + 3)).toInt (xv (i + 4)).toInt (inR_toInt _) (inR_toInt _) (inR_toInt _) (inR_toInt _) e1) rfl q_588 cq_W_share rfl (by decide) (Nat.le_of_ble_eq_true rfl) d_law_273 rfl (fun hr1 => ?_)
  refine lj_aload_n G (p9 := 2) d_law_276 rfl rfl ?_
  refine lj_arg G (k := 1) S hL (by omega) rfl ⟨rfl, rfl, rfl, rfl, rfl⟩ d_law_277 d_law_278 d_law_279 d_law_280 d_law_281 ?_
  refine lj_arg G (k := 2) S hL (by omega) rfl ⟨rfl, rfl, rfl, rfl, rfl⟩ d_law_282 d_law_283 d_law_284 d_law_285 d_law_286 ?_
  refine lj_arg G (k := 3) S hL (by omega) rfl ⟨rfl, rfl, rfl, rfl, rfl⟩ d_law_287 d_law_288 d_law_289 d_law_290 d_law_291 ?_
  refine lj_arg G (k := 4) S hL (by omega) rfl ⟨rfl, rfl, rfl, rfl, rfl⟩ d_law_292 d_law_293 d_law_294 d_law_295 d_law_296 ?_
  refine lj_callR GR I.2.2.2.2 (ct_m_share R.1 n (xv (i + 1)).toInt (xv (i + 2)).toInt (xv (i + 3)).toInt (xv (i + 4)).toInt (inR_toInt _) (inR_toInt _) (inR_toInt _) (inR_toInt _) e2) rfl q_1551 cq_m_share rfl (by decide) (Nat.le_of_ble_eq_true rfl) d_law_297 rfl (fun hr2 => ?_)
  exact lj_icmp_eq G (tgt := 1562) d_law_300 (by decide) hr1 hr1 (fun _ => next _ _ hJ9) (fun h => absurd rfl h)
set_option maxHeartbeats 4000000 in
set_option maxRecDepth 100000 in
theorem lc_price {X : Cx} {w wR : Wd} {M N : Mm} {a b c i z : Nat} {xv : Nat → Int32} (B : BL X) (I : LIw X w wR) (R : RI X wR) (S : LwS X b z xv) (n : Nat) (hn : 70000 ≤ n) (hL : z ≤ 3072) (hi : i + 6 ≤ z) (hr : a ≤ 600000 ∧ c ≤ 7302250) (hJ : J M N) (next : ∀ M9 N9 : Mm, J M9 N9 → LJ LR (xInc X a c) w wR M9 N9 (lvL b (wa w 0) (wa wR 0) i) [] 1562) : LJ LR (xInc X a c) w wR M N (lvL b (wa w 0) (wa wR 0) i) [] 305 := by
  obtain ⟨r, M9, N9, e1, e2, hJ9⟩ := q_price n (xv (i + 1)).toInt (xv (i + 2)).toInt hJ
  have G := gl_C B I hr
  have GR := gl_R B R hr
  refine lj_aload_n G (p9 := 1) d_law_305 rfl rfl ?_
  refine lj_arg G (k := 1) S hL (by omega) rfl ⟨rfl, rfl, rfl, rfl, rfl⟩ d_law_306 d_law_307 d_law_308 d_law_309 d_law_310 ?_
  refine lj_arg G (k := 2) S hL (by omega) rfl ⟨rfl, rfl, rfl, rfl, rfl⟩ d_law_311 d_law_312 d_law_313 d_law_314 d_law_315 ?_
  refine lj_callC G I.2.2.2.2 (fun _ => trivial) (ct_W_price I.1 n (xv (i + 1)).toInt (xv (i + 2)).toInt (inR_toInt _) (inR_toInt _) e1) rfl q_609 cq_W_price rfl (by decide) (Nat.le_of_ble_eq_true rfl) d_law_316 rfl (fun hr1 => ?_)
  refine lj_aload_n G (p9 := 2) d_law_319 rfl rfl ?_
  refine lj_arg G (k := 1) S hL (by omega) rfl ⟨rfl, rfl, rfl, rfl, rfl⟩ d_law_320 d_law_321 d_law_322 d_law_323 d_law_324 ?_
  refine lj_arg G (k := 2) S hL (by omega) rfl ⟨rfl, rfl, rfl, rfl, rfl⟩ d_law_325 d_law_326 d_law_327 d_law_328 d_law_329 ?_
  refine lj_callR GR I.2.2.2.2 (ct_m_price R.1 n (xv (i + 1)).toInt (xv (i + 2)).toInt (inR_toInt _) (inR_toInt _) e2) rfl q_1563 cq_m_price rfl (by decide) (Nat.le_of_ble_eq_true rfl) d_law_330 rfl (fun hr2 => ?_)
  exact lj_icmp_eq G (tgt := 1562) d_law_333 (by decide) hr1 hr1 (fun _ => next _ _ hJ9) (fun h => absurd rfl h)
set_option maxHeartbeats 4000000 in
set_option maxRecDepth 100000 in
theorem lc_sale {X : Cx} {w wR : Wd} {M N : Mm} {a b c i z : Nat} {xv : Nat → Int32} (B : BL X) (I : LIw X w wR) (R : RI X wR) (S : LwS X b z xv) (n : Nat) (hn : 70000 ≤ n) (hL : z ≤ 3072) (hi : i + 6 ≤ z) (hr : a ≤ 600000 ∧ c ≤ 7302250) (hJ : J M N) (next : ∀ M9 N9 : Mm, J M9 N9 → LJ LR (xInc X a c) w wR M9 N9 (lvL b (wa w 0) (wa wR 0) i) [] 1562) : LJ LR (xInc X a c) w wR M N (lvL b (wa w 0) (wa wR 0) i) [] 338 := by
  obtain ⟨r, M9, N9, e1, e2, hJ9⟩ := q_sale n (by omega) (xv (i + 1)).toInt (xv (i + 2)).toInt hJ
  have G := gl_C B I hr
  have GR := gl_R B R hr
  refine lj_aload_n G (p9 := 1) d_law_338 rfl rfl ?_
  refine lj_arg G (k := 1) S hL (by omega) rfl ⟨rfl, rfl, rfl, rfl, rfl⟩ d_law_339 d_law_340 d_law_341 d_law_342 d_law_343 ?_
  refine lj_arg G (k := 2) S hL (by omega) rfl ⟨rfl, rfl, rfl, rfl, rfl⟩ d_law_344 d_law_345 d_law_346 d_law_347 d_law_348 ?_
  refine lj_callC G I.2.2.2.2 (fun _ => trivial) (ct_W_sale I.1 n (xv (i + 1)).toInt (xv (i + 2)).toInt (inR_toInt _) (inR_toInt _) e1) rfl q_617 cq_W_sale rfl (by decide) (Nat.le_of_ble_eq_true rfl) d_law_349 rfl (fun hr1 => ?_)
  refine lj_aload_n G (p9 := 2) d_law_352 rfl rfl ?_
  refine lj_arg G (k := 1) S hL (by omega) rfl ⟨rfl, rfl, rfl, rfl, rfl⟩ d_law_353 d_law_354 d_law_355 d_law_356 d_law_357 ?_
  refine lj_arg G (k := 2) S hL (by omega) rfl ⟨rfl, rfl, rfl, rfl, rfl⟩ d_law_358 d_law_359 d_law_360 d_law_361 d_law_362 ?_
  refine lj_callR GR I.2.2.2.2 (ct_m_sale R.1 n (xv (i + 1)).toInt (xv (i + 2)).toInt (inR_toInt _) (inR_toInt _) e2) rfl q_1571 cq_m_sale rfl (by decide) (Nat.le_of_ble_eq_true rfl) d_law_363 rfl (fun hr2 => ?_)
  exact lj_icmp_eq G (tgt := 1562) d_law_366 (by decide) hr1 hr1 (fun _ => next _ _ hJ9) (fun h => absurd rfl h)
set_option maxHeartbeats 4000000 in
set_option maxRecDepth 100000 in
theorem lc_of {X : Cx} {w wR : Wd} {M N : Mm} {a b c i z : Nat} {xv : Nat → Int32} (B : BL X) (I : LIw X w wR) (R : RI X wR) (S : LwS X b z xv) (n : Nat) (hn : 70000 ≤ n) (hL : z ≤ 3072) (hi : i + 6 ≤ z) (hr : a ≤ 600000 ∧ c ≤ 7302250) (hJ : J M N) (next : ∀ M9 N9 : Mm, J M9 N9 → LJ LR (xInc X a c) w wR M9 N9 (lvL b (wa w 0) (wa wR 0) i) [] 1562) : LJ LR (xInc X a c) w wR M N (lvL b (wa w 0) (wa wR 0) i) [] 371 := by
  obtain ⟨r, M9, N9, e1, e2, hJ9⟩ := q_of n (xv (i + 1)).toInt (xv (i + 2)).toInt hJ
  have G := gl_C B I hr
  have GR := gl_R B R hr
  refine lj_aload_n G (p9 := 1) d_law_371 rfl rfl ?_
  refine lj_arg G (k := 1) S hL (by omega) rfl ⟨rfl, rfl, rfl, rfl, rfl⟩ d_law_372 d_law_373 d_law_374 d_law_375 d_law_376 ?_
  refine lj_arg G (k := 2) S hL (by omega) rfl ⟨rfl, rfl, rfl, rfl, rfl⟩ d_law_377 d_law_378 d_law_379 d_law_380 d_law_381 ?_
  refine lj_callC G I.2.2.2.2 (fun _ => trivial) (ct_W_of I.1 n (xv (i + 1)).toInt (xv (i + 2)).toInt (inR_toInt _) (inR_toInt _) e1) rfl q_631 cq_W_of rfl (by decide) (Nat.le_of_ble_eq_true rfl) d_law_382 rfl (fun hr1 => ?_)
  refine lj_aload_n G (p9 := 2) d_law_385 rfl rfl ?_
  refine lj_arg G (k := 1) S hL (by omega) rfl ⟨rfl, rfl, rfl, rfl, rfl⟩ d_law_386 d_law_387 d_law_388 d_law_389 d_law_390 ?_
  refine lj_arg G (k := 2) S hL (by omega) rfl ⟨rfl, rfl, rfl, rfl, rfl⟩ d_law_391 d_law_392 d_law_393 d_law_394 d_law_395 ?_
  refine lj_callR GR I.2.2.2.2 (ct_m_of R.1 n (xv (i + 1)).toInt (xv (i + 2)).toInt (inR_toInt _) (inR_toInt _) e2) rfl q_1579 cq_m_of rfl (by decide) (Nat.le_of_ble_eq_true rfl) d_law_396 rfl (fun hr2 => ?_)
  exact lj_icmp_eq G (tgt := 1562) d_law_399 (by decide) hr1 hr1 (fun _ => next _ _ hJ9) (fun h => absurd rfl h)
set_option maxHeartbeats 4000000 in
set_option maxRecDepth 100000 in
theorem lc_held {X : Cx} {w wR : Wd} {M N : Mm} {a b c i z : Nat} {xv : Nat → Int32} (B : BL X) (I : LIw X w wR) (R : RI X wR) (S : LwS X b z xv) (n : Nat) (hn : 70000 ≤ n) (hL : z ≤ 3072) (hi : i + 6 ≤ z) (hr : a ≤ 600000 ∧ c ≤ 7302250) (hJ : J M N) (next : ∀ M9 N9 : Mm, J M9 N9 → LJ LR (xInc X a c) w wR M9 N9 (lvL b (wa w 0) (wa wR 0) i) [] 1562) : LJ LR (xInc X a c) w wR M N (lvL b (wa w 0) (wa wR 0) i) [] 404 := by
  obtain ⟨r, M9, N9, e1, e2, hJ9⟩ := q_held n (by omega) (xv (i + 1)).toInt (xv (i + 2)).toInt (xv (i + 3)).toInt hJ
  have G := gl_C B I hr
  have GR := gl_R B R hr
  refine lj_aload_n G (p9 := 1) d_law_404 rfl rfl ?_
  refine lj_arg G (k := 1) S hL (by omega) rfl ⟨rfl, rfl, rfl, rfl, rfl⟩ d_law_405 d_law_406 d_law_407 d_law_408 d_law_409 ?_
  refine lj_arg G (k := 2) S hL (by omega) rfl ⟨rfl, rfl, rfl, rfl, rfl⟩ d_law_410 d_law_411 d_law_412 d_law_413 d_law_414 ?_
  refine lj_arg G (k := 3) S hL (by omega) rfl ⟨rfl, rfl, rfl, rfl, rfl⟩ d_law_415 d_law_416 d_law_417 d_law_418 d_law_419 ?_
  refine lj_callC G I.2.2.2.2 (fun _ => trivial) (ct_W_held I.1 n (xv (i + 1)).toInt (xv (i + 2)).toInt (xv (i + 3)).toInt (inR_toInt _) (inR_toInt _) (inR_toInt _) e1) rfl q_635 cq_W_held rfl (by decide) (Nat.le_of_ble_eq_true rfl) d_law_420 rfl (fun hr1 => ?_)
  refine lj_aload_n G (p9 := 2) d_law_423 rfl rfl ?_
  refine lj_arg G (k := 1) S hL (by omega) rfl ⟨rfl, rfl, rfl, rfl, rfl⟩ d_law_424 d_law_425 d_law_426 d_law_427 d_law_428 ?_
  refine lj_arg G (k := 2) S hL (by omega) rfl ⟨rfl, rfl, rfl, rfl, rfl⟩ d_law_429 d_law_430 d_law_431 d_law_432 d_law_433 ?_
  refine lj_arg G (k := 3) S hL (by omega) rfl ⟨rfl, rfl, rfl, rfl, rfl⟩ d_law_434 d_law_435 d_law_436 d_law_437 d_law_438 ?_
  refine lj_callR GR I.2.2.2.2 (ct_m_held R.1 n (xv (i + 1)).toInt (xv (i + 2)).toInt (xv (i + 3)).toInt (inR_toInt _) (inR_toInt _) (inR_toInt _) e2) rfl q_1583 cq_m_held rfl (by decide) (Nat.le_of_ble_eq_true rfl) d_law_439 rfl (fun hr2 => ?_)
  exact lj_icmp_eq G (tgt := 1562) d_law_442 (by decide) hr1 hr1 (fun _ => next _ _ hJ9) (fun h => absurd rfl h)
set_option maxHeartbeats 4000000 in
set_option maxRecDepth 100000 in
theorem lc_feed {X : Cx} {w wR : Wd} {M N : Mm} {a b c i z : Nat} {xv : Nat → Int32} (B : BL X) (I : LIw X w wR) (R : RI X wR) (S : LwS X b z xv) (n : Nat) (hn : 70000 ≤ n) (hL : z ≤ 3072) (hi : i + 6 ≤ z) (hr : a ≤ 600000 ∧ c ≤ 7302250) (hJ : J M N) (next : ∀ M9 N9 : Mm, J M9 N9 → LJ LR (xInc X a c) w wR M9 N9 (lvL b (wa w 0) (wa wR 0) i) [] 1562) : LJ LR (xInc X a c) w wR M N (lvL b (wa w 0) (wa wR 0) i) [] 447 := by
  obtain ⟨r, M9, N9, e1, e2, hJ9⟩ := q_feed n (by omega) (xv (i + 1)).toInt (xv (i + 2)).toInt hJ
  have G := gl_C B I hr
  have GR := gl_R B R hr
  refine lj_aload_n G (p9 := 1) d_law_447 rfl rfl ?_
  refine lj_arg G (k := 1) S hL (by omega) rfl ⟨rfl, rfl, rfl, rfl, rfl⟩ d_law_448 d_law_449 d_law_450 d_law_451 d_law_452 ?_
  refine lj_arg G (k := 2) S hL (by omega) rfl ⟨rfl, rfl, rfl, rfl, rfl⟩ d_law_453 d_law_454 d_law_455 d_law_456 d_law_457 ?_
  refine lj_callC G I.2.2.2.2 (fun _ => trivial) (ct_W_feed I.1 n (xv (i + 1)).toInt (xv (i + 2)).toInt (inR_toInt _) (inR_toInt _) e1) rfl q_642 cq_W_feed rfl (by decide) (Nat.le_of_ble_eq_true rfl) d_law_458 rfl (fun hr1 => ?_)
  refine lj_aload_n G (p9 := 2) d_law_461 rfl rfl ?_
  refine lj_arg G (k := 1) S hL (by omega) rfl ⟨rfl, rfl, rfl, rfl, rfl⟩ d_law_462 d_law_463 d_law_464 d_law_465 d_law_466 ?_
  refine lj_arg G (k := 2) S hL (by omega) rfl ⟨rfl, rfl, rfl, rfl, rfl⟩ d_law_467 d_law_468 d_law_469 d_law_470 d_law_471 ?_
  refine lj_callR GR I.2.2.2.2 (ct_m_feed R.1 n (xv (i + 1)).toInt (xv (i + 2)).toInt (inR_toInt _) (inR_toInt _) e2) rfl q_1591 cq_m_feed rfl (by decide) (Nat.le_of_ble_eq_true rfl) d_law_472 rfl (fun hr2 => ?_)
  exact lj_icmp_eq G (tgt := 1562) d_law_475 (by decide) hr1 hr1 (fun _ => next _ _ hJ9) (fun h => absurd rfl h)
set_option maxHeartbeats 4000000 in
set_option maxRecDepth 100000 in
theorem lc_charter {X : Cx} {w wR : Wd} {M N : Mm} {a b c i z : Nat} {xv : Nat → Int32} (B : BL X) (I : LIw X w wR) (R : RI X wR) (S : LwS X b z xv) (n : Nat) (hn : 70000 ≤ n) (hL : z ≤ 3072) (hi : i + 6 ≤ z) (hr : a ≤ 600000 ∧ c ≤ 7302250) (hJ : J M N) (next : ∀ M9 N9 : Mm, J M9 N9 → LJ LR (xInc X a c) w wR M9 N9 (lvL b (wa w 0) (wa wR 0) i) [] 1562) : LJ LR (xInc X a c) w wR M N (lvL b (wa w 0) (wa wR 0) i) [] 480 := by
  obtain ⟨r, M9, N9, e1, e2, hJ9⟩ := q_charter n (by omega) (xv (i + 1)).toInt (xv (i + 2)).toInt hJ
  have G := gl_C B I hr
  have GR := gl_R B R hr
  refine lj_aload_n G (p9 := 1) d_law_480 rfl rfl ?_
  refine lj_arg G (k := 1) S hL (by omega) rfl ⟨rfl, rfl, rfl, rfl, rfl⟩ d_law_481 d_law_482 d_law_483 d_law_484 d_law_485 ?_
  refine lj_arg G (k := 2) S hL (by omega) rfl ⟨rfl, rfl, rfl, rfl, rfl⟩ d_law_486 d_law_487 d_law_488 d_law_489 d_law_490 ?_
  refine lj_callC G I.2.2.2.2 (fun _ => trivial) (ct_W_charter I.1 n (xv (i + 1)).toInt (xv (i + 2)).toInt (inR_toInt _) (inR_toInt _) e1) rfl q_650 cq_W_charter rfl (by decide) (Nat.le_of_ble_eq_true rfl) d_law_491 rfl (fun hr1 => ?_)
  refine lj_aload_n G (p9 := 2) d_law_494 rfl rfl ?_
  refine lj_arg G (k := 1) S hL (by omega) rfl ⟨rfl, rfl, rfl, rfl, rfl⟩ d_law_495 d_law_496 d_law_497 d_law_498 d_law_499 ?_
  refine lj_arg G (k := 2) S hL (by omega) rfl ⟨rfl, rfl, rfl, rfl, rfl⟩ d_law_500 d_law_501 d_law_502 d_law_503 d_law_504 ?_
  refine lj_callR GR I.2.2.2.2 (ct_m_charter R.1 n (xv (i + 1)).toInt (xv (i + 2)).toInt (inR_toInt _) (inR_toInt _) e2) rfl q_1595 cq_m_charter rfl (by decide) (Nat.le_of_ble_eq_true rfl) d_law_505 rfl (fun hr2 => ?_)
  exact lj_icmp_eq G (tgt := 1562) d_law_508 (by decide) hr1 hr1 (fun _ => next _ _ hJ9) (fun h => absurd rfl h)
set_option maxHeartbeats 4000000 in
set_option maxRecDepth 100000 in
theorem lc_force {X : Cx} {w wR : Wd} {M N : Mm} {a b c i z : Nat} {xv : Nat → Int32} (B : BL X) (I : LIw X w wR) (R : RI X wR) (S : LwS X b z xv) (n : Nat) (hn : 70000 ≤ n) (hL : z ≤ 3072) (hi : i + 6 ≤ z) (hr : a ≤ 600000 ∧ c ≤ 7302250) (hJ : J M N) (next : ∀ M9 N9 : Mm, J M9 N9 → LJ LR (xInc X a c) w wR M9 N9 (lvL b (wa w 0) (wa wR 0) i) [] 1562) : LJ LR (xInc X a c) w wR M N (lvL b (wa w 0) (wa wR 0) i) [] 513 := by
  obtain ⟨r, M9, N9, e1, e2, hJ9⟩ := q_force n (by omega) (xv (i + 1)).toInt (xv (i + 2)).toInt (xv (i + 3)).toInt (xv (i + 4)).toInt hJ
  have G := gl_C B I hr
  have GR := gl_R B R hr
  refine lj_aload_n G (p9 := 1) d_law_513 rfl rfl ?_
  refine lj_arg G (k := 1) S hL (by omega) rfl ⟨rfl, rfl, rfl, rfl, rfl⟩ d_law_514 d_law_515 d_law_516 d_law_517 d_law_518 ?_
  refine lj_arg G (k := 2) S hL (by omega) rfl ⟨rfl, rfl, rfl, rfl, rfl⟩ d_law_519 d_law_520 d_law_521 d_law_522 d_law_523 ?_
  refine lj_arg G (k := 3) S hL (by omega) rfl ⟨rfl, rfl, rfl, rfl, rfl⟩ d_law_524 d_law_525 d_law_526 d_law_527 d_law_528 ?_
  refine lj_arg G (k := 4) S hL (by omega) rfl ⟨rfl, rfl, rfl, rfl, rfl⟩ d_law_529 d_law_530 d_law_531 d_law_532 d_law_533 ?_
  refine lj_callC G I.2.2.2.2 (fun _ => trivial) (ct_W_force I.1 n (xv (i + 1)).toInt (xv (i + 2)).toInt (xv (i + 3)).toInt (xv (i + 4)).toInt (inR_toInt _) (inR_toInt _) (inR_toInt _) (inR_toInt _) e1) rfl q_768 cq_W_force rfl (by decide) (Nat.le_of_ble_eq_true rfl) d_law_534 rfl (fun hr1 => ?_)
  refine lj_aload_n G (p9 := 2) d_law_537 rfl rfl ?_
  refine lj_arg G (k := 1) S hL (by omega) rfl ⟨rfl, rfl, rfl, rfl, rfl⟩ d_law_538 d_law_539 d_law_540 d_law_541 d_law_542 ?_
  refine lj_arg G (k := 2) S hL (by omega) rfl ⟨rfl, rfl, rfl, rfl, rfl⟩ d_law_543 d_law_544 d_law_545 d_law_546 d_law_547 ?_
  refine lj_arg G (k := 3) S hL (by omega) rfl ⟨rfl, rfl, rfl, rfl, rfl⟩ d_law_548 d_law_549 d_law_550 d_law_551 d_law_552 ?_
  refine lj_arg G (k := 4) S hL (by omega) rfl ⟨rfl, rfl, rfl, rfl, rfl⟩ d_law_553 d_law_554 d_law_555 d_law_556 d_law_557 ?_
  refine lj_callR GR I.2.2.2.2 (ct_m_force R.1 n (xv (i + 1)).toInt (xv (i + 2)).toInt (xv (i + 3)).toInt (xv (i + 4)).toInt (inR_toInt _) (inR_toInt _) (inR_toInt _) (inR_toInt _) e2) rfl q_1651 cq_m_force rfl (by decide) (Nat.le_of_ble_eq_true rfl) d_law_558 rfl (fun hr2 => ?_)
  exact lj_icmp_eq G (tgt := 1562) d_law_561 (by decide) hr1 hr1 (fun _ => next _ _ hJ9) (fun h => absurd rfl h)
set_option maxHeartbeats 4000000 in
set_option maxRecDepth 100000 in
theorem lc_why {X : Cx} {w wR : Wd} {M N : Mm} {a b c i z : Nat} {xv : Nat → Int32} (B : BL X) (I : LIw X w wR) (R : RI X wR) (S : LwS X b z xv) (n : Nat) (hn : 70000 ≤ n) (hL : z ≤ 3072) (hi : i + 6 ≤ z) (hr : a ≤ 600000 ∧ c ≤ 7302250) (hJ : J M N) (next : ∀ M9 N9 : Mm, J M9 N9 → LJ LR (xInc X a c) w wR M9 N9 (lvL b (wa w 0) (wa wR 0) i) [] 1562) : LJ LR (xInc X a c) w wR M N (lvL b (wa w 0) (wa wR 0) i) [] 566 := by
  obtain ⟨r, M9, N9, e1, e2, hJ9⟩ := q_why n (by omega) (xv (i + 1)).toInt (xv (i + 2)).toInt (xv (i + 3)).toInt hJ
  have G := gl_C B I hr
  have GR := gl_R B R hr
  refine lj_aload_n G (p9 := 1) d_law_566 rfl rfl ?_
  refine lj_arg G (k := 1) S hL (by omega) rfl ⟨rfl, rfl, rfl, rfl, rfl⟩ d_law_567 d_law_568 d_law_569 d_law_570 d_law_571 ?_
  refine lj_arg G (k := 2) S hL (by omega) rfl ⟨rfl, rfl, rfl, rfl, rfl⟩ d_law_572 d_law_573 d_law_574 d_law_575 d_law_576 ?_
  refine lj_arg G (k := 3) S hL (by omega) rfl ⟨rfl, rfl, rfl, rfl, rfl⟩ d_law_577 d_law_578 d_law_579 d_law_580 d_law_581 ?_
  refine lj_callC G I.2.2.2.2 (fun _ => trivial) (ct_W_why I.1 n (xv (i + 1)).toInt (xv (i + 2)).toInt (xv (i + 3)).toInt (inR_toInt _) (inR_toInt _) (inR_toInt _) e1) rfl q_827 cq_W_why rfl (by decide) (Nat.le_of_ble_eq_true rfl) d_law_582 rfl (fun hr1 => ?_)
  refine lj_aload_n G (p9 := 2) d_law_585 rfl rfl ?_
  refine lj_arg G (k := 1) S hL (by omega) rfl ⟨rfl, rfl, rfl, rfl, rfl⟩ d_law_586 d_law_587 d_law_588 d_law_589 d_law_590 ?_
  refine lj_arg G (k := 2) S hL (by omega) rfl ⟨rfl, rfl, rfl, rfl, rfl⟩ d_law_591 d_law_592 d_law_593 d_law_594 d_law_595 ?_
  refine lj_arg G (k := 3) S hL (by omega) rfl ⟨rfl, rfl, rfl, rfl, rfl⟩ d_law_596 d_law_597 d_law_598 d_law_599 d_law_600 ?_
  refine lj_callR GR I.2.2.2.2 (ct_m_why R.1 n (xv (i + 1)).toInt (xv (i + 2)).toInt (xv (i + 3)).toInt (inR_toInt _) (inR_toInt _) (inR_toInt _) e2) rfl q_1664 cq_m_why rfl (by decide) (Nat.le_of_ble_eq_true rfl) d_law_601 rfl (fun hr2 => ?_)
  exact lj_icmp_eq G (tgt := 1562) d_law_604 (by decide) hr1 hr1 (fun _ => next _ _ hJ9) (fun h => absurd rfl h)
set_option maxHeartbeats 4000000 in
set_option maxRecDepth 100000 in
theorem lc_votes {X : Cx} {w wR : Wd} {M N : Mm} {a b c i z : Nat} {xv : Nat → Int32} (B : BL X) (I : LIw X w wR) (R : RI X wR) (S : LwS X b z xv) (n : Nat) (hn : 70000 ≤ n) (hL : z ≤ 3072) (hi : i + 6 ≤ z) (hr : a ≤ 600000 ∧ c ≤ 7302250) (hJ : J M N) (next : ∀ M9 N9 : Mm, J M9 N9 → LJ LR (xInc X a c) w wR M9 N9 (lvL b (wa w 0) (wa wR 0) i) [] 1562) : LJ LR (xInc X a c) w wR M N (lvL b (wa w 0) (wa wR 0) i) [] 609 := by
  obtain ⟨r, M9, N9, e1, e2, hJ9⟩ := q_votes n (by omega) (xv (i + 1)).toInt (xv (i + 2)).toInt (xv (i + 3)).toInt hJ
  have G := gl_C B I hr
  have GR := gl_R B R hr
  refine lj_aload_n G (p9 := 1) d_law_609 rfl rfl ?_
  refine lj_arg G (k := 1) S hL (by omega) rfl ⟨rfl, rfl, rfl, rfl, rfl⟩ d_law_610 d_law_611 d_law_612 d_law_613 d_law_614 ?_
  refine lj_arg G (k := 2) S hL (by omega) rfl ⟨rfl, rfl, rfl, rfl, rfl⟩ d_law_615 d_law_616 d_law_617 d_law_618 d_law_619 ?_
  refine lj_arg G (k := 3) S hL (by omega) rfl ⟨rfl, rfl, rfl, rfl, rfl⟩ d_law_620 d_law_621 d_law_622 d_law_623 d_law_624 ?_
  refine lj_callC G I.2.2.2.2 (fun _ => trivial) (ct_W_votes I.1 n (xv (i + 1)).toInt (xv (i + 2)).toInt (xv (i + 3)).toInt (inR_toInt _) (inR_toInt _) (inR_toInt _) e1) rfl q_832 cq_W_votes rfl (by decide) (Nat.le_of_ble_eq_true rfl) d_law_625 rfl (fun hr1 => ?_)
  refine lj_aload_n G (p9 := 2) d_law_628 rfl rfl ?_
  refine lj_arg G (k := 1) S hL (by omega) rfl ⟨rfl, rfl, rfl, rfl, rfl⟩ d_law_629 d_law_630 d_law_631 d_law_632 d_law_633 ?_
  refine lj_arg G (k := 2) S hL (by omega) rfl ⟨rfl, rfl, rfl, rfl, rfl⟩ d_law_634 d_law_635 d_law_636 d_law_637 d_law_638 ?_
  refine lj_arg G (k := 3) S hL (by omega) rfl ⟨rfl, rfl, rfl, rfl, rfl⟩ d_law_639 d_law_640 d_law_641 d_law_642 d_law_643 ?_
  refine lj_callR GR I.2.2.2.2 (ct_m_votes R.1 n (xv (i + 1)).toInt (xv (i + 2)).toInt (xv (i + 3)).toInt (inR_toInt _) (inR_toInt _) (inR_toInt _) e2) rfl q_1668 cq_m_votes rfl (by decide) (Nat.le_of_ble_eq_true rfl) d_law_644 rfl (fun hr2 => ?_)
  exact lj_icmp_eq G (tgt := 1562) d_law_647 (by decide) hr1 hr1 (fun _ => next _ _ hJ9) (fun h => absurd rfl h)
set_option maxHeartbeats 4000000 in
set_option maxRecDepth 100000 in
theorem lc_carry {X : Cx} {w wR : Wd} {M N : Mm} {a b c i z : Nat} {xv : Nat → Int32} (B : BL X) (I : LIw X w wR) (R : RI X wR) (S : LwS X b z xv) (n : Nat) (hn : 70000 ≤ n) (hL : z ≤ 3072) (hi : i + 6 ≤ z) (hr : a ≤ 600000 ∧ c ≤ 7302250) (hJ : J M N) (next : ∀ M9 N9 : Mm, J M9 N9 → LJ LR (xInc X a c) w wR M9 N9 (lvL b (wa w 0) (wa wR 0) i) [] 1562) : LJ LR (xInc X a c) w wR M N (lvL b (wa w 0) (wa wR 0) i) [] 652 := by
  obtain ⟨r, M9, N9, e1, e2, hJ9⟩ := q_carry n (by omega) (xv (i + 1)).toInt (xv (i + 2)).toInt (xv (i + 3)).toInt (inR_toInt _) hJ
  have G := gl_C B I hr
  have GR := gl_R B R hr
  refine lj_aload_n G (p9 := 1) d_law_652 rfl rfl ?_
  refine lj_arg G (k := 1) S hL (by omega) rfl ⟨rfl, rfl, rfl, rfl, rfl⟩ d_law_653 d_law_654 d_law_655 d_law_656 d_law_657 ?_
  refine lj_arg G (k := 2) S hL (by omega) rfl ⟨rfl, rfl, rfl, rfl, rfl⟩ d_law_658 d_law_659 d_law_660 d_law_661 d_law_662 ?_
  refine lj_arg G (k := 3) S hL (by omega) rfl ⟨rfl, rfl, rfl, rfl, rfl⟩ d_law_663 d_law_664 d_law_665 d_law_666 d_law_667 ?_
  refine lj_callC G I.2.2.2.2 (fun _ => trivial) (ct_W_carry I.1 n (xv (i + 1)).toInt (xv (i + 2)).toInt (xv (i + 3)).toInt (inR_toInt _) (inR_toInt _) (inR_toInt _) e1) rfl q_848 cq_W_carry rfl (by decide) (Nat.le_of_ble_eq_true rfl) d_law_668 rfl (fun hr1 => ?_)
  refine lj_aload_n G (p9 := 2) d_law_671 rfl rfl ?_
  refine lj_arg G (k := 1) S hL (by omega) rfl ⟨rfl, rfl, rfl, rfl, rfl⟩ d_law_672 d_law_673 d_law_674 d_law_675 d_law_676 ?_
  refine lj_arg G (k := 2) S hL (by omega) rfl ⟨rfl, rfl, rfl, rfl, rfl⟩ d_law_677 d_law_678 d_law_679 d_law_680 d_law_681 ?_
  refine lj_arg G (k := 3) S hL (by omega) rfl ⟨rfl, rfl, rfl, rfl, rfl⟩ d_law_682 d_law_683 d_law_684 d_law_685 d_law_686 ?_
  refine lj_callR GR I.2.2.2.2 (ct_m_carry R.1 n (xv (i + 1)).toInt (xv (i + 2)).toInt (xv (i + 3)).toInt (inR_toInt _) (inR_toInt _) (inR_toInt _) e2) rfl q_1684 cq_m_carry rfl (by decide) (Nat.le_of_ble_eq_true rfl) d_law_687 rfl (fun hr2 => ?_)
  exact lj_icmp_eq G (tgt := 1562) d_law_690 (by decide) hr1 hr1 (fun _ => next _ _ hJ9) (fun h => absurd rfl h)
set_option maxHeartbeats 4000000 in
set_option maxRecDepth 100000 in
theorem lc_ruler {X : Cx} {w wR : Wd} {M N : Mm} {a b c i z : Nat} {xv : Nat → Int32} (B : BL X) (I : LIw X w wR) (R : RI X wR) (S : LwS X b z xv) (n : Nat) (hn : 70000 ≤ n) (hL : z ≤ 3072) (hi : i + 6 ≤ z) (hr : a ≤ 600000 ∧ c ≤ 7302250) (hJ : J M N) (next : ∀ M9 N9 : Mm, J M9 N9 → LJ LR (xInc X a c) w wR M9 N9 (lvL b (wa w 0) (wa wR 0) i) [] 1562) : LJ LR (xInc X a c) w wR M N (lvL b (wa w 0) (wa wR 0) i) [] 695 := by
  obtain ⟨r, M9, N9, e1, e2, hJ9⟩ := q_ruler n (by omega) (xv (i + 1)).toInt (xv (i + 2)).toInt hJ
  have G := gl_C B I hr
  have GR := gl_R B R hr
  refine lj_aload_n G (p9 := 1) d_law_695 rfl rfl ?_
  refine lj_arg G (k := 1) S hL (by omega) rfl ⟨rfl, rfl, rfl, rfl, rfl⟩ d_law_696 d_law_697 d_law_698 d_law_699 d_law_700 ?_
  refine lj_arg G (k := 2) S hL (by omega) rfl ⟨rfl, rfl, rfl, rfl, rfl⟩ d_law_701 d_law_702 d_law_703 d_law_704 d_law_705 ?_
  refine lj_callC G I.2.2.2.2 (fun _ => trivial) (ct_W_ruler I.1 n (xv (i + 1)).toInt (xv (i + 2)).toInt (inR_toInt _) (inR_toInt _) e1) rfl q_860 cq_W_ruler rfl (by decide) (Nat.le_of_ble_eq_true rfl) d_law_706 rfl (fun hr1 => ?_)
  refine lj_aload_n G (p9 := 2) d_law_709 rfl rfl ?_
  refine lj_arg G (k := 1) S hL (by omega) rfl ⟨rfl, rfl, rfl, rfl, rfl⟩ d_law_710 d_law_711 d_law_712 d_law_713 d_law_714 ?_
  refine lj_arg G (k := 2) S hL (by omega) rfl ⟨rfl, rfl, rfl, rfl, rfl⟩ d_law_715 d_law_716 d_law_717 d_law_718 d_law_719 ?_
  refine lj_callR GR I.2.2.2.2 (ct_m_ruler R.1 n (xv (i + 1)).toInt (xv (i + 2)).toInt (inR_toInt _) (inR_toInt _) e2) rfl q_1692 cq_m_ruler rfl (by decide) (Nat.le_of_ble_eq_true rfl) d_law_720 rfl (fun hr2 => ?_)
  exact lj_icmp_eq G (tgt := 1562) d_law_723 (by decide) hr1 hr1 (fun _ => next _ _ hJ9) (fun h => absurd rfl h)
set_option maxHeartbeats 4000000 in
set_option maxRecDepth 100000 in
theorem lc_step {X : Cx} {w wR : Wd} {M N : Mm} {a b c i z : Nat} {xv : Nat → Int32} (B : BL X) (I : LIw X w wR) (R : RI X wR) (S : LwS X b z xv) (n : Nat) (hn : 70000 ≤ n) (hL : z ≤ 3072) (hi : i + 6 ≤ z) (hr : a ≤ 600000 ∧ c ≤ 7302250) (hJ : J M N) (next : ∀ M9 N9 : Mm, J M9 N9 → LJ LR (xInc X a c) w wR M9 N9 (lvL b (wa w 0) (wa wR 0) i) [] 1562) : LJ LR (xInc X a c) w wR M N (lvL b (wa w 0) (wa wR 0) i) [] 728 := by
  obtain ⟨r, M9, N9, e1, e2, hJ9⟩ := q_step n (by omega) (xv (i + 1)).toInt (xv (i + 2)).toInt hJ
  have G := gl_C B I hr
  have GR := gl_R B R hr
  refine lj_aload_n G (p9 := 1) d_law_728 rfl rfl ?_
  refine lj_arg G (k := 1) S hL (by omega) rfl ⟨rfl, rfl, rfl, rfl, rfl⟩ d_law_729 d_law_730 d_law_731 d_law_732 d_law_733 ?_
  refine lj_arg G (k := 2) S hL (by omega) rfl ⟨rfl, rfl, rfl, rfl, rfl⟩ d_law_734 d_law_735 d_law_736 d_law_737 d_law_738 ?_
  refine lj_callC G I.2.2.2.2 (fun _ => trivial) (ct_W_step I.1 n (xv (i + 1)).toInt (xv (i + 2)).toInt (inR_toInt _) (inR_toInt _) e1) rfl q_890 cq_W_step rfl (by decide) (Nat.le_of_ble_eq_true rfl) d_law_739 rfl (fun hr1 => ?_)
  refine lj_aload_n G (p9 := 2) d_law_742 rfl rfl ?_
  refine lj_arg G (k := 1) S hL (by omega) rfl ⟨rfl, rfl, rfl, rfl, rfl⟩ d_law_743 d_law_744 d_law_745 d_law_746 d_law_747 ?_
  refine lj_arg G (k := 2) S hL (by omega) rfl ⟨rfl, rfl, rfl, rfl, rfl⟩ d_law_748 d_law_749 d_law_750 d_law_751 d_law_752 ?_
  refine lj_callR GR I.2.2.2.2 (ct_m_step R.1 n (xv (i + 1)).toInt (xv (i + 2)).toInt (inR_toInt _) (inR_toInt _) e2) rfl q_1720 cq_m_step rfl (by decide) (Nat.le_of_ble_eq_true rfl) d_law_753 rfl (fun hr2 => ?_)
  exact lj_icmp_eq G (tgt := 1562) d_law_756 (by decide) hr1 hr1 (fun _ => next _ _ hJ9) (fun h => absurd rfl h)
set_option maxHeartbeats 4000000 in
set_option maxRecDepth 100000 in
theorem lc_all {X : Cx} {w wR : Wd} {M N : Mm} {a b c i z : Nat} {xv : Nat → Int32} (B : BL X) (I : LIw X w wR) (R : RI X wR) (S : LwS X b z xv) (n : Nat) (hn : 70000 ≤ n) (hL : z ≤ 3072) (hi : i + 6 ≤ z) (hr : a ≤ 600000 ∧ c ≤ 7302250) (hJ : J M N) (next : ∀ M9 N9 : Mm, J M9 N9 → LJ LR (xInc X a c) w wR M9 N9 (lvL b (wa w 0) (wa wR 0) i) [] 1562) : LJ LR (xInc X a c) w wR M N (lvL b (wa w 0) (wa wR 0) i) [] 761 := by
  obtain ⟨r, M9, N9, e1, e2, hJ9⟩ := q_all n (by omega) (xv (i + 1)).toInt (xv (i + 2)).toInt (xv (i + 3)).toInt hJ
  have G := gl_C B I hr
  have GR := gl_R B R hr
  refine lj_aload_n G (p9 := 1) d_law_761 rfl rfl ?_
  refine lj_arg G (k := 1) S hL (by omega) rfl ⟨rfl, rfl, rfl, rfl, rfl⟩ d_law_762 d_law_763 d_law_764 d_law_765 d_law_766 ?_
  refine lj_arg G (k := 2) S hL (by omega) rfl ⟨rfl, rfl, rfl, rfl, rfl⟩ d_law_767 d_law_768 d_law_769 d_law_770 d_law_771 ?_
  refine lj_arg G (k := 3) S hL (by omega) rfl ⟨rfl, rfl, rfl, rfl, rfl⟩ d_law_772 d_law_773 d_law_774 d_law_775 d_law_776 ?_
  refine lj_callC G I.2.2.2.2 (fun _ => trivial) (ct_W_all I.1 n (xv (i + 1)).toInt (xv (i + 2)).toInt (xv (i + 3)).toInt (inR_toInt _) (inR_toInt _) (inR_toInt _) e1) rfl q_894 cq_W_all rfl (by decide) (Nat.le_of_ble_eq_true rfl) d_law_777 rfl (fun hr1 => ?_)
  refine lj_aload_n G (p9 := 2) d_law_780 rfl rfl ?_
  refine lj_arg G (k := 1) S hL (by omega) rfl ⟨rfl, rfl, rfl, rfl, rfl⟩ d_law_781 d_law_782 d_law_783 d_law_784 d_law_785 ?_
  refine lj_arg G (k := 2) S hL (by omega) rfl ⟨rfl, rfl, rfl, rfl, rfl⟩ d_law_786 d_law_787 d_law_788 d_law_789 d_law_790 ?_
  refine lj_arg G (k := 3) S hL (by omega) rfl ⟨rfl, rfl, rfl, rfl, rfl⟩ d_law_791 d_law_792 d_law_793 d_law_794 d_law_795 ?_
  refine lj_callR GR I.2.2.2.2 (ct_m_all R.1 n (xv (i + 1)).toInt (xv (i + 2)).toInt (xv (i + 3)).toInt (inR_toInt _) (inR_toInt _) (inR_toInt _) e2) rfl q_1724 cq_m_all rfl (by decide) (Nat.le_of_ble_eq_true rfl) d_law_796 rfl (fun hr2 => ?_)
  exact lj_icmp_eq G (tgt := 1562) d_law_799 (by decide) hr1 hr1 (fun _ => next _ _ hJ9) (fun h => absurd rfl h)
set_option maxHeartbeats 4000000 in
set_option maxRecDepth 100000 in
theorem lc_proof {X : Cx} {w wR : Wd} {M N : Mm} {a b c i z : Nat} {xv : Nat → Int32} (B : BL X) (I : LIw X w wR) (R : RI X wR) (S : LwS X b z xv) (n : Nat) (hn : 70000 ≤ n) (hL : z ≤ 3072) (hi : i + 6 ≤ z) (hr : a ≤ 600000 ∧ c ≤ 7302250) (hJ : J M N) (next : ∀ M9 N9 : Mm, J M9 N9 → LJ LR (xInc X a c) w wR M9 N9 (lvL b (wa w 0) (wa wR 0) i) [] 1562) : LJ LR (xInc X a c) w wR M N (lvL b (wa w 0) (wa wR 0) i) [] 804 := by
  obtain ⟨r, M9, N9, e1, e2, hJ9⟩ := q_proof n (by omega) (xv (i + 1)).toInt (xv (i + 2)).toInt (xv (i + 3)).toInt (inR_toInt _) hJ
  have G := gl_C B I hr
  have GR := gl_R B R hr
  refine lj_aload_n G (p9 := 1) d_law_804 rfl rfl ?_
  refine lj_arg G (k := 1) S hL (by omega) rfl ⟨rfl, rfl, rfl, rfl, rfl⟩ d_law_805 d_law_806 d_law_807 d_law_808 d_law_809 ?_
  refine lj_arg G (k := 2) S hL (by omega) rfl ⟨rfl, rfl, rfl, rfl, rfl⟩ d_law_810 d_law_811 d_law_812 d_law_813 d_law_814 ?_
  refine lj_arg G (k := 3) S hL (by omega) rfl ⟨rfl, rfl, rfl, rfl, rfl⟩ d_law_815 d_law_816 d_law_817 d_law_818 d_law_819 ?_
  refine lj_callC G I.2.2.2.2 (fun _ => trivial) (ct_W_proof I.1 n (xv (i + 1)).toInt (xv (i + 2)).toInt (xv (i + 3)).toInt (inR_toInt _) (inR_toInt _) (inR_toInt _) e1) rfl q_934 cq_W_proof rfl (by decide) (Nat.le_of_ble_eq_true rfl) d_law_820 rfl (fun hr1 => ?_)
  refine lj_aload_n G (p9 := 2) d_law_823 rfl rfl ?_
  refine lj_arg G (k := 1) S hL (by omega) rfl ⟨rfl, rfl, rfl, rfl, rfl⟩ d_law_824 d_law_825 d_law_826 d_law_827 d_law_828 ?_
  refine lj_arg G (k := 2) S hL (by omega) rfl ⟨rfl, rfl, rfl, rfl, rfl⟩ d_law_829 d_law_830 d_law_831 d_law_832 d_law_833 ?_
  refine lj_arg G (k := 3) S hL (by omega) rfl ⟨rfl, rfl, rfl, rfl, rfl⟩ d_law_834 d_law_835 d_law_836 d_law_837 d_law_838 ?_
  refine lj_callR GR I.2.2.2.2 (ct_m_proof R.1 n (xv (i + 1)).toInt (xv (i + 2)).toInt (xv (i + 3)).toInt (inR_toInt _) (inR_toInt _) (inR_toInt _) e2) rfl q_1736 cq_m_proof rfl (by decide) (Nat.le_of_ble_eq_true rfl) d_law_839 rfl (fun hr2 => ?_)
  exact lj_icmp_eq G (tgt := 1562) d_law_842 (by decide) hr1 hr1 (fun _ => next _ _ hJ9) (fun h => absurd rfl h)
set_option maxHeartbeats 4000000 in
set_option maxRecDepth 100000 in
theorem lc_worth {X : Cx} {w wR : Wd} {M N : Mm} {a b c i z : Nat} {xv : Nat → Int32} (B : BL X) (I : LIw X w wR) (R : RI X wR) (S : LwS X b z xv) (n : Nat) (hn : 70000 ≤ n) (hL : z ≤ 3072) (hi : i + 6 ≤ z) (hr : a ≤ 600000 ∧ c ≤ 7302250) (hJ : J M N) (next : ∀ M9 N9 : Mm, J M9 N9 → LJ LR (xInc X a c) w wR M9 N9 (lvL b (wa w 0) (wa wR 0) i) [] 1562) : LJ LR (xInc X a c) w wR M N (lvL b (wa w 0) (wa wR 0) i) [] 847 := by
  obtain ⟨r, M9, N9, e1, e2, hJ9⟩ := q_worth n (by omega) (xv (i + 1)).toInt (xv (i + 2)).toInt (xv (i + 3)).toInt hJ
  have G := gl_C B I hr
  have GR := gl_R B R hr
  refine lj_aload_n G (p9 := 1) d_law_847 rfl rfl ?_
  refine lj_arg G (k := 1) S hL (by omega) rfl ⟨rfl, rfl, rfl, rfl, rfl⟩ d_law_848 d_law_849 d_law_850 d_law_851 d_law_852 ?_
  refine lj_arg G (k := 2) S hL (by omega) rfl ⟨rfl, rfl, rfl, rfl, rfl⟩ d_law_853 d_law_854 d_law_855 d_law_856 d_law_857 ?_
  refine lj_arg G (k := 3) S hL (by omega) rfl ⟨rfl, rfl, rfl, rfl, rfl⟩ d_law_858 d_law_859 d_law_860 d_law_861 d_law_862 ?_
  refine lj_callC G I.2.2.2.2 (fun _ => trivial) (ct_W_worth I.1 n (xv (i + 1)).toInt (xv (i + 2)).toInt (xv (i + 3)).toInt (inR_toInt _) (inR_toInt _) (inR_toInt _) e1) rfl q_955 cq_W_worth rfl (by decide) (Nat.le_of_ble_eq_true rfl) d_law_863 rfl (fun hr1 => ?_)
  refine lj_aload_n G (p9 := 2) d_law_866 rfl rfl ?_
  refine lj_arg G (k := 1) S hL (by omega) rfl ⟨rfl, rfl, rfl, rfl, rfl⟩ d_law_867 d_law_868 d_law_869 d_law_870 d_law_871 ?_
  refine lj_arg G (k := 2) S hL (by omega) rfl ⟨rfl, rfl, rfl, rfl, rfl⟩ d_law_872 d_law_873 d_law_874 d_law_875 d_law_876 ?_
  refine lj_arg G (k := 3) S hL (by omega) rfl ⟨rfl, rfl, rfl, rfl, rfl⟩ d_law_877 d_law_878 d_law_879 d_law_880 d_law_881 ?_
  refine lj_callR GR I.2.2.2.2 (ct_m_worth R.1 n (xv (i + 1)).toInt (xv (i + 2)).toInt (xv (i + 3)).toInt (inR_toInt _) (inR_toInt _) (inR_toInt _) e2) rfl q_1744 cq_m_worth rfl (by decide) (Nat.le_of_ble_eq_true rfl) d_law_882 rfl (fun hr2 => ?_)
  exact lj_lcmp_eq G (tgt := 1562) d_law_885 d_law_886 (by decide) hr1 hr1 (fun _ => next _ _ hJ9) (fun h => absurd rfl h)
