/-! the cases of the law, by program (mk_law.py) -/
set_option maxRecDepth 100000 in
set_option maxHeartbeats 4000000 in
theorem l_case_0 {t n : Nat} {xs : Nat → Int32} {C M : zM} (hR : Rel t C M) (ht : t < 512) (hi : 5 * t + 5 ≤ n) (hn : n ≤ 2560) (k : ∀ C1 M1, Rel (t + 1) C1 M1 → LW xs n 1177 [some (.ref 0), some (.ref 1), some (.ref 2), some (.int (nI (5 * t)))] [] C1 M1) : LW xs n 164 [some (.ref 0), some (.ref 1), some (.ref 2), some (.int (nI (5 * t)))] [] C M := by
  obtain ⟨K, u, o, kd, N, h⟩ := hR
  refine l_aload_n dL_law_164 rfl rfl ?_
  refine l_aload_n dL_law_165 rfl rfl ?_
  refine l_iload_n dL_law_166 rfl rfl ?_
  refine l_iconst (v := 1) dL_law_167 (by decide) ?_
  refine l_iadd dL_law_168 ?_
  refine l_sld (l_in1 hi hn) dL_law_169 ?_
  refine l_i2l dL_law_170 ?_
  refine l_bipush (v := 32) dL_law_171 (by decide) ?_
  refine l_lshl dL_law_173 ?_
  refine l_aload_n dL_law_174 rfl rfl ?_
  refine l_iload_n dL_law_175 rfl rfl ?_
  refine l_iconst (v := 2) dL_law_176 (by decide) ?_
  refine l_iadd dL_law_177 ?_
  refine l_sld (l_in2 hi hn) dL_law_178 ?_
  refine l_i2l dL_law_179 ?_
  refine l_ldc2 dL_law_180 lc_L_13 ?_
  refine l_land dL_law_183 ?_
  refine l_lor dL_law_184 ?_
  refine l_callCi (I2 := m_X6_knot) (st := []) [.long (((xs (zn (nI (5 * t) + 1))).toInt64 <<< ((32 : Int32).toInt64 &&& 63)) ||| (((xs (zn (nI (5 * t) + 2))).toInt64) &&& 4294967295))] dL_law_185 ml_L_15 rfl (by decide) rfl (Nat.le_of_ble_eq_true rfl) (fun _ => rfl) rfl (s_knot (h := h)) (fun x1 C1 k2 => ?_)
  refine l_aload_n dL_law_188 rfl rfl ?_
  refine l_aload_n dL_law_189 rfl rfl ?_
  refine l_iload_n dL_law_190 rfl rfl ?_
  refine l_iconst (v := 1) dL_law_191 (by decide) ?_
  refine l_iadd dL_law_192 ?_
  refine l_sld (l_in1 hi hn) dL_law_193 ?_
  refine l_i2l dL_law_194 ?_
  refine l_bipush (v := 32) dL_law_195 (by decide) ?_
  refine l_lshl dL_law_197 ?_
  refine l_aload_n dL_law_198 rfl rfl ?_
  refine l_iload_n dL_law_199 rfl rfl ?_
  refine l_iconst (v := 2) dL_law_200 (by decide) ?_
  refine l_iadd dL_law_201 ?_
  refine l_sld (l_in2 hi hn) dL_law_202 ?_
  refine l_i2l dL_law_203 ?_
  refine l_ldc2 dL_law_204 lc_L_13 ?_
  refine l_land dL_law_207 ?_
  refine l_lor dL_law_208 ?_
  refine l_callMi (I2 := m_X7_knot) (st := [.int x1]) [.long (((xs (zn (nI (5 * t) + 1))).toInt64 <<< ((32 : Int32).toInt64 &&& 63)) ||| (((xs (zn (nI (5 * t) + 2))).toInt64) &&& 4294967295))] dL_law_209 ml_L_19 rfl (by decide) rfl (Nat.le_of_ble_eq_true rfl) (fun _ => rfl) rfl k2 (fun x2 M1 k3 => ?_)
  exact l_icmp_eq 1177 dL_law_212 (by decide) ⟨fun _ => k C1 M1 k3.2, fun z => absurd k3.1.symm z⟩
set_option maxRecDepth 100000 in
set_option maxHeartbeats 4000000 in
theorem l_case_1 {t n : Nat} {xs : Nat → Int32} {C M : zM} (hR : Rel t C M) (ht : t < 512) (hi : 5 * t + 5 ≤ n) (hn : n ≤ 2560) (k : ∀ C1 M1, Rel (t + 1) C1 M1 → LW xs n 1177 [some (.ref 0), some (.ref 1), some (.ref 2), some (.int (nI (5 * t)))] [] C1 M1) : LW xs n 217 [some (.ref 0), some (.ref 1), some (.ref 2), some (.int (nI (5 * t)))] [] C M := by
  obtain ⟨K, u, o, kd, N, h⟩ := hR
  refine l_aload_n dL_law_217 rfl rfl ?_
  refine l_aload_n dL_law_218 rfl rfl ?_
  refine l_iload_n dL_law_219 rfl rfl ?_
  refine l_iconst (v := 1) dL_law_220 (by decide) ?_
  refine l_iadd dL_law_221 ?_
  refine l_sld (l_in1 hi hn) dL_law_222 ?_
  refine l_callCi (I2 := m_X6_kind) (st := []) [.int (xs (zn (nI (5 * t) + 1)))] dL_law_223 ml_L_20 rfl (by decide) rfl (Nat.le_of_ble_eq_true rfl) (fun _ => rfl) rfl (s_kind (h := h)) (fun x1 C1 k2 => ?_)
  refine l_aload_n dL_law_226 rfl rfl ?_
  refine l_aload_n dL_law_227 rfl rfl ?_
  refine l_iload_n dL_law_228 rfl rfl ?_
  refine l_iconst (v := 1) dL_law_229 (by decide) ?_
  refine l_iadd dL_law_230 ?_
  refine l_sld (l_in1 hi hn) dL_law_231 ?_
  refine l_callMi (I2 := m_X7_kind) (st := [.int x1]) [.int (xs (zn (nI (5 * t) + 1)))] dL_law_232 ml_L_24 rfl (by decide) rfl (Nat.le_of_ble_eq_true rfl) (fun _ => rfl) rfl k2 (fun x2 M1 k3 => ?_)
  exact l_icmp_eq 1177 dL_law_235 (by decide) ⟨fun _ => k C1 M1 k3.2, fun z => absurd k3.1.symm z⟩
set_option maxRecDepth 100000 in
set_option maxHeartbeats 4000000 in
theorem l_case_2 {t n : Nat} {xs : Nat → Int32} {C M : zM} (hR : Rel t C M) (ht : t < 512) (hi : 5 * t + 5 ≤ n) (hn : n ≤ 2560) (k : ∀ C1 M1, Rel (t + 1) C1 M1 → LW xs n 1177 [some (.ref 0), some (.ref 1), some (.ref 2), some (.int (nI (5 * t)))] [] C1 M1) : LW xs n 240 [some (.ref 0), some (.ref 1), some (.ref 2), some (.int (nI (5 * t)))] [] C M := by
  obtain ⟨K, u, o, kd, N, h⟩ := hR
  refine l_aload_n dL_law_240 rfl rfl ?_
  refine l_aload_n dL_law_241 rfl rfl ?_
  refine l_iload_n dL_law_242 rfl rfl ?_
  refine l_iconst (v := 1) dL_law_243 (by decide) ?_
  refine l_iadd dL_law_244 ?_
  refine l_sld (l_in1 hi hn) dL_law_245 ?_
  refine l_aload_n dL_law_246 rfl rfl ?_
  refine l_iload_n dL_law_247 rfl rfl ?_
  refine l_iconst (v := 2) dL_law_248 (by decide) ?_
  refine l_iadd dL_law_249 ?_
  refine l_sld (l_in2 hi hn) dL_law_250 ?_
  refine l_aload_n dL_law_251 rfl rfl ?_
  refine l_iload_n dL_law_252 rfl rfl ?_
  refine l_iconst (v := 3) dL_law_253 (by decide) ?_
  refine l_iadd dL_law_254 ?_
  refine l_sld (l_in3 hi hn) dL_law_255 ?_
  refine l_i2l dL_law_256 ?_
  refine l_bipush (v := 32) dL_law_257 (by decide) ?_
  refine l_lshl dL_law_259 ?_
  refine l_aload_n dL_law_260 rfl rfl ?_
  refine l_iload_n dL_law_261 rfl rfl ?_
  refine l_iconst (v := 4) dL_law_262 (by decide) ?_
  refine l_iadd dL_law_263 ?_
  refine l_sld (l_in4 hi hn) dL_law_264 ?_
  refine l_i2l dL_law_265 ?_
  refine l_ldc2 dL_law_266 lc_L_13 ?_
  refine l_land dL_law_269 ?_
  refine l_lor dL_law_270 ?_
  refine l_callCi (I2 := m_X6_edge) (st := []) [.int (xs (zn (nI (5 * t) + 1))), .int (xs (zn (nI (5 * t) + 2))), .long (((xs (zn (nI (5 * t) + 3))).toInt64 <<< ((32 : Int32).toInt64 &&& 63)) ||| (((xs (zn (nI (5 * t) + 4))).toInt64) &&& 4294967295))] dL_law_271 ml_L_25 rfl (by decide) rfl (Nat.le_of_ble_eq_true rfl) (fun _ => rfl) rfl (s_edge (h := h)) (fun x1 C1 k2 => ?_)
  refine l_aload_n dL_law_274 rfl rfl ?_
  refine l_aload_n dL_law_275 rfl rfl ?_
  refine l_iload_n dL_law_276 rfl rfl ?_
  refine l_iconst (v := 1) dL_law_277 (by decide) ?_
  refine l_iadd dL_law_278 ?_
  refine l_sld (l_in1 hi hn) dL_law_279 ?_
  refine l_aload_n dL_law_280 rfl rfl ?_
  refine l_iload_n dL_law_281 rfl rfl ?_
  refine l_iconst (v := 2) dL_law_282 (by decide) ?_
  refine l_iadd dL_law_283 ?_
  refine l_sld (l_in2 hi hn) dL_law_284 ?_
  refine l_aload_n dL_law_285 rfl rfl ?_
  refine l_iload_n dL_law_286 rfl rfl ?_
  refine l_iconst (v := 3) dL_law_287 (by decide) ?_
  refine l_iadd dL_law_288 ?_
  refine l_sld (l_in3 hi hn) dL_law_289 ?_
  refine l_i2l dL_law_290 ?_
  refine l_bipush (v := 32) dL_law_291 (by decide) ?_
  refine l_lshl dL_law_293 ?_
  refine l_aload_n dL_law_294 rfl rfl ?_
  refine l_iload_n dL_law_295 rfl rfl ?_
  refine l_iconst (v := 4) dL_law_296 (by decide) ?_
  refine l_iadd dL_law_297 ?_
  refine l_sld (l_in4 hi hn) dL_law_298 ?_
  refine l_i2l dL_law_299 ?_
  refine l_ldc2 dL_law_300 lc_L_13 ?_
  refine l_land dL_law_303 ?_
  refine l_lor dL_law_304 ?_
  refine l_callMi (I2 := m_X7_edge) (st := [.int x1]) [.int (xs (zn (nI (5 * t) + 1))), .int (xs (zn (nI (5 * t) + 2))), .long (((xs (zn (nI (5 * t) + 3))).toInt64 <<< ((32 : Int32).toInt64 &&& 63)) ||| (((xs (zn (nI (5 * t) + 4))).toInt64) &&& 4294967295))] dL_law_305 ml_L_29 rfl (by decide) rfl (Nat.le_of_ble_eq_true rfl) (fun _ => rfl) rfl k2 (fun x2 M1 k3 => ?_)
  exact l_icmp_eq 1177 dL_law_308 (by decide) ⟨fun _ => k C1 M1 k3.2, fun z => absurd k3.1.symm z⟩
set_option maxRecDepth 100000 in
set_option maxHeartbeats 4000000 in
theorem l_case_3 {t n : Nat} {xs : Nat → Int32} {C M : zM} (hR : Rel t C M) (ht : t < 512) (hi : 5 * t + 5 ≤ n) (hn : n ≤ 2560) (k : ∀ C1 M1, Rel (t + 1) C1 M1 → LW xs n 1177 [some (.ref 0), some (.ref 1), some (.ref 2), some (.int (nI (5 * t)))] [] C1 M1) : LW xs n 313 [some (.ref 0), some (.ref 1), some (.ref 2), some (.int (nI (5 * t)))] [] C M := by
  obtain ⟨K, u, o, kd, N, h⟩ := hR
  refine l_aload_n dL_law_313 rfl rfl ?_
  refine l_aload_n dL_law_314 rfl rfl ?_
  refine l_iload_n dL_law_315 rfl rfl ?_
  refine l_iconst (v := 1) dL_law_316 (by decide) ?_
  refine l_iadd dL_law_317 ?_
  refine l_sld (l_in1 hi hn) dL_law_318 ?_
  refine l_callCi (I2 := m_X6_cut) (st := []) [.int (xs (zn (nI (5 * t) + 1)))] dL_law_319 ml_L_30 rfl (by decide) rfl (Nat.le_of_ble_eq_true rfl) (fun _ => rfl) rfl (s_cut (h := h)) (fun x1 C1 k2 => ?_)
  refine l_aload_n dL_law_322 rfl rfl ?_
  refine l_aload_n dL_law_323 rfl rfl ?_
  refine l_iload_n dL_law_324 rfl rfl ?_
  refine l_iconst (v := 1) dL_law_325 (by decide) ?_
  refine l_iadd dL_law_326 ?_
  refine l_sld (l_in1 hi hn) dL_law_327 ?_
  refine l_callMi (I2 := m_X7_cut) (st := [.int x1]) [.int (xs (zn (nI (5 * t) + 1)))] dL_law_328 ml_L_33 rfl (by decide) rfl (Nat.le_of_ble_eq_true rfl) (fun _ => rfl) rfl k2 (fun x2 M1 k3 => ?_)
  exact l_icmp_eq 1177 dL_law_331 (by decide) ⟨fun _ => k C1 M1 k3.2, fun z => absurd k3.1.symm z⟩
set_option maxRecDepth 100000 in
set_option maxHeartbeats 4000000 in
theorem l_case_4 {t n : Nat} {xs : Nat → Int32} {C M : zM} (hR : Rel t C M) (ht : t < 512) (hi : 5 * t + 5 ≤ n) (hn : n ≤ 2560) (k : ∀ C1 M1, Rel (t + 1) C1 M1 → LW xs n 1177 [some (.ref 0), some (.ref 1), some (.ref 2), some (.int (nI (5 * t)))] [] C1 M1) : LW xs n 336 [some (.ref 0), some (.ref 1), some (.ref 2), some (.int (nI (5 * t)))] [] C M := by
  obtain ⟨K, u, o, kd, N, h⟩ := hR
  refine l_aload_n dL_law_336 rfl rfl ?_
  refine l_aload_n dL_law_337 rfl rfl ?_
  refine l_iload_n dL_law_338 rfl rfl ?_
  refine l_iconst (v := 1) dL_law_339 (by decide) ?_
  refine l_iadd dL_law_340 ?_
  refine l_sld (l_in1 hi hn) dL_law_341 ?_
  refine l_callCi (I2 := m_X6_instead) (st := []) [.int (xs (zn (nI (5 * t) + 1)))] dL_law_342 ml_L_34 rfl (by decide) rfl (Nat.le_of_ble_eq_true rfl) (fun _ => rfl) rfl (s_instead (h := h)) (fun x1 C1 k2 => ?_)
  refine l_aload_n dL_law_345 rfl rfl ?_
  refine l_aload_n dL_law_346 rfl rfl ?_
  refine l_iload_n dL_law_347 rfl rfl ?_
  refine l_iconst (v := 1) dL_law_348 (by decide) ?_
  refine l_iadd dL_law_349 ?_
  refine l_sld (l_in1 hi hn) dL_law_350 ?_
  refine l_callMi (I2 := m_X7_instead) (st := [.int x1]) [.int (xs (zn (nI (5 * t) + 1)))] dL_law_351 ml_L_37 rfl (by decide) rfl (Nat.le_of_ble_eq_true rfl) (fun _ => rfl) rfl k2 (fun x2 M1 k3 => ?_)
  exact l_icmp_eq 1177 dL_law_354 (by decide) ⟨fun _ => k C1 M1 k3.2, fun z => absurd k3.1.symm z⟩
set_option maxRecDepth 100000 in
set_option maxHeartbeats 4000000 in
theorem l_case_5 {t n : Nat} {xs : Nat → Int32} {C M : zM} (hR : Rel t C M) (ht : t < 512) (hi : 5 * t + 5 ≤ n) (hn : n ≤ 2560) (k : ∀ C1 M1, Rel (t + 1) C1 M1 → LW xs n 1177 [some (.ref 0), some (.ref 1), some (.ref 2), some (.int (nI (5 * t)))] [] C1 M1) : LW xs n 359 [some (.ref 0), some (.ref 1), some (.ref 2), some (.int (nI (5 * t)))] [] C M := by
  obtain ⟨K, u, o, kd, N, h⟩ := hR
  refine l_aload_n dL_law_359 rfl rfl ?_
  refine l_aload_n dL_law_360 rfl rfl ?_
  refine l_iload_n dL_law_361 rfl rfl ?_
  refine l_iconst (v := 1) dL_law_362 (by decide) ?_
  refine l_iadd dL_law_363 ?_
  refine l_sld (l_in1 hi hn) dL_law_364 ?_
  refine l_aload_n dL_law_365 rfl rfl ?_
  refine l_iload_n dL_law_366 rfl rfl ?_
  refine l_iconst (v := 2) dL_law_367 (by decide) ?_
  refine l_iadd dL_law_368 ?_
  refine l_sld (l_in2 hi hn) dL_law_369 ?_
  refine l_callCi (I2 := m_X6_told) (st := []) [.int (xs (zn (nI (5 * t) + 1))), .int (xs (zn (nI (5 * t) + 2)))] dL_law_370 ml_L_38 rfl (by decide) rfl (Nat.le_of_ble_eq_true rfl) (fun _ => rfl) rfl (s_told (h := h)) (fun x1 C1 k2 => ?_)
  refine l_aload_n dL_law_373 rfl rfl ?_
  refine l_aload_n dL_law_374 rfl rfl ?_
  refine l_iload_n dL_law_375 rfl rfl ?_
  refine l_iconst (v := 1) dL_law_376 (by decide) ?_
  refine l_iadd dL_law_377 ?_
  refine l_sld (l_in1 hi hn) dL_law_378 ?_
  refine l_aload_n dL_law_379 rfl rfl ?_
  refine l_iload_n dL_law_380 rfl rfl ?_
  refine l_iconst (v := 2) dL_law_381 (by decide) ?_
  refine l_iadd dL_law_382 ?_
  refine l_sld (l_in2 hi hn) dL_law_383 ?_
  refine l_callMi (I2 := m_X7_told) (st := [.int x1]) [.int (xs (zn (nI (5 * t) + 1))), .int (xs (zn (nI (5 * t) + 2)))] dL_law_384 ml_L_42 rfl (by decide) rfl (Nat.le_of_ble_eq_true rfl) (fun _ => rfl) rfl k2 (fun x2 M1 k3 => ?_)
  exact l_icmp_eq 1177 dL_law_387 (by decide) ⟨fun _ => k C1 M1 k3.2, fun z => absurd k3.1.symm z⟩
set_option maxRecDepth 100000 in
set_option maxHeartbeats 4000000 in
theorem l_case_6 {t n : Nat} {xs : Nat → Int32} {C M : zM} (hR : Rel t C M) (ht : t < 512) (hi : 5 * t + 5 ≤ n) (hn : n ≤ 2560) (k : ∀ C1 M1, Rel (t + 1) C1 M1 → LW xs n 1177 [some (.ref 0), some (.ref 1), some (.ref 2), some (.int (nI (5 * t)))] [] C1 M1) : LW xs n 392 [some (.ref 0), some (.ref 1), some (.ref 2), some (.int (nI (5 * t)))] [] C M := by
  obtain ⟨K, u, o, kd, N, h⟩ := hR
  refine l_aload_n dL_law_392 rfl rfl ?_
  refine l_aload_n dL_law_393 rfl rfl ?_
  refine l_iload_n dL_law_394 rfl rfl ?_
  refine l_iconst (v := 1) dL_law_395 (by decide) ?_
  refine l_iadd dL_law_396 ?_
  refine l_sld (l_in1 hi hn) dL_law_397 ?_
  refine l_callCl (I2 := m_X6_weight) (st := []) [.int (xs (zn (nI (5 * t) + 1)))] dL_law_398 ml_L_43 rfl (by decide) rfl (Nat.le_of_ble_eq_true rfl) (fun _ => rfl) rfl (s_weight (h := h)) (fun x1 C1 k2 => ?_)
  refine l_aload_n dL_law_401 rfl rfl ?_
  refine l_aload_n dL_law_402 rfl rfl ?_
  refine l_iload_n dL_law_403 rfl rfl ?_
  refine l_iconst (v := 1) dL_law_404 (by decide) ?_
  refine l_iadd dL_law_405 ?_
  refine l_sld (l_in1 hi hn) dL_law_406 ?_
  refine l_callMl (I2 := m_X7_weight) (st := [.long x1]) [.int (xs (zn (nI (5 * t) + 1)))] dL_law_407 ml_L_47 rfl (by decide) rfl (Nat.le_of_ble_eq_true rfl) (fun _ => rfl) rfl k2 (fun x2 M1 k3 => ?_)
  refine l_lcmp dL_law_410 ?_
  exact l_if_eq 1177 dL_law_411 (by decide) ⟨fun _ => k C1 M1 k3.2, fun z => absurd (by rw [lcmp_eq]; exact k3.1.symm) z⟩
set_option maxRecDepth 100000 in
set_option maxHeartbeats 4000000 in
theorem l_case_7 {t n : Nat} {xs : Nat → Int32} {C M : zM} (hR : Rel t C M) (ht : t < 512) (hi : 5 * t + 5 ≤ n) (hn : n ≤ 2560) (k : ∀ C1 M1, Rel (t + 1) C1 M1 → LW xs n 1177 [some (.ref 0), some (.ref 1), some (.ref 2), some (.int (nI (5 * t)))] [] C1 M1) : LW xs n 416 [some (.ref 0), some (.ref 1), some (.ref 2), some (.int (nI (5 * t)))] [] C M := by
  obtain ⟨K, u, o, kd, N, h⟩ := hR
  refine l_aload_n dL_law_416 rfl rfl ?_
  refine l_aload_n dL_law_417 rfl rfl ?_
  refine l_iload_n dL_law_418 rfl rfl ?_
  refine l_iconst (v := 1) dL_law_419 (by decide) ?_
  refine l_iadd dL_law_420 ?_
  refine l_sld (l_in1 hi hn) dL_law_421 ?_
  refine l_callCi (I2 := m_X6_count) (st := []) [.int (xs (zn (nI (5 * t) + 1)))] dL_law_422 ml_L_48 rfl (by decide) rfl (Nat.le_of_ble_eq_true rfl) (fun _ => rfl) rfl (s_count (h := h)) (fun x1 C1 k2 => ?_)
  refine l_aload_n dL_law_425 rfl rfl ?_
  refine l_aload_n dL_law_426 rfl rfl ?_
  refine l_iload_n dL_law_427 rfl rfl ?_
  refine l_iconst (v := 1) dL_law_428 (by decide) ?_
  refine l_iadd dL_law_429 ?_
  refine l_sld (l_in1 hi hn) dL_law_430 ?_
  refine l_callMi (I2 := m_X7_count) (st := [.int x1]) [.int (xs (zn (nI (5 * t) + 1)))] dL_law_431 ml_L_51 rfl (by decide) rfl (Nat.le_of_ble_eq_true rfl) (fun _ => rfl) rfl k2 (fun x2 M1 k3 => ?_)
  exact l_icmp_eq 1177 dL_law_434 (by decide) ⟨fun _ => k C1 M1 k3.2, fun z => absurd k3.1.symm z⟩
set_option maxRecDepth 100000 in
set_option maxHeartbeats 4000000 in
theorem l_case_8 {t n : Nat} {xs : Nat → Int32} {C M : zM} (hR : Rel t C M) (ht : t < 512) (hi : 5 * t + 5 ≤ n) (hn : n ≤ 2560) (k : ∀ C1 M1, Rel (t + 1) C1 M1 → LW xs n 1177 [some (.ref 0), some (.ref 1), some (.ref 2), some (.int (nI (5 * t)))] [] C1 M1) : LW xs n 439 [some (.ref 0), some (.ref 1), some (.ref 2), some (.int (nI (5 * t)))] [] C M := by
  obtain ⟨K, u, o, kd, N, h⟩ := hR
  refine l_aload_n dL_law_439 rfl rfl ?_
  refine l_callCl (I2 := m_X6_total) (st := []) [] dL_law_440 ml_L_52 rfl (by decide) rfl (Nat.le_of_ble_eq_true rfl) (fun _ => rfl) rfl (s_total (h := h)) (fun x1 C1 k2 => ?_)
  refine l_aload_n dL_law_443 rfl rfl ?_
  refine l_callMl (I2 := m_X7_total) (st := [.long x1]) [] dL_law_444 ml_L_56 rfl (by decide) rfl (Nat.le_of_ble_eq_true rfl) (fun _ => rfl) rfl k2 (fun x2 M1 k3 => ?_)
  refine l_lcmp dL_law_447 ?_
  exact l_if_eq 1177 dL_law_448 (by decide) ⟨fun _ => k C1 M1 k3.2, fun z => absurd (by rw [lcmp_eq]; exact k3.1.symm) z⟩
set_option maxRecDepth 100000 in
set_option maxHeartbeats 4000000 in
theorem l_case_9 {t n : Nat} {xs : Nat → Int32} {C M : zM} (hR : Rel t C M) (ht : t < 512) (hi : 5 * t + 5 ≤ n) (hn : n ≤ 2560) (k : ∀ C1 M1, Rel (t + 1) C1 M1 → LW xs n 1177 [some (.ref 0), some (.ref 1), some (.ref 2), some (.int (nI (5 * t)))] [] C1 M1) : LW xs n 453 [some (.ref 0), some (.ref 1), some (.ref 2), some (.int (nI (5 * t)))] [] C M := by
  obtain ⟨K, u, o, kd, N, h⟩ := hR
  refine l_aload_n dL_law_453 rfl rfl ?_
  refine l_aload_n dL_law_454 rfl rfl ?_
  refine l_iload_n dL_law_455 rfl rfl ?_
  refine l_iconst (v := 1) dL_law_456 (by decide) ?_
  refine l_iadd dL_law_457 ?_
  refine l_sld (l_in1 hi hn) dL_law_458 ?_
  refine l_aload_n dL_law_459 rfl rfl ?_
  refine l_iload_n dL_law_460 rfl rfl ?_
  refine l_iconst (v := 2) dL_law_461 (by decide) ?_
  refine l_iadd dL_law_462 ?_
  refine l_sld (l_in2 hi hn) dL_law_463 ?_
  refine l_callCi (I2 := m_X6_together) (st := []) [.int (xs (zn (nI (5 * t) + 1))), .int (xs (zn (nI (5 * t) + 2)))] dL_law_464 ml_L_57 rfl (by decide) rfl (Nat.le_of_ble_eq_true rfl) (fun _ => rfl) rfl (s_together (h := h)) (fun x1 C1 k2 => ?_)
  refine l_aload_n dL_law_467 rfl rfl ?_
  refine l_aload_n dL_law_468 rfl rfl ?_
  refine l_iload_n dL_law_469 rfl rfl ?_
  refine l_iconst (v := 1) dL_law_470 (by decide) ?_
  refine l_iadd dL_law_471 ?_
  refine l_sld (l_in1 hi hn) dL_law_472 ?_
  refine l_aload_n dL_law_473 rfl rfl ?_
  refine l_iload_n dL_law_474 rfl rfl ?_
  refine l_iconst (v := 2) dL_law_475 (by decide) ?_
  refine l_iadd dL_law_476 ?_
  refine l_sld (l_in2 hi hn) dL_law_477 ?_
  refine l_callMi (I2 := m_X7_together) (st := [.int x1]) [.int (xs (zn (nI (5 * t) + 1))), .int (xs (zn (nI (5 * t) + 2)))] dL_law_478 ml_L_60 rfl (by decide) rfl (Nat.le_of_ble_eq_true rfl) (fun _ => rfl) rfl k2 (fun x2 M1 k3 => ?_)
  exact l_icmp_eq 1177 dL_law_481 (by decide) ⟨fun _ => k C1 M1 k3.2, fun z => absurd k3.1.symm z⟩
set_option maxRecDepth 100000 in
set_option maxHeartbeats 4000000 in
theorem l_case_10 {t n : Nat} {xs : Nat → Int32} {C M : zM} (hR : Rel t C M) (ht : t < 512) (hi : 5 * t + 5 ≤ n) (hn : n ≤ 2560) (k : ∀ C1 M1, Rel (t + 1) C1 M1 → LW xs n 1177 [some (.ref 0), some (.ref 1), some (.ref 2), some (.int (nI (5 * t)))] [] C1 M1) : LW xs n 486 [some (.ref 0), some (.ref 1), some (.ref 2), some (.int (nI (5 * t)))] [] C M := by
  obtain ⟨K, u, o, kd, N, h⟩ := hR
  refine l_aload_n dL_law_486 rfl rfl ?_
  refine l_aload_n dL_law_487 rfl rfl ?_
  refine l_iload_n dL_law_488 rfl rfl ?_
  refine l_iconst (v := 1) dL_law_489 (by decide) ?_
  refine l_iadd dL_law_490 ?_
  refine l_sld (l_in1 hi hn) dL_law_491 ?_
  refine l_callCi (I2 := m_X6_size) (st := []) [.int (xs (zn (nI (5 * t) + 1)))] dL_law_492 ml_L_61 rfl (by decide) rfl (Nat.le_of_ble_eq_true rfl) (fun _ => rfl) rfl (s_size (h := h)) (fun x1 C1 k2 => ?_)
  refine l_aload_n dL_law_495 rfl rfl ?_
  refine l_aload_n dL_law_496 rfl rfl ?_
  refine l_iload_n dL_law_497 rfl rfl ?_
  refine l_iconst (v := 1) dL_law_498 (by decide) ?_
  refine l_iadd dL_law_499 ?_
  refine l_sld (l_in1 hi hn) dL_law_500 ?_
  refine l_callMi (I2 := m_X7_size) (st := [.int x1]) [.int (xs (zn (nI (5 * t) + 1)))] dL_law_501 ml_L_64 rfl (by decide) rfl (Nat.le_of_ble_eq_true rfl) (fun _ => rfl) rfl k2 (fun x2 M1 k3 => ?_)
  exact l_icmp_eq 1177 dL_law_504 (by decide) ⟨fun _ => k C1 M1 k3.2, fun z => absurd k3.1.symm z⟩
set_option maxRecDepth 100000 in
set_option maxHeartbeats 4000000 in
theorem l_case_11 {t n : Nat} {xs : Nat → Int32} {C M : zM} (hR : Rel t C M) (ht : t < 512) (hi : 5 * t + 5 ≤ n) (hn : n ≤ 2560) (k : ∀ C1 M1, Rel (t + 1) C1 M1 → LW xs n 1177 [some (.ref 0), some (.ref 1), some (.ref 2), some (.int (nI (5 * t)))] [] C1 M1) : LW xs n 509 [some (.ref 0), some (.ref 1), some (.ref 2), some (.int (nI (5 * t)))] [] C M := by
  obtain ⟨K, u, o, kd, N, h⟩ := hR
  refine l_aload_n dL_law_509 rfl rfl ?_
  refine l_aload_n dL_law_510 rfl rfl ?_
  refine l_iload_n dL_law_511 rfl rfl ?_
  refine l_iconst (v := 1) dL_law_512 (by decide) ?_
  refine l_iadd dL_law_513 ?_
  refine l_sld (l_in1 hi hn) dL_law_514 ?_
  refine l_aload_n dL_law_515 rfl rfl ?_
  refine l_iload_n dL_law_516 rfl rfl ?_
  refine l_iconst (v := 2) dL_law_517 (by decide) ?_
  refine l_iadd dL_law_518 ?_
  refine l_sld (l_in2 hi hn) dL_law_519 ?_
  refine l_callCi (I2 := m_X6_member) (st := []) [.int (xs (zn (nI (5 * t) + 1))), .int (xs (zn (nI (5 * t) + 2)))] dL_law_520 ml_L_65 rfl (by decide) rfl (Nat.le_of_ble_eq_true rfl) (fun _ => rfl) rfl (s_member (h := h)) (fun x1 C1 k2 => ?_)
  refine l_aload_n dL_law_523 rfl rfl ?_
  refine l_aload_n dL_law_524 rfl rfl ?_
  refine l_iload_n dL_law_525 rfl rfl ?_
  refine l_iconst (v := 1) dL_law_526 (by decide) ?_
  refine l_iadd dL_law_527 ?_
  refine l_sld (l_in1 hi hn) dL_law_528 ?_
  refine l_aload_n dL_law_529 rfl rfl ?_
  refine l_iload_n dL_law_530 rfl rfl ?_
  refine l_iconst (v := 2) dL_law_531 (by decide) ?_
  refine l_iadd dL_law_532 ?_
  refine l_sld (l_in2 hi hn) dL_law_533 ?_
  refine l_callMi (I2 := m_X7_member) (st := [.int x1]) [.int (xs (zn (nI (5 * t) + 1))), .int (xs (zn (nI (5 * t) + 2)))] dL_law_534 ml_L_68 rfl (by decide) rfl (Nat.le_of_ble_eq_true rfl) (fun _ => rfl) rfl k2 (fun x2 M1 k3 => ?_)
  exact l_icmp_eq 1177 dL_law_537 (by decide) ⟨fun _ => k C1 M1 k3.2, fun z => absurd k3.1.symm z⟩
set_option maxRecDepth 100000 in
set_option maxHeartbeats 4000000 in
theorem l_case_12 {t n : Nat} {xs : Nat → Int32} {C M : zM} (hR : Rel t C M) (ht : t < 512) (hi : 5 * t + 5 ≤ n) (hn : n ≤ 2560) (k : ∀ C1 M1, Rel (t + 1) C1 M1 → LW xs n 1177 [some (.ref 0), some (.ref 1), some (.ref 2), some (.int (nI (5 * t)))] [] C1 M1) : LW xs n 542 [some (.ref 0), some (.ref 1), some (.ref 2), some (.int (nI (5 * t)))] [] C M := by
  obtain ⟨K, u, o, kd, N, h⟩ := hR
  refine l_aload_n dL_law_542 rfl rfl ?_
  refine l_aload_n dL_law_543 rfl rfl ?_
  refine l_iload_n dL_law_544 rfl rfl ?_
  refine l_iconst (v := 1) dL_law_545 (by decide) ?_
  refine l_iadd dL_law_546 ?_
  refine l_sld (l_in1 hi hn) dL_law_547 ?_
  refine l_aload_n dL_law_548 rfl rfl ?_
  refine l_iload_n dL_law_549 rfl rfl ?_
  refine l_iconst (v := 2) dL_law_550 (by decide) ?_
  refine l_iadd dL_law_551 ?_
  refine l_sld (l_in2 hi hn) dL_law_552 ?_
  refine l_callCi (I2 := m_X6_way) (st := []) [.int (xs (zn (nI (5 * t) + 1))), .int (xs (zn (nI (5 * t) + 2)))] dL_law_553 ml_L_69 rfl (by decide) rfl (Nat.le_of_ble_eq_true rfl) (fun _ => rfl) rfl (s_way (h := h)) (fun x1 C1 k2 => ?_)
  refine l_aload_n dL_law_556 rfl rfl ?_
  refine l_aload_n dL_law_557 rfl rfl ?_
  refine l_iload_n dL_law_558 rfl rfl ?_
  refine l_iconst (v := 1) dL_law_559 (by decide) ?_
  refine l_iadd dL_law_560 ?_
  refine l_sld (l_in1 hi hn) dL_law_561 ?_
  refine l_aload_n dL_law_562 rfl rfl ?_
  refine l_iload_n dL_law_563 rfl rfl ?_
  refine l_iconst (v := 2) dL_law_564 (by decide) ?_
  refine l_iadd dL_law_565 ?_
  refine l_sld (l_in2 hi hn) dL_law_566 ?_
  refine l_callMi (I2 := m_X7_way) (st := [.int x1]) [.int (xs (zn (nI (5 * t) + 1))), .int (xs (zn (nI (5 * t) + 2)))] dL_law_567 ml_L_72 rfl (by decide) rfl (Nat.le_of_ble_eq_true rfl) (fun _ => rfl) rfl k2 (fun x2 M1 k3 => ?_)
  exact l_icmp_eq 1177 dL_law_570 (by decide) ⟨fun _ => k C1 M1 k3.2, fun z => absurd k3.1.symm z⟩
set_option maxRecDepth 100000 in
set_option maxHeartbeats 4000000 in
theorem l_case_13 {t n : Nat} {xs : Nat → Int32} {C M : zM} (hR : Rel t C M) (ht : t < 512) (hi : 5 * t + 5 ≤ n) (hn : n ≤ 2560) (k : ∀ C1 M1, Rel (t + 1) C1 M1 → LW xs n 1177 [some (.ref 0), some (.ref 1), some (.ref 2), some (.int (nI (5 * t)))] [] C1 M1) : LW xs n 575 [some (.ref 0), some (.ref 1), some (.ref 2), some (.int (nI (5 * t)))] [] C M := by
  obtain ⟨K, u, o, kd, N, h⟩ := hR
  refine l_aload_n dL_law_575 rfl rfl ?_
  refine l_aload_n dL_law_576 rfl rfl ?_
  refine l_iload_n dL_law_577 rfl rfl ?_
  refine l_iconst (v := 1) dL_law_578 (by decide) ?_
  refine l_iadd dL_law_579 ?_
  refine l_sld (l_in1 hi hn) dL_law_580 ?_
  refine l_aload_n dL_law_581 rfl rfl ?_
  refine l_iload_n dL_law_582 rfl rfl ?_
  refine l_iconst (v := 2) dL_law_583 (by decide) ?_
  refine l_iadd dL_law_584 ?_
  refine l_sld (l_in2 hi hn) dL_law_585 ?_
  refine l_aload_n dL_law_586 rfl rfl ?_
  refine l_iload_n dL_law_587 rfl rfl ?_
  refine l_iconst (v := 3) dL_law_588 (by decide) ?_
  refine l_iadd dL_law_589 ?_
  refine l_sld (l_in3 hi hn) dL_law_590 ?_
  refine l_callCi (I2 := m_X6_between) (st := []) [.int (xs (zn (nI (5 * t) + 1))), .int (xs (zn (nI (5 * t) + 2))), .int (xs (zn (nI (5 * t) + 3)))] dL_law_591 ml_L_73 rfl (by decide) rfl (Nat.le_of_ble_eq_true rfl) (fun _ => rfl) rfl (s_between (h := h)) (fun x1 C1 k2 => ?_)
  refine l_aload_n dL_law_594 rfl rfl ?_
  refine l_aload_n dL_law_595 rfl rfl ?_
  refine l_iload_n dL_law_596 rfl rfl ?_
  refine l_iconst (v := 1) dL_law_597 (by decide) ?_
  refine l_iadd dL_law_598 ?_
  refine l_sld (l_in1 hi hn) dL_law_599 ?_
  refine l_aload_n dL_law_600 rfl rfl ?_
  refine l_iload_n dL_law_601 rfl rfl ?_
  refine l_iconst (v := 2) dL_law_602 (by decide) ?_
  refine l_iadd dL_law_603 ?_
  refine l_sld (l_in2 hi hn) dL_law_604 ?_
  refine l_aload_n dL_law_605 rfl rfl ?_
  refine l_iload_n dL_law_606 rfl rfl ?_
  refine l_iconst (v := 3) dL_law_607 (by decide) ?_
  refine l_iadd dL_law_608 ?_
  refine l_sld (l_in3 hi hn) dL_law_609 ?_
  refine l_callMi (I2 := m_X7_between) (st := [.int x1]) [.int (xs (zn (nI (5 * t) + 1))), .int (xs (zn (nI (5 * t) + 2))), .int (xs (zn (nI (5 * t) + 3)))] dL_law_610 ml_L_77 rfl (by decide) rfl (Nat.le_of_ble_eq_true rfl) (fun _ => rfl) rfl k2 (fun x2 M1 k3 => ?_)
  exact l_icmp_eq 1177 dL_law_613 (by decide) ⟨fun _ => k C1 M1 k3.2, fun z => absurd k3.1.symm z⟩
set_option maxRecDepth 100000 in
set_option maxHeartbeats 4000000 in
theorem l_case_14 {t n : Nat} {xs : Nat → Int32} {C M : zM} (hR : Rel t C M) (ht : t < 512) (hi : 5 * t + 5 ≤ n) (hn : n ≤ 2560) (k : ∀ C1 M1, Rel (t + 1) C1 M1 → LW xs n 1177 [some (.ref 0), some (.ref 1), some (.ref 2), some (.int (nI (5 * t)))] [] C1 M1) : LW xs n 618 [some (.ref 0), some (.ref 1), some (.ref 2), some (.int (nI (5 * t)))] [] C M := by
  obtain ⟨K, u, o, kd, N, h⟩ := hR
  refine l_aload_n dL_law_618 rfl rfl ?_
  refine l_aload_n dL_law_619 rfl rfl ?_
  refine l_iload_n dL_law_620 rfl rfl ?_
  refine l_iconst (v := 1) dL_law_621 (by decide) ?_
  refine l_iadd dL_law_622 ?_
  refine l_sld (l_in1 hi hn) dL_law_623 ?_
  refine l_aload_n dL_law_624 rfl rfl ?_
  refine l_iload_n dL_law_625 rfl rfl ?_
  refine l_iconst (v := 2) dL_law_626 (by decide) ?_
  refine l_iadd dL_law_627 ?_
  refine l_sld (l_in2 hi hn) dL_law_628 ?_
  refine l_callCi (I2 := m_X6_heaviest) (st := []) [.int (xs (zn (nI (5 * t) + 1))), .int (xs (zn (nI (5 * t) + 2)))] dL_law_629 ml_L_78 rfl (by decide) rfl (Nat.le_of_ble_eq_true rfl) (fun _ => rfl) rfl (s_heaviest (h := h)) (fun x1 C1 k2 => ?_)
  refine l_aload_n dL_law_632 rfl rfl ?_
  refine l_aload_n dL_law_633 rfl rfl ?_
  refine l_iload_n dL_law_634 rfl rfl ?_
  refine l_iconst (v := 1) dL_law_635 (by decide) ?_
  refine l_iadd dL_law_636 ?_
  refine l_sld (l_in1 hi hn) dL_law_637 ?_
  refine l_aload_n dL_law_638 rfl rfl ?_
  refine l_iload_n dL_law_639 rfl rfl ?_
  refine l_iconst (v := 2) dL_law_640 (by decide) ?_
  refine l_iadd dL_law_641 ?_
  refine l_sld (l_in2 hi hn) dL_law_642 ?_
  refine l_callMi (I2 := m_X7_heaviest) (st := [.int x1]) [.int (xs (zn (nI (5 * t) + 1))), .int (xs (zn (nI (5 * t) + 2)))] dL_law_643 ml_L_81 rfl (by decide) rfl (Nat.le_of_ble_eq_true rfl) (fun _ => rfl) rfl k2 (fun x2 M1 k3 => ?_)
  exact l_icmp_eq 1177 dL_law_646 (by decide) ⟨fun _ => k C1 M1 k3.2, fun z => absurd k3.1.symm z⟩
set_option maxRecDepth 100000 in
set_option maxHeartbeats 4000000 in
theorem l_case_15 {t n : Nat} {xs : Nat → Int32} {C M : zM} (hR : Rel t C M) (ht : t < 512) (hi : 5 * t + 5 ≤ n) (hn : n ≤ 2560) (k : ∀ C1 M1, Rel (t + 1) C1 M1 → LW xs n 1177 [some (.ref 0), some (.ref 1), some (.ref 2), some (.int (nI (5 * t)))] [] C1 M1) : LW xs n 651 [some (.ref 0), some (.ref 1), some (.ref 2), some (.int (nI (5 * t)))] [] C M := by
  obtain ⟨K, u, o, kd, N, h⟩ := hR
  refine l_aload_n dL_law_651 rfl rfl ?_
  refine l_aload_n dL_law_652 rfl rfl ?_
  refine l_iload_n dL_law_653 rfl rfl ?_
  refine l_iconst (v := 1) dL_law_654 (by decide) ?_
  refine l_iadd dL_law_655 ?_
  refine l_sld (l_in1 hi hn) dL_law_656 ?_
  refine l_aload_n dL_law_657 rfl rfl ?_
  refine l_iload_n dL_law_658 rfl rfl ?_
  refine l_iconst (v := 2) dL_law_659 (by decide) ?_
  refine l_iadd dL_law_660 ?_
  refine l_sld (l_in2 hi hn) dL_law_661 ?_
  refine l_callCl (I2 := m_X6_sum) (st := []) [.int (xs (zn (nI (5 * t) + 1))), .int (xs (zn (nI (5 * t) + 2)))] dL_law_662 ml_L_82 rfl (by decide) rfl (Nat.le_of_ble_eq_true rfl) (fun _ => rfl) rfl (s_sum (h := h)) (fun x1 C1 k2 => ?_)
  refine l_aload_n dL_law_665 rfl rfl ?_
  refine l_aload_n dL_law_666 rfl rfl ?_
  refine l_iload_n dL_law_667 rfl rfl ?_
  refine l_iconst (v := 1) dL_law_668 (by decide) ?_
  refine l_iadd dL_law_669 ?_
  refine l_sld (l_in1 hi hn) dL_law_670 ?_
  refine l_aload_n dL_law_671 rfl rfl ?_
  refine l_iload_n dL_law_672 rfl rfl ?_
  refine l_iconst (v := 2) dL_law_673 (by decide) ?_
  refine l_iadd dL_law_674 ?_
  refine l_sld (l_in2 hi hn) dL_law_675 ?_
  refine l_callMl (I2 := m_X7_sum) (st := [.long x1]) [.int (xs (zn (nI (5 * t) + 1))), .int (xs (zn (nI (5 * t) + 2)))] dL_law_676 ml_L_86 rfl (by decide) rfl (Nat.le_of_ble_eq_true rfl) (fun _ => rfl) rfl k2 (fun x2 M1 k3 => ?_)
  refine l_lcmp dL_law_679 ?_
  exact l_if_eq 1177 dL_law_680 (by decide) ⟨fun _ => k C1 M1 k3.2, fun z => absurd (by rw [lcmp_eq]; exact k3.1.symm) z⟩
set_option maxRecDepth 100000 in
set_option maxHeartbeats 4000000 in
theorem l_case_16 {t n : Nat} {xs : Nat → Int32} {C M : zM} (hR : Rel t C M) (ht : t < 512) (hi : 5 * t + 5 ≤ n) (hn : n ≤ 2560) (k : ∀ C1 M1, Rel (t + 1) C1 M1 → LW xs n 1177 [some (.ref 0), some (.ref 1), some (.ref 2), some (.int (nI (5 * t)))] [] C1 M1) : LW xs n 685 [some (.ref 0), some (.ref 1), some (.ref 2), some (.int (nI (5 * t)))] [] C M := by
  obtain ⟨K, u, o, kd, N, h⟩ := hR
  refine l_aload_n dL_law_685 rfl rfl ?_
  refine l_aload_n dL_law_686 rfl rfl ?_
  refine l_iload_n dL_law_687 rfl rfl ?_
  refine l_iconst (v := 1) dL_law_688 (by decide) ?_
  refine l_iadd dL_law_689 ?_
  refine l_sld (l_in1 hi hn) dL_law_690 ?_
  refine l_aload_n dL_law_691 rfl rfl ?_
  refine l_iload_n dL_law_692 rfl rfl ?_
  refine l_iconst (v := 2) dL_law_693 (by decide) ?_
  refine l_iadd dL_law_694 ?_
  refine l_sld (l_in2 hi hn) dL_law_695 ?_
  refine l_callCl (I2 := m_X6_least) (st := []) [.int (xs (zn (nI (5 * t) + 1))), .int (xs (zn (nI (5 * t) + 2)))] dL_law_696 ml_L_87 rfl (by decide) rfl (Nat.le_of_ble_eq_true rfl) (fun _ => rfl) rfl (s_least (h := h)) (fun x1 C1 k2 => ?_)
  refine l_aload_n dL_law_699 rfl rfl ?_
  refine l_aload_n dL_law_700 rfl rfl ?_
  refine l_iload_n dL_law_701 rfl rfl ?_
  refine l_iconst (v := 1) dL_law_702 (by decide) ?_
  refine l_iadd dL_law_703 ?_
  refine l_sld (l_in1 hi hn) dL_law_704 ?_
  refine l_aload_n dL_law_705 rfl rfl ?_
  refine l_iload_n dL_law_706 rfl rfl ?_
  refine l_iconst (v := 2) dL_law_707 (by decide) ?_
  refine l_iadd dL_law_708 ?_
  refine l_sld (l_in2 hi hn) dL_law_709 ?_
  refine l_callMl (I2 := m_X7_least) (st := [.long x1]) [.int (xs (zn (nI (5 * t) + 1))), .int (xs (zn (nI (5 * t) + 2)))] dL_law_710 ml_L_90 rfl (by decide) rfl (Nat.le_of_ble_eq_true rfl) (fun _ => rfl) rfl k2 (fun x2 M1 k3 => ?_)
  refine l_lcmp dL_law_713 ?_
  exact l_if_eq 1177 dL_law_714 (by decide) ⟨fun _ => k C1 M1 k3.2, fun z => absurd (by rw [lcmp_eq]; exact k3.1.symm) z⟩
set_option maxRecDepth 100000 in
set_option maxHeartbeats 4000000 in
theorem l_case_17 {t n : Nat} {xs : Nat → Int32} {C M : zM} (hR : Rel t C M) (ht : t < 512) (hi : 5 * t + 5 ≤ n) (hn : n ≤ 2560) (k : ∀ C1 M1, Rel (t + 1) C1 M1 → LW xs n 1177 [some (.ref 0), some (.ref 1), some (.ref 2), some (.int (nI (5 * t)))] [] C1 M1) : LW xs n 719 [some (.ref 0), some (.ref 1), some (.ref 2), some (.int (nI (5 * t)))] [] C M := by
  obtain ⟨K, u, o, kd, N, h⟩ := hR
  refine l_aload_n dL_law_719 rfl rfl ?_
  refine l_aload_n dL_law_720 rfl rfl ?_
  refine l_iload_n dL_law_721 rfl rfl ?_
  refine l_iconst (v := 1) dL_law_722 (by decide) ?_
  refine l_iadd dL_law_723 ?_
  refine l_sld (l_in1 hi hn) dL_law_724 ?_
  refine l_aload_n dL_law_725 rfl rfl ?_
  refine l_iload_n dL_law_726 rfl rfl ?_
  refine l_iconst (v := 2) dL_law_727 (by decide) ?_
  refine l_iadd dL_law_728 ?_
  refine l_sld (l_in2 hi hn) dL_law_729 ?_
  refine l_aload_n dL_law_730 rfl rfl ?_
  refine l_iload_n dL_law_731 rfl rfl ?_
  refine l_iconst (v := 3) dL_law_732 (by decide) ?_
  refine l_iadd dL_law_733 ?_
  refine l_sld (l_in3 hi hn) dL_law_734 ?_
  refine l_i2l dL_law_735 ?_
  refine l_bipush (v := 32) dL_law_736 (by decide) ?_
  refine l_lshl dL_law_738 ?_
  refine l_aload_n dL_law_739 rfl rfl ?_
  refine l_iload_n dL_law_740 rfl rfl ?_
  refine l_iconst (v := 4) dL_law_741 (by decide) ?_
  refine l_iadd dL_law_742 ?_
  refine l_sld (l_in4 hi hn) dL_law_743 ?_
  refine l_i2l dL_law_744 ?_
  refine l_ldc2 dL_law_745 lc_L_13 ?_
  refine l_land dL_law_748 ?_
  refine l_lor dL_law_749 ?_
  refine l_callCi (I2 := m_X6_add) (st := []) [.int (xs (zn (nI (5 * t) + 1))), .int (xs (zn (nI (5 * t) + 2))), .long (((xs (zn (nI (5 * t) + 3))).toInt64 <<< ((32 : Int32).toInt64 &&& 63)) ||| (((xs (zn (nI (5 * t) + 4))).toInt64) &&& 4294967295))] dL_law_750 ml_L_91 rfl (by decide) rfl (Nat.le_of_ble_eq_true rfl) (fun _ => rfl) rfl (s_add (h := h)) (fun x1 C1 k2 => ?_)
  refine l_aload_n dL_law_753 rfl rfl ?_
  refine l_aload_n dL_law_754 rfl rfl ?_
  refine l_iload_n dL_law_755 rfl rfl ?_
  refine l_iconst (v := 1) dL_law_756 (by decide) ?_
  refine l_iadd dL_law_757 ?_
  refine l_sld (l_in1 hi hn) dL_law_758 ?_
  refine l_aload_n dL_law_759 rfl rfl ?_
  refine l_iload_n dL_law_760 rfl rfl ?_
  refine l_iconst (v := 2) dL_law_761 (by decide) ?_
  refine l_iadd dL_law_762 ?_
  refine l_sld (l_in2 hi hn) dL_law_763 ?_
  refine l_aload_n dL_law_764 rfl rfl ?_
  refine l_iload_n dL_law_765 rfl rfl ?_
  refine l_iconst (v := 3) dL_law_766 (by decide) ?_
  refine l_iadd dL_law_767 ?_
  refine l_sld (l_in3 hi hn) dL_law_768 ?_
  refine l_i2l dL_law_769 ?_
  refine l_bipush (v := 32) dL_law_770 (by decide) ?_
  refine l_lshl dL_law_772 ?_
  refine l_aload_n dL_law_773 rfl rfl ?_
  refine l_iload_n dL_law_774 rfl rfl ?_
  refine l_iconst (v := 4) dL_law_775 (by decide) ?_
  refine l_iadd dL_law_776 ?_
  refine l_sld (l_in4 hi hn) dL_law_777 ?_
  refine l_i2l dL_law_778 ?_
  refine l_ldc2 dL_law_779 lc_L_13 ?_
  refine l_land dL_law_782 ?_
  refine l_lor dL_law_783 ?_
  refine l_callMi (I2 := m_X7_add) (st := [.int x1]) [.int (xs (zn (nI (5 * t) + 1))), .int (xs (zn (nI (5 * t) + 2))), .long (((xs (zn (nI (5 * t) + 3))).toInt64 <<< ((32 : Int32).toInt64 &&& 63)) ||| (((xs (zn (nI (5 * t) + 4))).toInt64) &&& 4294967295))] dL_law_784 ml_L_94 rfl (by decide) rfl (Nat.le_of_ble_eq_true rfl) (fun _ => rfl) rfl k2 (fun x2 M1 k3 => ?_)
  exact l_icmp_eq 1177 dL_law_787 (by decide) ⟨fun _ => k C1 M1 k3.2, fun z => absurd k3.1.symm z⟩
set_option maxRecDepth 100000 in
set_option maxHeartbeats 4000000 in
theorem l_case_18 {t n : Nat} {xs : Nat → Int32} {C M : zM} (hR : Rel t C M) (ht : t < 512) (hi : 5 * t + 5 ≤ n) (hn : n ≤ 2560) (k : ∀ C1 M1, Rel (t + 1) C1 M1 → LW xs n 1177 [some (.ref 0), some (.ref 1), some (.ref 2), some (.int (nI (5 * t)))] [] C1 M1) : LW xs n 792 [some (.ref 0), some (.ref 1), some (.ref 2), some (.int (nI (5 * t)))] [] C M := by
  obtain ⟨K, u, o, kd, N, h⟩ := hR
  refine l_aload_n dL_law_792 rfl rfl ?_
  refine l_aload_n dL_law_793 rfl rfl ?_
  refine l_iload_n dL_law_794 rfl rfl ?_
  refine l_iconst (v := 1) dL_law_795 (by decide) ?_
  refine l_iadd dL_law_796 ?_
  refine l_sld (l_in1 hi hn) dL_law_797 ?_
  refine l_callCl (I2 := m_X6_value) (st := []) [.int (xs (zn (nI (5 * t) + 1)))] dL_law_798 ml_L_95 rfl (by decide) rfl (Nat.le_of_ble_eq_true rfl) (fun _ => rfl) rfl (s_value (h := h)) (fun x1 C1 k2 => ?_)
  refine l_aload_n dL_law_801 rfl rfl ?_
  refine l_aload_n dL_law_802 rfl rfl ?_
  refine l_iload_n dL_law_803 rfl rfl ?_
  refine l_iconst (v := 1) dL_law_804 (by decide) ?_
  refine l_iadd dL_law_805 ?_
  refine l_sld (l_in1 hi hn) dL_law_806 ?_
  refine l_callMl (I2 := m_X7_value) (st := [.long x1]) [.int (xs (zn (nI (5 * t) + 1)))] dL_law_807 ml_L_98 rfl (by decide) rfl (Nat.le_of_ble_eq_true rfl) (fun _ => rfl) rfl k2 (fun x2 M1 k3 => ?_)
  refine l_lcmp dL_law_810 ?_
  exact l_if_eq 1177 dL_law_811 (by decide) ⟨fun _ => k C1 M1 k3.2, fun z => absurd (by rw [lcmp_eq]; exact k3.1.symm) z⟩
set_option maxRecDepth 100000 in
set_option maxHeartbeats 4000000 in
theorem l_case_19 {t n : Nat} {xs : Nat → Int32} {C M : zM} (hR : Rel t C M) (ht : t < 512) (hi : 5 * t + 5 ≤ n) (hn : n ≤ 2560) (k : ∀ C1 M1, Rel (t + 1) C1 M1 → LW xs n 1177 [some (.ref 0), some (.ref 1), some (.ref 2), some (.int (nI (5 * t)))] [] C1 M1) : LW xs n 816 [some (.ref 0), some (.ref 1), some (.ref 2), some (.int (nI (5 * t)))] [] C M := by
  obtain ⟨K, u, o, kd, N, h⟩ := hR
  refine l_aload_n dL_law_816 rfl rfl ?_
  refine l_aload_n dL_law_817 rfl rfl ?_
  refine l_iload_n dL_law_818 rfl rfl ?_
  refine l_iconst (v := 1) dL_law_819 (by decide) ?_
  refine l_iadd dL_law_820 ?_
  refine l_sld (l_in1 hi hn) dL_law_821 ?_
  refine l_aload_n dL_law_822 rfl rfl ?_
  refine l_iload_n dL_law_823 rfl rfl ?_
  refine l_iconst (v := 2) dL_law_824 (by decide) ?_
  refine l_iadd dL_law_825 ?_
  refine l_sld (l_in2 hi hn) dL_law_826 ?_
  refine l_i2l dL_law_827 ?_
  refine l_bipush (v := 32) dL_law_828 (by decide) ?_
  refine l_lshl dL_law_830 ?_
  refine l_aload_n dL_law_831 rfl rfl ?_
  refine l_iload_n dL_law_832 rfl rfl ?_
  refine l_iconst (v := 3) dL_law_833 (by decide) ?_
  refine l_iadd dL_law_834 ?_
  refine l_sld (l_in3 hi hn) dL_law_835 ?_
  refine l_i2l dL_law_836 ?_
  refine l_ldc2 dL_law_837 lc_L_13 ?_
  refine l_land dL_law_840 ?_
  refine l_lor dL_law_841 ?_
  refine l_callCi (I2 := m_X6_set) (st := []) [.int (xs (zn (nI (5 * t) + 1))), .long (((xs (zn (nI (5 * t) + 2))).toInt64 <<< ((32 : Int32).toInt64 &&& 63)) ||| (((xs (zn (nI (5 * t) + 3))).toInt64) &&& 4294967295))] dL_law_842 ml_L_99 rfl (by decide) rfl (Nat.le_of_ble_eq_true rfl) (fun _ => rfl) rfl (s_set (h := h)) (fun x1 C1 k2 => ?_)
  refine l_aload_n dL_law_845 rfl rfl ?_
  refine l_aload_n dL_law_846 rfl rfl ?_
  refine l_iload_n dL_law_847 rfl rfl ?_
  refine l_iconst (v := 1) dL_law_848 (by decide) ?_
  refine l_iadd dL_law_849 ?_
  refine l_sld (l_in1 hi hn) dL_law_850 ?_
  refine l_aload_n dL_law_851 rfl rfl ?_
  refine l_iload_n dL_law_852 rfl rfl ?_
  refine l_iconst (v := 2) dL_law_853 (by decide) ?_
  refine l_iadd dL_law_854 ?_
  refine l_sld (l_in2 hi hn) dL_law_855 ?_
  refine l_i2l dL_law_856 ?_
  refine l_bipush (v := 32) dL_law_857 (by decide) ?_
  refine l_lshl dL_law_859 ?_
  refine l_aload_n dL_law_860 rfl rfl ?_
  refine l_iload_n dL_law_861 rfl rfl ?_
  refine l_iconst (v := 3) dL_law_862 (by decide) ?_
  refine l_iadd dL_law_863 ?_
  refine l_sld (l_in3 hi hn) dL_law_864 ?_
  refine l_i2l dL_law_865 ?_
  refine l_ldc2 dL_law_866 lc_L_13 ?_
  refine l_land dL_law_869 ?_
  refine l_lor dL_law_870 ?_
  refine l_callMi (I2 := m_X7_set) (st := [.int x1]) [.int (xs (zn (nI (5 * t) + 1))), .long (((xs (zn (nI (5 * t) + 2))).toInt64 <<< ((32 : Int32).toInt64 &&& 63)) ||| (((xs (zn (nI (5 * t) + 3))).toInt64) &&& 4294967295))] dL_law_871 ml_L_103 rfl (by decide) rfl (Nat.le_of_ble_eq_true rfl) (fun _ => rfl) rfl k2 (fun x2 M1 k3 => ?_)
  exact l_icmp_eq 1177 dL_law_874 (by decide) ⟨fun _ => k C1 M1 k3.2, fun z => absurd k3.1.symm z⟩
set_option maxRecDepth 100000 in
set_option maxHeartbeats 4000000 in
theorem l_case_20 {t n : Nat} {xs : Nat → Int32} {C M : zM} (hR : Rel t C M) (ht : t < 512) (hi : 5 * t + 5 ≤ n) (hn : n ≤ 2560) (k : ∀ C1 M1, Rel (t + 1) C1 M1 → LW xs n 1177 [some (.ref 0), some (.ref 1), some (.ref 2), some (.int (nI (5 * t)))] [] C1 M1) : LW xs n 879 [some (.ref 0), some (.ref 1), some (.ref 2), some (.int (nI (5 * t)))] [] C M := by
  obtain ⟨K, u, o, kd, N, h⟩ := hR
  refine l_aload_n dL_law_879 rfl rfl ?_
  refine l_aload_n dL_law_880 rfl rfl ?_
  refine l_iload_n dL_law_881 rfl rfl ?_
  refine l_iconst (v := 1) dL_law_882 (by decide) ?_
  refine l_iadd dL_law_883 ?_
  refine l_sld (l_in1 hi hn) dL_law_884 ?_
  refine l_callCi (I2 := m_X6_root) (st := []) [.int (xs (zn (nI (5 * t) + 1)))] dL_law_885 ml_L_104 rfl (by decide) rfl (Nat.le_of_ble_eq_true rfl) (fun _ => rfl) rfl (s_root (h := h) (ht := ht)) (fun x1 C1 k2 => ?_)
  refine l_aload_n dL_law_888 rfl rfl ?_
  refine l_aload_n dL_law_889 rfl rfl ?_
  refine l_iload_n dL_law_890 rfl rfl ?_
  refine l_iconst (v := 1) dL_law_891 (by decide) ?_
  refine l_iadd dL_law_892 ?_
  refine l_sld (l_in1 hi hn) dL_law_893 ?_
  refine l_callMi (I2 := m_X7_root) (st := [.int x1]) [.int (xs (zn (nI (5 * t) + 1)))] dL_law_894 ml_L_107 rfl (by decide) rfl (Nat.le_of_ble_eq_true rfl) (fun _ => rfl) rfl k2 (fun x2 M1 k3 => ?_)
  exact l_icmp_eq 1177 dL_law_897 (by decide) ⟨fun _ => k C1 M1 k3.2, fun z => absurd k3.1.symm z⟩
set_option maxRecDepth 100000 in
set_option maxHeartbeats 4000000 in
theorem l_case_21 {t n : Nat} {xs : Nat → Int32} {C M : zM} (hR : Rel t C M) (ht : t < 512) (hi : 5 * t + 5 ≤ n) (hn : n ≤ 2560) (k : ∀ C1 M1, Rel (t + 1) C1 M1 → LW xs n 1177 [some (.ref 0), some (.ref 1), some (.ref 2), some (.int (nI (5 * t)))] [] C1 M1) : LW xs n 902 [some (.ref 0), some (.ref 1), some (.ref 2), some (.int (nI (5 * t)))] [] C M := by
  obtain ⟨K, u, o, kd, N, h⟩ := hR
  refine l_aload_n dL_law_902 rfl rfl ?_
  refine l_aload_n dL_law_903 rfl rfl ?_
  refine l_iload_n dL_law_904 rfl rfl ?_
  refine l_iconst (v := 1) dL_law_905 (by decide) ?_
  refine l_iadd dL_law_906 ?_
  refine l_sld (l_in1 hi hn) dL_law_907 ?_
  refine l_aload_n dL_law_908 rfl rfl ?_
  refine l_iload_n dL_law_909 rfl rfl ?_
  refine l_iconst (v := 2) dL_law_910 (by decide) ?_
  refine l_iadd dL_law_911 ?_
  refine l_sld (l_in2 hi hn) dL_law_912 ?_
  refine l_callCi (I2 := m_X6_below) (st := []) [.int (xs (zn (nI (5 * t) + 1))), .int (xs (zn (nI (5 * t) + 2)))] dL_law_913 ml_L_108 rfl (by decide) rfl (Nat.le_of_ble_eq_true rfl) (fun _ => rfl) rfl (s_below (h := h) (ht := ht)) (fun x1 C1 k2 => ?_)
  refine l_aload_n dL_law_916 rfl rfl ?_
  refine l_aload_n dL_law_917 rfl rfl ?_
  refine l_iload_n dL_law_918 rfl rfl ?_
  refine l_iconst (v := 1) dL_law_919 (by decide) ?_
  refine l_iadd dL_law_920 ?_
  refine l_sld (l_in1 hi hn) dL_law_921 ?_
  refine l_aload_n dL_law_922 rfl rfl ?_
  refine l_iload_n dL_law_923 rfl rfl ?_
  refine l_iconst (v := 2) dL_law_924 (by decide) ?_
  refine l_iadd dL_law_925 ?_
  refine l_sld (l_in2 hi hn) dL_law_926 ?_
  refine l_callMi (I2 := m_X7_below) (st := [.int x1]) [.int (xs (zn (nI (5 * t) + 1))), .int (xs (zn (nI (5 * t) + 2)))] dL_law_927 ml_L_111 rfl (by decide) rfl (Nat.le_of_ble_eq_true rfl) (fun _ => rfl) rfl k2 (fun x2 M1 k3 => ?_)
  exact l_icmp_eq 1177 dL_law_930 (by decide) ⟨fun _ => k C1 M1 k3.2, fun z => absurd k3.1.symm z⟩
set_option maxRecDepth 100000 in
set_option maxHeartbeats 4000000 in
theorem l_case_22 {t n : Nat} {xs : Nat → Int32} {C M : zM} (hR : Rel t C M) (ht : t < 512) (hi : 5 * t + 5 ≤ n) (hn : n ≤ 2560) (k : ∀ C1 M1, Rel (t + 1) C1 M1 → LW xs n 1177 [some (.ref 0), some (.ref 1), some (.ref 2), some (.int (nI (5 * t)))] [] C1 M1) : LW xs n 935 [some (.ref 0), some (.ref 1), some (.ref 2), some (.int (nI (5 * t)))] [] C M := by
  obtain ⟨K, u, o, kd, N, h⟩ := hR
  refine l_aload_n dL_law_935 rfl rfl ?_
  refine l_aload_n dL_law_936 rfl rfl ?_
  refine l_iload_n dL_law_937 rfl rfl ?_
  refine l_iconst (v := 1) dL_law_938 (by decide) ?_
  refine l_iadd dL_law_939 ?_
  refine l_sld (l_in1 hi hn) dL_law_940 ?_
  refine l_aload_n dL_law_941 rfl rfl ?_
  refine l_iload_n dL_law_942 rfl rfl ?_
  refine l_iconst (v := 2) dL_law_943 (by decide) ?_
  refine l_iadd dL_law_944 ?_
  refine l_sld (l_in2 hi hn) dL_law_945 ?_
  refine l_callCi (I2 := m_X6_meet) (st := []) [.int (xs (zn (nI (5 * t) + 1))), .int (xs (zn (nI (5 * t) + 2)))] dL_law_946 ml_L_112 rfl (by decide) rfl (Nat.le_of_ble_eq_true rfl) (fun _ => rfl) rfl (s_meet (h := h) (ht := ht)) (fun x1 C1 k2 => ?_)
  refine l_aload_n dL_law_949 rfl rfl ?_
  refine l_aload_n dL_law_950 rfl rfl ?_
  refine l_iload_n dL_law_951 rfl rfl ?_
  refine l_iconst (v := 1) dL_law_952 (by decide) ?_
  refine l_iadd dL_law_953 ?_
  refine l_sld (l_in1 hi hn) dL_law_954 ?_
  refine l_aload_n dL_law_955 rfl rfl ?_
  refine l_iload_n dL_law_956 rfl rfl ?_
  refine l_iconst (v := 2) dL_law_957 (by decide) ?_
  refine l_iadd dL_law_958 ?_
  refine l_sld (l_in2 hi hn) dL_law_959 ?_
  refine l_callMi (I2 := m_X7_meet) (st := [.int x1]) [.int (xs (zn (nI (5 * t) + 1))), .int (xs (zn (nI (5 * t) + 2)))] dL_law_960 ml_L_115 rfl (by decide) rfl (Nat.le_of_ble_eq_true rfl) (fun _ => rfl) rfl k2 (fun x2 M1 k3 => ?_)
  exact l_icmp_eq 1177 dL_law_963 (by decide) ⟨fun _ => k C1 M1 k3.2, fun z => absurd k3.1.symm z⟩
set_option maxRecDepth 100000 in
set_option maxHeartbeats 4000000 in
theorem l_case_23 {t n : Nat} {xs : Nat → Int32} {C M : zM} (hR : Rel t C M) (ht : t < 512) (hi : 5 * t + 5 ≤ n) (hn : n ≤ 2560) (k : ∀ C1 M1, Rel (t + 1) C1 M1 → LW xs n 1177 [some (.ref 0), some (.ref 1), some (.ref 2), some (.int (nI (5 * t)))] [] C1 M1) : LW xs n 968 [some (.ref 0), some (.ref 1), some (.ref 2), some (.int (nI (5 * t)))] [] C M := by
  obtain ⟨K, u, o, kd, N, h⟩ := hR
  refine l_aload_n dL_law_968 rfl rfl ?_
  refine l_aload_n dL_law_969 rfl rfl ?_
  refine l_iload_n dL_law_970 rfl rfl ?_
  refine l_iconst (v := 1) dL_law_971 (by decide) ?_
  refine l_iadd dL_law_972 ?_
  refine l_sld (l_in1 hi hn) dL_law_973 ?_
  refine l_callCl (I2 := m_X6_sumBelow) (st := []) [.int (xs (zn (nI (5 * t) + 1)))] dL_law_974 ml_L_116 rfl (by decide) rfl (Nat.le_of_ble_eq_true rfl) (fun _ => rfl) rfl (s_sumBelow (h := h) (ht := ht)) (fun x1 C1 k2 => ?_)
  refine l_aload_n dL_law_977 rfl rfl ?_
  refine l_aload_n dL_law_978 rfl rfl ?_
  refine l_iload_n dL_law_979 rfl rfl ?_
  refine l_iconst (v := 1) dL_law_980 (by decide) ?_
  refine l_iadd dL_law_981 ?_
  refine l_sld (l_in1 hi hn) dL_law_982 ?_
  refine l_callMl (I2 := m_X7_sumBelow) (st := [.long x1]) [.int (xs (zn (nI (5 * t) + 1)))] dL_law_983 ml_L_119 rfl (by decide) rfl (Nat.le_of_ble_eq_true rfl) (fun _ => rfl) rfl k2 (fun x2 M1 k3 => ?_)
  refine l_lcmp dL_law_986 ?_
  exact l_if_eq 1177 dL_law_987 (by decide) ⟨fun _ => k C1 M1 k3.2, fun z => absurd (by rw [lcmp_eq]; exact k3.1.symm) z⟩
set_option maxRecDepth 100000 in
set_option maxHeartbeats 4000000 in
theorem l_case_24 {t n : Nat} {xs : Nat → Int32} {C M : zM} (hR : Rel t C M) (ht : t < 512) (hi : 5 * t + 5 ≤ n) (hn : n ≤ 2560) (k : ∀ C1 M1, Rel (t + 1) C1 M1 → LW xs n 1177 [some (.ref 0), some (.ref 1), some (.ref 2), some (.int (nI (5 * t)))] [] C1 M1) : LW xs n 992 [some (.ref 0), some (.ref 1), some (.ref 2), some (.int (nI (5 * t)))] [] C M := by
  obtain ⟨K, u, o, kd, N, h⟩ := hR
  refine l_aload_n dL_law_992 rfl rfl ?_
  refine l_aload_n dL_law_993 rfl rfl ?_
  refine l_iload_n dL_law_994 rfl rfl ?_
  refine l_iconst (v := 1) dL_law_995 (by decide) ?_
  refine l_iadd dL_law_996 ?_
  refine l_sld (l_in1 hi hn) dL_law_997 ?_
  refine l_aload_n dL_law_998 rfl rfl ?_
  refine l_iload_n dL_law_999 rfl rfl ?_
  refine l_iconst (v := 2) dL_law_1000 (by decide) ?_
  refine l_iadd dL_law_1001 ?_
  refine l_sld (l_in2 hi hn) dL_law_1002 ?_
  refine l_i2l dL_law_1003 ?_
  refine l_bipush (v := 32) dL_law_1004 (by decide) ?_
  refine l_lshl dL_law_1006 ?_
  refine l_aload_n dL_law_1007 rfl rfl ?_
  refine l_iload_n dL_law_1008 rfl rfl ?_
  refine l_iconst (v := 3) dL_law_1009 (by decide) ?_
  refine l_iadd dL_law_1010 ?_
  refine l_sld (l_in3 hi hn) dL_law_1011 ?_
  refine l_i2l dL_law_1012 ?_
  refine l_ldc2 dL_law_1013 lc_L_13 ?_
  refine l_land dL_law_1016 ?_
  refine l_lor dL_law_1017 ?_
  refine l_callCi (I2 := m_X6_addBelow) (st := []) [.int (xs (zn (nI (5 * t) + 1))), .long (((xs (zn (nI (5 * t) + 2))).toInt64 <<< ((32 : Int32).toInt64 &&& 63)) ||| (((xs (zn (nI (5 * t) + 3))).toInt64) &&& 4294967295))] dL_law_1018 ml_L_120 rfl (by decide) rfl (Nat.le_of_ble_eq_true rfl) (fun _ => rfl) rfl (s_addBelow (h := h) (ht := ht)) (fun x1 C1 k2 => ?_)
  refine l_aload_n dL_law_1021 rfl rfl ?_
  refine l_aload_n dL_law_1022 rfl rfl ?_
  refine l_iload_n dL_law_1023 rfl rfl ?_
  refine l_iconst (v := 1) dL_law_1024 (by decide) ?_
  refine l_iadd dL_law_1025 ?_
  refine l_sld (l_in1 hi hn) dL_law_1026 ?_
  refine l_aload_n dL_law_1027 rfl rfl ?_
  refine l_iload_n dL_law_1028 rfl rfl ?_
  refine l_iconst (v := 2) dL_law_1029 (by decide) ?_
  refine l_iadd dL_law_1030 ?_
  refine l_sld (l_in2 hi hn) dL_law_1031 ?_
  refine l_i2l dL_law_1032 ?_
  refine l_bipush (v := 32) dL_law_1033 (by decide) ?_
  refine l_lshl dL_law_1035 ?_
  refine l_aload_n dL_law_1036 rfl rfl ?_
  refine l_iload_n dL_law_1037 rfl rfl ?_
  refine l_iconst (v := 3) dL_law_1038 (by decide) ?_
  refine l_iadd dL_law_1039 ?_
  refine l_sld (l_in3 hi hn) dL_law_1040 ?_
  refine l_i2l dL_law_1041 ?_
  refine l_ldc2 dL_law_1042 lc_L_13 ?_
  refine l_land dL_law_1045 ?_
  refine l_lor dL_law_1046 ?_
  refine l_callMi (I2 := m_X7_addBelow) (st := [.int x1]) [.int (xs (zn (nI (5 * t) + 1))), .long (((xs (zn (nI (5 * t) + 2))).toInt64 <<< ((32 : Int32).toInt64 &&& 63)) ||| (((xs (zn (nI (5 * t) + 3))).toInt64) &&& 4294967295))] dL_law_1047 ml_L_123 rfl (by decide) rfl (Nat.le_of_ble_eq_true rfl) (fun _ => rfl) rfl k2 (fun x2 M1 k3 => ?_)
  exact l_icmp_eq 1177 dL_law_1050 (by decide) ⟨fun _ => k C1 M1 k3.2, fun z => absurd k3.1.symm z⟩
set_option maxRecDepth 100000 in
set_option maxHeartbeats 4000000 in
theorem l_case_25 {t n : Nat} {xs : Nat → Int32} {C M : zM} (hR : Rel t C M) (ht : t < 512) (hi : 5 * t + 5 ≤ n) (hn : n ≤ 2560) (k : ∀ C1 M1, Rel (t + 1) C1 M1 → LW xs n 1177 [some (.ref 0), some (.ref 1), some (.ref 2), some (.int (nI (5 * t)))] [] C1 M1) : LW xs n 1055 [some (.ref 0), some (.ref 1), some (.ref 2), some (.int (nI (5 * t)))] [] C M := by
  obtain ⟨K, u, o, kd, N, h⟩ := hR
  refine l_aload_n dL_law_1055 rfl rfl ?_
  refine l_callCi (I2 := m_X6_undo) (st := []) [] dL_law_1056 ml_L_124 rfl (by decide) rfl (Nat.le_of_ble_eq_true rfl) (fun _ => rfl) rfl (s_undo (h := h) (ht := ht)) (fun x1 C1 k2 => ?_)
  refine l_aload_n dL_law_1059 rfl rfl ?_
  refine l_callMi (I2 := m_X7_undo) (st := [.int x1]) [] dL_law_1060 ml_L_128 rfl (by decide) rfl (Nat.le_of_ble_eq_true rfl) (fun _ => rfl) rfl k2 (fun x2 M1 k3 => ?_)
  exact l_icmp_eq 1177 dL_law_1063 (by decide) ⟨fun _ => k C1 M1 k3.2, fun z => absurd k3.1.symm z⟩
set_option maxRecDepth 100000 in
set_option maxHeartbeats 4000000 in
theorem l_case_26 {t n : Nat} {xs : Nat → Int32} {C M : zM} (hR : Rel t C M) (ht : t < 512) (hi : 5 * t + 5 ≤ n) (hn : n ≤ 2560) (k : ∀ C1 M1, Rel (t + 1) C1 M1 → LW xs n 1177 [some (.ref 0), some (.ref 1), some (.ref 2), some (.int (nI (5 * t)))] [] C1 M1) : LW xs n 1068 [some (.ref 0), some (.ref 1), some (.ref 2), some (.int (nI (5 * t)))] [] C M := by
  obtain ⟨K, u, o, kd, N, h⟩ := hR
  refine l_aload_n dL_law_1068 rfl rfl ?_
  refine l_aload_n dL_law_1069 rfl rfl ?_
  refine l_iload_n dL_law_1070 rfl rfl ?_
  refine l_iconst (v := 1) dL_law_1071 (by decide) ?_
  refine l_iadd dL_law_1072 ?_
  refine l_sld (l_in1 hi hn) dL_law_1073 ?_
  refine l_aload_n dL_law_1074 rfl rfl ?_
  refine l_iload_n dL_law_1075 rfl rfl ?_
  refine l_iconst (v := 2) dL_law_1076 (by decide) ?_
  refine l_iadd dL_law_1077 ?_
  refine l_sld (l_in2 hi hn) dL_law_1078 ?_
  refine l_aload_n dL_law_1079 rfl rfl ?_
  refine l_iload_n dL_law_1080 rfl rfl ?_
  refine l_iconst (v := 3) dL_law_1081 (by decide) ?_
  refine l_iadd dL_law_1082 ?_
  refine l_sld (l_in3 hi hn) dL_law_1083 ?_
  refine l_aload_n dL_law_1084 rfl rfl ?_
  refine l_iload_n dL_law_1085 rfl rfl ?_
  refine l_iconst (v := 4) dL_law_1086 (by decide) ?_
  refine l_iadd dL_law_1087 ?_
  refine l_sld (l_in4 hi hn) dL_law_1088 ?_
  refine l_callCi (I2 := m_X6_put) (st := []) [.int (xs (zn (nI (5 * t) + 1))), .int (xs (zn (nI (5 * t) + 2))), .int (xs (zn (nI (5 * t) + 3))), .int (xs (zn (nI (5 * t) + 4)))] dL_law_1089 ml_L_129 rfl (by decide) rfl (Nat.le_of_ble_eq_true rfl) (fun _ => rfl) rfl (s_put (h := h)) (fun x1 C1 k2 => ?_)
  refine l_aload_n dL_law_1092 rfl rfl ?_
  refine l_aload_n dL_law_1093 rfl rfl ?_
  refine l_iload_n dL_law_1094 rfl rfl ?_
  refine l_iconst (v := 1) dL_law_1095 (by decide) ?_
  refine l_iadd dL_law_1096 ?_
  refine l_sld (l_in1 hi hn) dL_law_1097 ?_
  refine l_aload_n dL_law_1098 rfl rfl ?_
  refine l_iload_n dL_law_1099 rfl rfl ?_
  refine l_iconst (v := 2) dL_law_1100 (by decide) ?_
  refine l_iadd dL_law_1101 ?_
  refine l_sld (l_in2 hi hn) dL_law_1102 ?_
  refine l_aload_n dL_law_1103 rfl rfl ?_
  refine l_iload_n dL_law_1104 rfl rfl ?_
  refine l_iconst (v := 3) dL_law_1105 (by decide) ?_
  refine l_iadd dL_law_1106 ?_
  refine l_sld (l_in3 hi hn) dL_law_1107 ?_
  refine l_aload_n dL_law_1108 rfl rfl ?_
  refine l_iload_n dL_law_1109 rfl rfl ?_
  refine l_iconst (v := 4) dL_law_1110 (by decide) ?_
  refine l_iadd dL_law_1111 ?_
  refine l_sld (l_in4 hi hn) dL_law_1112 ?_
  refine l_callMi (I2 := m_X7_put) (st := [.int x1]) [.int (xs (zn (nI (5 * t) + 1))), .int (xs (zn (nI (5 * t) + 2))), .int (xs (zn (nI (5 * t) + 3))), .int (xs (zn (nI (5 * t) + 4)))] dL_law_1113 ml_L_133 rfl (by decide) rfl (Nat.le_of_ble_eq_true rfl) (fun _ => rfl) rfl k2 (fun x2 M1 k3 => ?_)
  exact l_icmp_eq 1177 dL_law_1116 (by decide) ⟨fun _ => k C1 M1 k3.2, fun z => absurd k3.1.symm z⟩
set_option maxRecDepth 100000 in
set_option maxHeartbeats 4000000 in
theorem l_case_27 {t n : Nat} {xs : Nat → Int32} {C M : zM} (hR : Rel t C M) (ht : t < 512) (hi : 5 * t + 5 ≤ n) (hn : n ≤ 2560) (k : ∀ C1 M1, Rel (t + 1) C1 M1 → LW xs n 1177 [some (.ref 0), some (.ref 1), some (.ref 2), some (.int (nI (5 * t)))] [] C1 M1) : LW xs n 1121 [some (.ref 0), some (.ref 1), some (.ref 2), some (.int (nI (5 * t)))] [] C M := by
  obtain ⟨K, u, o, kd, N, h⟩ := hR
  refine l_aload_n dL_law_1121 rfl rfl ?_
  refine l_aload_n dL_law_1122 rfl rfl ?_
  refine l_iload_n dL_law_1123 rfl rfl ?_
  refine l_iconst (v := 1) dL_law_1124 (by decide) ?_
  refine l_iadd dL_law_1125 ?_
  refine l_sld (l_in1 hi hn) dL_law_1126 ?_
  refine l_aload_n dL_law_1127 rfl rfl ?_
  refine l_iload_n dL_law_1128 rfl rfl ?_
  refine l_iconst (v := 2) dL_law_1129 (by decide) ?_
  refine l_iadd dL_law_1130 ?_
  refine l_sld (l_in2 hi hn) dL_law_1131 ?_
  refine l_aload_n dL_law_1132 rfl rfl ?_
  refine l_iload_n dL_law_1133 rfl rfl ?_
  refine l_iconst (v := 3) dL_law_1134 (by decide) ?_
  refine l_iadd dL_law_1135 ?_
  refine l_sld (l_in3 hi hn) dL_law_1136 ?_
  refine l_callCi (I2 := m_X6_forge) (st := []) [.int (xs (zn (nI (5 * t) + 1))), .int (xs (zn (nI (5 * t) + 2))), .int (xs (zn (nI (5 * t) + 3)))] dL_law_1137 ml_L_134 rfl (by decide) rfl (Nat.le_of_ble_eq_true rfl) (fun _ => rfl) rfl (s_forge (h := h)) (fun x1 C1 k2 => ?_)
  refine l_aload_n dL_law_1140 rfl rfl ?_
  refine l_aload_n dL_law_1141 rfl rfl ?_
  refine l_iload_n dL_law_1142 rfl rfl ?_
  refine l_iconst (v := 1) dL_law_1143 (by decide) ?_
  refine l_iadd dL_law_1144 ?_
  refine l_sld (l_in1 hi hn) dL_law_1145 ?_
  refine l_aload_n dL_law_1146 rfl rfl ?_
  refine l_iload_n dL_law_1147 rfl rfl ?_
  refine l_iconst (v := 2) dL_law_1148 (by decide) ?_
  refine l_iadd dL_law_1149 ?_
  refine l_sld (l_in2 hi hn) dL_law_1150 ?_
  refine l_aload_n dL_law_1151 rfl rfl ?_
  refine l_iload_n dL_law_1152 rfl rfl ?_
  refine l_iconst (v := 3) dL_law_1153 (by decide) ?_
  refine l_iadd dL_law_1154 ?_
  refine l_sld (l_in3 hi hn) dL_law_1155 ?_
  refine l_callMi (I2 := m_X7_forge) (st := [.int x1]) [.int (xs (zn (nI (5 * t) + 1))), .int (xs (zn (nI (5 * t) + 2))), .int (xs (zn (nI (5 * t) + 3)))] dL_law_1156 ml_L_137 rfl (by decide) rfl (Nat.le_of_ble_eq_true rfl) (fun _ => rfl) rfl k2 (fun x2 M1 k3 => ?_)
  exact l_icmp_eq 1177 dL_law_1159 (by decide) ⟨fun _ => k C1 M1 k3.2, fun z => absurd k3.1.symm z⟩
set_option maxRecDepth 100000 in
set_option maxHeartbeats 4000000 in
theorem l_case_28 {t n : Nat} {xs : Nat → Int32} {C M : zM} (hR : Rel t C M) (ht : t < 512) (hi : 5 * t + 5 ≤ n) (hn : n ≤ 2560) (k : ∀ C1 M1, Rel (t + 1) C1 M1 → LW xs n 1177 [some (.ref 0), some (.ref 1), some (.ref 2), some (.int (nI (5 * t)))] [] C1 M1) : LW xs n 1164 [some (.ref 0), some (.ref 1), some (.ref 2), some (.int (nI (5 * t)))] [] C M := by
  obtain ⟨K, u, o, kd, N, h⟩ := hR
  refine l_aload_n dL_law_1164 rfl rfl ?_
  refine l_callCi (I2 := m_X6_status) (st := []) [] dL_law_1165 ml_L_138 rfl (by decide) rfl (Nat.le_of_ble_eq_true rfl) (fun _ => rfl) rfl (s_status (h := h)) (fun x1 C1 k2 => ?_)
  refine l_aload_n dL_law_1168 rfl rfl ?_
  refine l_callMi (I2 := m_X7_status) (st := [.int x1]) [] dL_law_1169 ml_L_141 rfl (by decide) rfl (Nat.le_of_ble_eq_true rfl) (fun _ => rfl) rfl k2 (fun x2 M1 k3 => ?_)
  exact l_icmp_eq 1177 dL_law_1172 (by decide) ⟨fun _ => k C1 M1 k3.2, fun z => absurd k3.1.symm z⟩
