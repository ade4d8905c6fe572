/-! the cases of the law, by program (wip/whole/mk_law.py) -/
theorem mp_e {c c' : MM} {r : Int32} {x : Option Int32} (h : (x.map fun r => (r, c)) = some (r, c')) : x = some r ∧ c' = c := by
  cases x with
  | none => cases h
  | some v =>
    have := Option.some.inj h
    exact ⟨by rw [(Prod.mk.inj this).1], (Prod.mk.inj this).2.symm⟩
theorem mt_e {c c' : MM} {r x : Int32} (h : some (x, c) = some (r, c')) : x = r ∧ c' = c := ⟨(Prod.mk.inj (Option.some.inj h)).1, (Prod.mk.inj (Option.some.inj h)).2.symm⟩
theorem cv_L_13 : CV R_law 13 6 1 mi_X6_feed := ⟨⟨TX6, 12, rfl⟩, in_ix 315 (by decide +kernel) rfl, im_X6_feed, se_X6_feed, ini_X6, co_X6_feed, ⟨rfl, by decide +kernel, by decide +kernel, by decide +kernel⟩⟩
theorem cv_L_17 : CV R_law 17 7 1 mi_X7_feed := ⟨⟨TX7, 36, rfl⟩, in_ix 880 (by decide +kernel) rfl, im_X7_feed, se_X7_feed, ini_X7, co_X7_feed, ⟨rfl, by decide +kernel, by decide +kernel, by decide +kernel⟩⟩
theorem lc_feed {l : Launch} {p : Program} {e : Env} {s : State} {m : MethodId} {below : List Frame} {meth : Method} {c : Code} {b L : Nat} {xs : Nat → Int32} {ad : Nat → Nat} {D : va_G} {T : ClassId × ClassId × ClassId} (X : LX l p s m meth c b L xs ad D T) (hL : L ≤ 2048) {n : Nat} (hn : n + 4 ≤ L) {cm mm : MM} (hR : Rel cm mm) (kk : ∀ c2 m2, Rel c2 m2 → LJ l p e s m below meth c b ad D T (nI n) 1192 [] c2 m2) : LJ l p e s m below meth c b ad D T (nI n) 192 [] cm mm := by
  obtain ⟨r, c', m', e1, e2, h9⟩ := ok_feed hR (xs (n + 1))
  refine l_a1 X dL_law_192 ?_
  refine l_arg (k := 1) X (by omega) hL rfl dL_law_193 dL_law_194 dL_law_195 dL_law_196 dL_law_197 ?_
  refine l_callC (As := [.int (xs (n + 1))]) X dL_law_198 cv_L_13 (ct_X6_feed (gC_ok X) (xs (n + 1)) _ (Option.some.inj e1)) (by decide) rfl rfl (Nat.le_of_ble_eq_true rfl) ?_
  refine l_a2 X dL_law_201 ?_
  refine l_arg (k := 1) X (by omega) hL rfl dL_law_202 dL_law_203 dL_law_204 dL_law_205 dL_law_206 ?_
  refine l_callR (As := [.int (xs (n + 1))]) X dL_law_207 cv_L_17 (ct_X7_feed (gR_ok X) (xs (n + 1)) _ e2) (by decide) rfl rfl (Nat.le_of_ble_eq_true rfl) ?_
  refine l_same X dL_law_210 (by decide) ?_
  exact kk _ _ h9
theorem cv_L_18 : CV R_law 18 6 0 mi_X6_dale := ⟨⟨TX6, 12, rfl⟩, in_ix 324 (by decide +kernel) rfl, im_X6_dale, se_X6_dale, ini_X6, co_X6_dale, ⟨rfl, by decide +kernel, by decide +kernel, by decide +kernel⟩⟩
theorem cv_L_22 : CV R_law 22 7 0 mi_X7_dale := ⟨⟨TX7, 36, rfl⟩, in_ix 890 (by decide +kernel) rfl, im_X7_dale, se_X7_dale, ini_X7, co_X7_dale, ⟨rfl, by decide +kernel, by decide +kernel, by decide +kernel⟩⟩
theorem lc_dale {l : Launch} {p : Program} {e : Env} {s : State} {m : MethodId} {below : List Frame} {meth : Method} {c : Code} {b L : Nat} {xs : Nat → Int32} {ad : Nat → Nat} {D : va_G} {T : ClassId × ClassId × ClassId} (X : LX l p s m meth c b L xs ad D T) (hL : L ≤ 2048) {n : Nat} (hn : n + 4 ≤ L) {cm mm : MM} (hR : Rel cm mm) (kk : ∀ c2 m2, Rel c2 m2 → LJ l p e s m below meth c b ad D T (nI n) 1192 [] c2 m2) : LJ l p e s m below meth c b ad D T (nI n) 215 [] cm mm := by
  obtain ⟨r, c', m', e1, e2, h9⟩ := ok_dale hR 
  refine l_a1 X dL_law_215 ?_
  refine l_callC (As := []) X dL_law_216 cv_L_18 (ct_X6_dale (gC_ok X)  _ e1) (by decide) rfl rfl (Nat.le_of_ble_eq_true rfl) ?_
  refine l_a2 X dL_law_219 ?_
  refine l_callR (As := []) X dL_law_220 cv_L_22 (ct_X7_dale (gR_ok X)  _ e2) (by decide) rfl rfl (Nat.le_of_ble_eq_true rfl) ?_
  refine l_same X dL_law_223 (by decide) ?_
  exact kk _ _ h9
theorem cv_L_23 : CV R_law 23 6 0 mi_X6_fault := ⟨⟨TX6, 12, rfl⟩, in_ix 390 (by decide +kernel) rfl, im_X6_fault, se_X6_fault, ini_X6, co_X6_fault, ⟨rfl, by decide +kernel, by decide +kernel, by decide +kernel⟩⟩
theorem cv_L_26 : CV R_law 26 7 0 mi_X7_fault := ⟨⟨TX7, 36, rfl⟩, in_ix 928 (by decide +kernel) rfl, im_X7_fault, se_X7_fault, ini_X7, co_X7_fault, ⟨rfl, by decide +kernel, by decide +kernel, by decide +kernel⟩⟩
theorem lc_fault {l : Launch} {p : Program} {e : Env} {s : State} {m : MethodId} {below : List Frame} {meth : Method} {c : Code} {b L : Nat} {xs : Nat → Int32} {ad : Nat → Nat} {D : va_G} {T : ClassId × ClassId × ClassId} (X : LX l p s m meth c b L xs ad D T) (hL : L ≤ 2048) {n : Nat} (hn : n + 4 ≤ L) {cm mm : MM} (hR : Rel cm mm) (kk : ∀ c2 m2, Rel c2 m2 → LJ l p e s m below meth c b ad D T (nI n) 1192 [] c2 m2) : LJ l p e s m below meth c b ad D T (nI n) 228 [] cm mm := by
  obtain ⟨r, c', m', e1, e2, h9⟩ := ok_fault hR 
  obtain ⟨e1a, rfl⟩ := mt_e e1
  obtain ⟨e2a, rfl⟩ := mt_e e2
  refine l_a1 X dL_law_228 ?_
  refine l_callC (As := []) X dL_law_229 cv_L_23 (ct_X6_fault (gC_ok X)  _ e1a) (by decide) rfl rfl (Nat.le_of_ble_eq_true rfl) ?_
  refine l_a2 X dL_law_232 ?_
  refine l_callR (As := []) X dL_law_233 cv_L_26 (ct_X7_fault (gR_ok X)  _ e2a) (by decide) rfl rfl (Nat.le_of_ble_eq_true rfl) ?_
  refine l_same X dL_law_236 (by decide) ?_
  exact kk _ _ h9
theorem cv_L_27 : CV R_law 27 6 1 mi_X6_told := ⟨⟨TX6, 12, rfl⟩, in_ix 394 (by decide +kernel) rfl, im_X6_told, se_X6_told, ini_X6, co_X6_told, ⟨rfl, by decide +kernel, by decide +kernel, by decide +kernel⟩⟩
theorem cv_L_30 : CV R_law 30 7 1 mi_X7_told := ⟨⟨TX7, 36, rfl⟩, in_ix 932 (by decide +kernel) rfl, im_X7_told, se_X7_told, ini_X7, co_X7_told, ⟨rfl, by decide +kernel, by decide +kernel, by decide +kernel⟩⟩
theorem lc_told {l : Launch} {p : Program} {e : Env} {s : State} {m : MethodId} {below : List Frame} {meth : Method} {c : Code} {b L : Nat} {xs : Nat → Int32} {ad : Nat → Nat} {D : va_G} {T : ClassId × ClassId × ClassId} (X : LX l p s m meth c b L xs ad D T) (hL : L ≤ 2048) {n : Nat} (hn : n + 4 ≤ L) {cm mm : MM} (hR : Rel cm mm) (kk : ∀ c2 m2, Rel c2 m2 → LJ l p e s m below meth c b ad D T (nI n) 1192 [] c2 m2) : LJ l p e s m below meth c b ad D T (nI n) 241 [] cm mm := by
  obtain ⟨r, c', m', e1, e2, h9⟩ := ok_told hR (xs (n + 1))
  obtain ⟨e1a, rfl⟩ := mp_e e1
  obtain ⟨e2a, rfl⟩ := mp_e e2
  refine l_a1 X dL_law_241 ?_
  refine l_arg (k := 1) X (by omega) hL rfl dL_law_242 dL_law_243 dL_law_244 dL_law_245 dL_law_246 ?_
  refine l_callC (As := [.int (xs (n + 1))]) X dL_law_247 cv_L_27 (ct_X6_told (gC_ok X) (xs (n + 1)) _ e1a) (by decide) rfl rfl (Nat.le_of_ble_eq_true rfl) ?_
  refine l_a2 X dL_law_250 ?_
  refine l_arg (k := 1) X (by omega) hL rfl dL_law_251 dL_law_252 dL_law_253 dL_law_254 dL_law_255 ?_
  refine l_callR (As := [.int (xs (n + 1))]) X dL_law_256 cv_L_30 (ct_X7_told (gR_ok X) (xs (n + 1)) _ e2a) (by decide) rfl rfl (Nat.le_of_ble_eq_true rfl) ?_
  refine l_same X dL_law_259 (by decide) ?_
  exact kk _ _ h9
theorem cv_L_31 : CV R_law 31 6 2 mi_X6_farm := ⟨⟨TX6, 12, rfl⟩, in_ix 462 (by decide +kernel) rfl, im_X6_farm, se_X6_farm, ini_X6, co_X6_farm, ⟨rfl, by decide +kernel, by decide +kernel, by decide +kernel⟩⟩
theorem cv_L_35 : CV R_law 35 7 2 mi_X7_farm := ⟨⟨TX7, 36, rfl⟩, in_ix 986 (by decide +kernel) rfl, im_X7_farm, se_X7_farm, ini_X7, co_X7_farm, ⟨rfl, by decide +kernel, by decide +kernel, by decide +kernel⟩⟩
theorem lc_farm {l : Launch} {p : Program} {e : Env} {s : State} {m : MethodId} {below : List Frame} {meth : Method} {c : Code} {b L : Nat} {xs : Nat → Int32} {ad : Nat → Nat} {D : va_G} {T : ClassId × ClassId × ClassId} (X : LX l p s m meth c b L xs ad D T) (hL : L ≤ 2048) {n : Nat} (hn : n + 4 ≤ L) {cm mm : MM} (hR : Rel cm mm) (kk : ∀ c2 m2, Rel c2 m2 → LJ l p e s m below meth c b ad D T (nI n) 1192 [] c2 m2) : LJ l p e s m below meth c b ad D T (nI n) 264 [] cm mm := by
  obtain ⟨r, c', m', e1, e2, h9⟩ := ok_farm hR (xs (n + 1)) (xs (n + 2))
  obtain ⟨e1a, rfl⟩ := mt_e e1
  obtain ⟨e2a, rfl⟩ := mp_e e2
  refine l_a1 X dL_law_264 ?_
  refine l_arg (k := 1) X (by omega) hL rfl dL_law_265 dL_law_266 dL_law_267 dL_law_268 dL_law_269 ?_
  refine l_arg (k := 2) X (by omega) hL rfl dL_law_270 dL_law_271 dL_law_272 dL_law_273 dL_law_274 ?_
  refine l_callC (As := [.int (xs (n + 1)), .int (xs (n + 2))]) X dL_law_275 cv_L_31 (ct_X6_farm (gC_ok X) (xs (n + 1)) (xs (n + 2)) _ e1a) (by decide) rfl rfl (Nat.le_of_ble_eq_true rfl) ?_
  refine l_a2 X dL_law_278 ?_
  refine l_arg (k := 1) X (by omega) hL rfl dL_law_279 dL_law_280 dL_law_281 dL_law_282 dL_law_283 ?_
  refine l_arg (k := 2) X (by omega) hL rfl dL_law_284 dL_law_285 dL_law_286 dL_law_287 dL_law_288 ?_
  refine l_callR (As := [.int (xs (n + 1)), .int (xs (n + 2))]) X dL_law_289 cv_L_35 (ct_X7_farm (gR_ok X) (xs (n + 1)) (xs (n + 2)) _ e2a) (by decide) rfl rfl (Nat.le_of_ble_eq_true rfl) ?_
  refine l_same X dL_law_292 (by decide) ?_
  exact kk _ _ h9
theorem cv_L_36 : CV R_law 36 6 2 mi_X6_talk := ⟨⟨TX6, 12, rfl⟩, in_ix 471 (by decide +kernel) rfl, im_X6_talk, se_X6_talk, ini_X6, co_X6_talk, ⟨rfl, by decide +kernel, by decide +kernel, by decide +kernel⟩⟩
theorem cv_L_39 : CV R_law 39 7 2 mi_X7_talk := ⟨⟨TX7, 36, rfl⟩, in_ix 995 (by decide +kernel) rfl, im_X7_talk, se_X7_talk, ini_X7, co_X7_talk, ⟨rfl, by decide +kernel, by decide +kernel, by decide +kernel⟩⟩
theorem lc_talk {l : Launch} {p : Program} {e : Env} {s : State} {m : MethodId} {below : List Frame} {meth : Method} {c : Code} {b L : Nat} {xs : Nat → Int32} {ad : Nat → Nat} {D : va_G} {T : ClassId × ClassId × ClassId} (X : LX l p s m meth c b L xs ad D T) (hL : L ≤ 2048) {n : Nat} (hn : n + 4 ≤ L) {cm mm : MM} (hR : Rel cm mm) (kk : ∀ c2 m2, Rel c2 m2 → LJ l p e s m below meth c b ad D T (nI n) 1192 [] c2 m2) : LJ l p e s m below meth c b ad D T (nI n) 297 [] cm mm := by
  obtain ⟨r, c', m', e1, e2, h9⟩ := ok_talk hR (xs (n + 1)) (xs (n + 2))
  obtain ⟨e1a, rfl⟩ := mt_e e1
  obtain ⟨e2a, rfl⟩ := mp_e e2
  refine l_a1 X dL_law_297 ?_
  refine l_arg (k := 1) X (by omega) hL rfl dL_law_298 dL_law_299 dL_law_300 dL_law_301 dL_law_302 ?_
  refine l_arg (k := 2) X (by omega) hL rfl dL_law_303 dL_law_304 dL_law_305 dL_law_306 dL_law_307 ?_
  refine l_callC (As := [.int (xs (n + 1)), .int (xs (n + 2))]) X dL_law_308 cv_L_36 (ct_X6_talk (gC_ok X) (xs (n + 1)) (xs (n + 2)) _ e1a) (by decide) rfl rfl (Nat.le_of_ble_eq_true rfl) ?_
  refine l_a2 X dL_law_311 ?_
  refine l_arg (k := 1) X (by omega) hL rfl dL_law_312 dL_law_313 dL_law_314 dL_law_315 dL_law_316 ?_
  refine l_arg (k := 2) X (by omega) hL rfl dL_law_317 dL_law_318 dL_law_319 dL_law_320 dL_law_321 ?_
  refine l_callR (As := [.int (xs (n + 1)), .int (xs (n + 2))]) X dL_law_322 cv_L_39 (ct_X7_talk (gR_ok X) (xs (n + 1)) (xs (n + 2)) _ e2a) (by decide) rfl rfl (Nat.le_of_ble_eq_true rfl) ?_
  refine l_same X dL_law_325 (by decide) ?_
  exact kk _ _ h9
theorem cv_L_40 : CV R_law 40 6 2 mi_X6_logged := ⟨⟨TX6, 12, rfl⟩, in_ix 483 (by decide +kernel) rfl, im_X6_logged, se_X6_logged, ini_X6, co_X6_logged, ⟨rfl, by decide +kernel, by decide +kernel, by decide +kernel⟩⟩
theorem cv_L_43 : CV R_law 43 7 2 mi_X7_logged := ⟨⟨TX7, 36, rfl⟩, in_ix 1015 (by decide +kernel) rfl, im_X7_logged, se_X7_logged, ini_X7, co_X7_logged, ⟨rfl, by decide +kernel, by decide +kernel, by decide +kernel⟩⟩
theorem lc_logged {l : Launch} {p : Program} {e : Env} {s : State} {m : MethodId} {below : List Frame} {meth : Method} {c : Code} {b L : Nat} {xs : Nat → Int32} {ad : Nat → Nat} {D : va_G} {T : ClassId × ClassId × ClassId} (X : LX l p s m meth c b L xs ad D T) (hL : L ≤ 2048) {n : Nat} (hn : n + 4 ≤ L) {cm mm : MM} (hR : Rel cm mm) (kk : ∀ c2 m2, Rel c2 m2 → LJ l p e s m below meth c b ad D T (nI n) 1192 [] c2 m2) : LJ l p e s m below meth c b ad D T (nI n) 330 [] cm mm := by
  obtain ⟨r, c', m', e1, e2, h9⟩ := ok_logged hR (xs (n + 1)) (xs (n + 2))
  obtain ⟨e1a, rfl⟩ := mt_e e1
  obtain ⟨e2a, rfl⟩ := mp_e e2
  refine l_a1 X dL_law_330 ?_
  refine l_arg (k := 1) X (by omega) hL rfl dL_law_331 dL_law_332 dL_law_333 dL_law_334 dL_law_335 ?_
  refine l_arg (k := 2) X (by omega) hL rfl dL_law_336 dL_law_337 dL_law_338 dL_law_339 dL_law_340 ?_
  refine l_callC (As := [.int (xs (n + 1)), .int (xs (n + 2))]) X dL_law_341 cv_L_40 (ct_X6_logged (gC_ok X) (xs (n + 1)) (xs (n + 2)) _ e1a) (by decide) rfl rfl (Nat.le_of_ble_eq_true rfl) ?_
  refine l_a2 X dL_law_344 ?_
  refine l_arg (k := 1) X (by omega) hL rfl dL_law_345 dL_law_346 dL_law_347 dL_law_348 dL_law_349 ?_
  refine l_arg (k := 2) X (by omega) hL rfl dL_law_350 dL_law_351 dL_law_352 dL_law_353 dL_law_354 ?_
  refine l_callR (As := [.int (xs (n + 1)), .int (xs (n + 2))]) X dL_law_355 cv_L_43 (ct_X7_logged (gR_ok X) (xs (n + 1)) (xs (n + 2)) _ e2a) (by decide) rfl rfl (Nat.le_of_ble_eq_true rfl) ?_
  refine l_same X dL_law_358 (by decide) ?_
  exact kk _ _ h9
theorem cv_L_44 : CV R_law 44 6 1 mi_X6_hour := ⟨⟨TX6, 12, rfl⟩, in_ix 491 (by decide +kernel) rfl, im_X6_hour, se_X6_hour, ini_X6, co_X6_hour, ⟨rfl, by decide +kernel, by decide +kernel, by decide +kernel⟩⟩
theorem cv_L_47 : CV R_law 47 7 1 mi_X7_hour := ⟨⟨TX7, 36, rfl⟩, in_ix 1020 (by decide +kernel) rfl, im_X7_hour, se_X7_hour, ini_X7, co_X7_hour, ⟨rfl, by decide +kernel, by decide +kernel, by decide +kernel⟩⟩
theorem lc_hour {l : Launch} {p : Program} {e : Env} {s : State} {m : MethodId} {below : List Frame} {meth : Method} {c : Code} {b L : Nat} {xs : Nat → Int32} {ad : Nat → Nat} {D : va_G} {T : ClassId × ClassId × ClassId} (X : LX l p s m meth c b L xs ad D T) (hL : L ≤ 2048) {n : Nat} (hn : n + 4 ≤ L) {cm mm : MM} (hR : Rel cm mm) (kk : ∀ c2 m2, Rel c2 m2 → LJ l p e s m below meth c b ad D T (nI n) 1192 [] c2 m2) : LJ l p e s m below meth c b ad D T (nI n) 363 [] cm mm := by
  obtain ⟨r, c', m', e1, e2, h9⟩ := ok_hour hR (xs (n + 1))
  refine l_a1 X dL_law_363 ?_
  refine l_arg (k := 1) X (by omega) hL rfl dL_law_364 dL_law_365 dL_law_366 dL_law_367 dL_law_368 ?_
  refine l_callC (As := [.int (xs (n + 1))]) X dL_law_369 cv_L_44 (ct_X6_hour (gC_ok X) (xs (n + 1)) _ e1) (by decide) rfl rfl (Nat.le_of_ble_eq_true rfl) ?_
  refine l_a2 X dL_law_372 ?_
  refine l_arg (k := 1) X (by omega) hL rfl dL_law_373 dL_law_374 dL_law_375 dL_law_376 dL_law_377 ?_
  refine l_callR (As := [.int (xs (n + 1))]) X dL_law_378 cv_L_47 (ct_X7_hour (gR_ok X) (xs (n + 1)) _ e2) (by decide) rfl rfl (Nat.le_of_ble_eq_true rfl) ?_
  refine l_same X dL_law_381 (by decide) ?_
  exact kk _ _ h9
theorem cv_L_48 : CV R_law 48 6 2 mi_X6_say := ⟨⟨TX6, 12, rfl⟩, in_ix 543 (by decide +kernel) rfl, im_X6_say, se_X6_say, ini_X6, co_X6_say, ⟨rfl, by decide +kernel, by decide +kernel, by decide +kernel⟩⟩
theorem cv_L_51 : CV R_law 51 7 2 mi_X7_say := ⟨⟨TX7, 36, rfl⟩, in_ix 1058 (by decide +kernel) rfl, im_X7_say, se_X7_say, ini_X7, co_X7_say, ⟨rfl, by decide +kernel, by decide +kernel, by decide +kernel⟩⟩
theorem lc_say {l : Launch} {p : Program} {e : Env} {s : State} {m : MethodId} {below : List Frame} {meth : Method} {c : Code} {b L : Nat} {xs : Nat → Int32} {ad : Nat → Nat} {D : va_G} {T : ClassId × ClassId × ClassId} (X : LX l p s m meth c b L xs ad D T) (hL : L ≤ 2048) {n : Nat} (hn : n + 4 ≤ L) {cm mm : MM} (hR : Rel cm mm) (kk : ∀ c2 m2, Rel c2 m2 → LJ l p e s m below meth c b ad D T (nI n) 1192 [] c2 m2) : LJ l p e s m below meth c b ad D T (nI n) 386 [] cm mm := by
  obtain ⟨r, c', m', e1, e2, h9⟩ := ok_say hR (xs (n + 1)) (xs (n + 2))
  refine l_a1 X dL_law_386 ?_
  refine l_arg (k := 1) X (by omega) hL rfl dL_law_387 dL_law_388 dL_law_389 dL_law_390 dL_law_391 ?_
  refine l_arg (k := 2) X (by omega) hL rfl dL_law_392 dL_law_393 dL_law_394 dL_law_395 dL_law_396 ?_
  refine l_callC (As := [.int (xs (n + 1)), .int (xs (n + 2))]) X dL_law_397 cv_L_48 (ct_X6_say (gC_ok X) (xs (n + 1)) (xs (n + 2)) _ e1) (by decide) rfl rfl (Nat.le_of_ble_eq_true rfl) ?_
  refine l_a2 X dL_law_400 ?_
  refine l_arg (k := 1) X (by omega) hL rfl dL_law_401 dL_law_402 dL_law_403 dL_law_404 dL_law_405 ?_
  refine l_arg (k := 2) X (by omega) hL rfl dL_law_406 dL_law_407 dL_law_408 dL_law_409 dL_law_410 ?_
  refine l_callR (As := [.int (xs (n + 1)), .int (xs (n + 2))]) X dL_law_411 cv_L_51 (ct_X7_say (gR_ok X) (xs (n + 1)) (xs (n + 2)) _ e2) (by decide) rfl rfl (Nat.le_of_ble_eq_true rfl) ?_
  refine l_same X dL_law_414 (by decide) ?_
  exact kk _ _ h9
theorem cv_L_52 : CV R_law 52 6 1 mi_X6_rain := ⟨⟨TX6, 12, rfl⟩, in_ix 555 (by decide +kernel) rfl, im_X6_rain, se_X6_rain, ini_X6, co_X6_rain, ⟨rfl, by decide +kernel, by decide +kernel, by decide +kernel⟩⟩
theorem cv_L_55 : CV R_law 55 7 1 mi_X7_rain := ⟨⟨TX7, 36, rfl⟩, in_ix 1070 (by decide +kernel) rfl, im_X7_rain, se_X7_rain, ini_X7, co_X7_rain, ⟨rfl, by decide +kernel, by decide +kernel, by decide +kernel⟩⟩
theorem lc_rain {l : Launch} {p : Program} {e : Env} {s : State} {m : MethodId} {below : List Frame} {meth : Method} {c : Code} {b L : Nat} {xs : Nat → Int32} {ad : Nat → Nat} {D : va_G} {T : ClassId × ClassId × ClassId} (X : LX l p s m meth c b L xs ad D T) (hL : L ≤ 2048) {n : Nat} (hn : n + 4 ≤ L) {cm mm : MM} (hR : Rel cm mm) (kk : ∀ c2 m2, Rel c2 m2 → LJ l p e s m below meth c b ad D T (nI n) 1192 [] c2 m2) : LJ l p e s m below meth c b ad D T (nI n) 419 [] cm mm := by
  obtain ⟨r, c', m', e1, e2, h9⟩ := ok_rain hR (xs (n + 1))
  refine l_a1 X dL_law_419 ?_
  refine l_arg (k := 1) X (by omega) hL rfl dL_law_420 dL_law_421 dL_law_422 dL_law_423 dL_law_424 ?_
  refine l_callC (As := [.int (xs (n + 1))]) X dL_law_425 cv_L_52 (ct_X6_rain (gC_ok X) (xs (n + 1)) _ e1) (by decide) rfl rfl (Nat.le_of_ble_eq_true rfl) ?_
  refine l_a2 X dL_law_428 ?_
  refine l_arg (k := 1) X (by omega) hL rfl dL_law_429 dL_law_430 dL_law_431 dL_law_432 dL_law_433 ?_
  refine l_callR (As := [.int (xs (n + 1))]) X dL_law_434 cv_L_55 (ct_X7_rain (gR_ok X) (xs (n + 1)) _ e2) (by decide) rfl rfl (Nat.le_of_ble_eq_true rfl) ?_
  refine l_same X dL_law_437 (by decide) ?_
  exact kk _ _ h9
theorem cv_L_56 : CV R_law 56 6 1 mi_X6_frost := ⟨⟨TX6, 12, rfl⟩, in_ix 559 (by decide +kernel) rfl, im_X6_frost, se_X6_frost, ini_X6, co_X6_frost, ⟨rfl, by decide +kernel, by decide +kernel, by decide +kernel⟩⟩
theorem cv_L_60 : CV R_law 60 7 1 mi_X7_frost := ⟨⟨TX7, 36, rfl⟩, in_ix 1075 (by decide +kernel) rfl, im_X7_frost, se_X7_frost, ini_X7, co_X7_frost, ⟨rfl, by decide +kernel, by decide +kernel, by decide +kernel⟩⟩
theorem lc_frost {l : Launch} {p : Program} {e : Env} {s : State} {m : MethodId} {below : List Frame} {meth : Method} {c : Code} {b L : Nat} {xs : Nat → Int32} {ad : Nat → Nat} {D : va_G} {T : ClassId × ClassId × ClassId} (X : LX l p s m meth c b L xs ad D T) (hL : L ≤ 2048) {n : Nat} (hn : n + 4 ≤ L) {cm mm : MM} (hR : Rel cm mm) (kk : ∀ c2 m2, Rel c2 m2 → LJ l p e s m below meth c b ad D T (nI n) 1192 [] c2 m2) : LJ l p e s m below meth c b ad D T (nI n) 442 [] cm mm := by
  obtain ⟨r, c', m', e1, e2, h9⟩ := ok_frost hR (bz_01 _)
  refine l_a1 X dL_law_442 ?_
  refine l_arg (k := 1) X (by omega) hL rfl dL_law_443 dL_law_444 dL_law_445 dL_law_446 dL_law_447 ?_
  refine l_bool X dL_law_448 dL_law_451 dL_law_452 dL_law_455 ?_
  refine l_callC (As := [.int (bz (xs (n + 1)))]) X dL_law_456 cv_L_56 (ct_X6_frost (gC_ok X) (bz (xs (n + 1))) _ e1) (by decide) rfl rfl (Nat.le_of_ble_eq_true rfl) ?_
  refine l_a2 X dL_law_459 ?_
  refine l_arg (k := 1) X (by omega) hL rfl dL_law_460 dL_law_461 dL_law_462 dL_law_463 dL_law_464 ?_
  refine l_bool X dL_law_465 dL_law_468 dL_law_469 dL_law_472 ?_
  refine l_callR (As := [.int (bz (xs (n + 1)))]) X dL_law_473 cv_L_60 (ct_X7_frost (gR_ok X) (bz (xs (n + 1))) _ e2) (by decide) rfl rfl (Nat.le_of_ble_eq_true rfl) ?_
  refine l_same X dL_law_476 (by decide) ?_
  exact kk _ _ h9
theorem cv_L_61 : CV R_law 61 6 2 mi_X6_dam := ⟨⟨TX6, 12, rfl⟩, in_ix 563 (by decide +kernel) rfl, im_X6_dam, se_X6_dam, ini_X6, co_X6_dam, ⟨rfl, by decide +kernel, by decide +kernel, by decide +kernel⟩⟩
theorem cv_L_65 : CV R_law 65 7 2 mi_X7_dam := ⟨⟨TX7, 36, rfl⟩, in_ix 1079 (by decide +kernel) rfl, im_X7_dam, se_X7_dam, ini_X7, co_X7_dam, ⟨rfl, by decide +kernel, by decide +kernel, by decide +kernel⟩⟩
theorem lc_dam {l : Launch} {p : Program} {e : Env} {s : State} {m : MethodId} {below : List Frame} {meth : Method} {c : Code} {b L : Nat} {xs : Nat → Int32} {ad : Nat → Nat} {D : va_G} {T : ClassId × ClassId × ClassId} (X : LX l p s m meth c b L xs ad D T) (hL : L ≤ 2048) {n : Nat} (hn : n + 4 ≤ L) {cm mm : MM} (hR : Rel cm mm) (kk : ∀ c2 m2, Rel c2 m2 → LJ l p e s m below meth c b ad D T (nI n) 1192 [] c2 m2) : LJ l p e s m below meth c b ad D T (nI n) 481 [] cm mm := by
  obtain ⟨r, c', m', e1, e2, h9⟩ := ok_dam hR (xs (n + 1)) (bz (xs (n + 2)))
  refine l_a1 X dL_law_481 ?_
  refine l_arg (k := 1) X (by omega) hL rfl dL_law_482 dL_law_483 dL_law_484 dL_law_485 dL_law_486 ?_
  refine l_arg (k := 2) X (by omega) hL rfl dL_law_487 dL_law_488 dL_law_489 dL_law_490 dL_law_491 ?_
  refine l_bool X dL_law_492 dL_law_495 dL_law_496 dL_law_499 ?_
  refine l_callC (As := [.int (xs (n + 1)), .int (bz (xs (n + 2)))]) X dL_law_500 cv_L_61 (ct_X6_dam (gC_ok X) (xs (n + 1)) (bz (xs (n + 2))) _ e1) (by decide) rfl rfl (Nat.le_of_ble_eq_true rfl) ?_
  refine l_a2 X dL_law_503 ?_
  refine l_arg (k := 1) X (by omega) hL rfl dL_law_504 dL_law_505 dL_law_506 dL_law_507 dL_law_508 ?_
  refine l_arg (k := 2) X (by omega) hL rfl dL_law_509 dL_law_510 dL_law_511 dL_law_512 dL_law_513 ?_
  refine l_bool X dL_law_514 dL_law_517 dL_law_518 dL_law_521 ?_
  refine l_callR (As := [.int (xs (n + 1)), .int (bz (xs (n + 2)))]) X dL_law_522 cv_L_65 (ct_X7_dam (gR_ok X) (xs (n + 1)) (bz (xs (n + 2))) _ e2) (by decide) rfl rfl (Nat.le_of_ble_eq_true rfl) ?_
  refine l_same X dL_law_525 (by decide) ?_
  exact kk _ _ h9
theorem cv_L_66 : CV R_law 66 6 1 mi_X6_smooth := ⟨⟨TX6, 12, rfl⟩, in_ix 567 (by decide +kernel) rfl, im_X6_smooth, se_X6_smooth, ini_X6, co_X6_smooth, ⟨rfl, by decide +kernel, by decide +kernel, by decide +kernel⟩⟩
theorem cv_L_69 : CV R_law 69 7 1 mi_X7_smooth := ⟨⟨TX7, 36, rfl⟩, in_ix 1083 (by decide +kernel) rfl, im_X7_smooth, se_X7_smooth, ini_X7, co_X7_smooth, ⟨rfl, by decide +kernel, by decide +kernel, by decide +kernel⟩⟩
theorem lc_smooth {l : Launch} {p : Program} {e : Env} {s : State} {m : MethodId} {below : List Frame} {meth : Method} {c : Code} {b L : Nat} {xs : Nat → Int32} {ad : Nat → Nat} {D : va_G} {T : ClassId × ClassId × ClassId} (X : LX l p s m meth c b L xs ad D T) (hL : L ≤ 2048) {n : Nat} (hn : n + 4 ≤ L) {cm mm : MM} (hR : Rel cm mm) (kk : ∀ c2 m2, Rel c2 m2 → LJ l p e s m below meth c b ad D T (nI n) 1192 [] c2 m2) : LJ l p e s m below meth c b ad D T (nI n) 530 [] cm mm := by
  obtain ⟨r, c', m', e1, e2, h9⟩ := ok_smooth hR (xs (n + 1))
  refine l_a1 X dL_law_530 ?_
  refine l_arg (k := 1) X (by omega) hL rfl dL_law_531 dL_law_532 dL_law_533 dL_law_534 dL_law_535 ?_
  refine l_callC (As := [.int (xs (n + 1))]) X dL_law_536 cv_L_66 (ct_X6_smooth (gC_ok X) (xs (n + 1)) _ e1) (by decide) rfl rfl (Nat.le_of_ble_eq_true rfl) ?_
  refine l_a2 X dL_law_539 ?_
  refine l_arg (k := 1) X (by omega) hL rfl dL_law_540 dL_law_541 dL_law_542 dL_law_543 dL_law_544 ?_
  refine l_callR (As := [.int (xs (n + 1))]) X dL_law_545 cv_L_69 (ct_X7_smooth (gR_ok X) (xs (n + 1)) _ e2) (by decide) rfl rfl (Nat.le_of_ble_eq_true rfl) ?_
  refine l_same X dL_law_548 (by decide) ?_
  exact kk _ _ h9
theorem cv_L_70 : CV R_law 70 6 1 mi_X6_hush := ⟨⟨TX6, 12, rfl⟩, in_ix 571 (by decide +kernel) rfl, im_X6_hush, se_X6_hush, ini_X6, co_X6_hush, ⟨rfl, by decide +kernel, by decide +kernel, by decide +kernel⟩⟩
theorem cv_L_73 : CV R_law 73 7 1 mi_X7_hush := ⟨⟨TX7, 36, rfl⟩, in_ix 1087 (by decide +kernel) rfl, im_X7_hush, se_X7_hush, ini_X7, co_X7_hush, ⟨rfl, by decide +kernel, by decide +kernel, by decide +kernel⟩⟩
theorem lc_hush {l : Launch} {p : Program} {e : Env} {s : State} {m : MethodId} {below : List Frame} {meth : Method} {c : Code} {b L : Nat} {xs : Nat → Int32} {ad : Nat → Nat} {D : va_G} {T : ClassId × ClassId × ClassId} (X : LX l p s m meth c b L xs ad D T) (hL : L ≤ 2048) {n : Nat} (hn : n + 4 ≤ L) {cm mm : MM} (hR : Rel cm mm) (kk : ∀ c2 m2, Rel c2 m2 → LJ l p e s m below meth c b ad D T (nI n) 1192 [] c2 m2) : LJ l p e s m below meth c b ad D T (nI n) 553 [] cm mm := by
  obtain ⟨r, c', m', e1, e2, h9⟩ := ok_hush hR (xs (n + 1))
  refine l_a1 X dL_law_553 ?_
  refine l_arg (k := 1) X (by omega) hL rfl dL_law_554 dL_law_555 dL_law_556 dL_law_557 dL_law_558 ?_
  refine l_callC (As := [.int (xs (n + 1))]) X dL_law_559 cv_L_70 (ct_X6_hush (gC_ok X) (xs (n + 1)) _ e1) (by decide) rfl rfl (Nat.le_of_ble_eq_true rfl) ?_
  refine l_a2 X dL_law_562 ?_
  refine l_arg (k := 1) X (by omega) hL rfl dL_law_563 dL_law_564 dL_law_565 dL_law_566 dL_law_567 ?_
  refine l_callR (As := [.int (xs (n + 1))]) X dL_law_568 cv_L_73 (ct_X7_hush (gR_ok X) (xs (n + 1)) _ e2) (by decide) rfl rfl (Nat.le_of_ble_eq_true rfl) ?_
  refine l_same X dL_law_571 (by decide) ?_
  exact kk _ _ h9
theorem cv_L_74 : CV R_law 74 6 1 mi_X6_drift := ⟨⟨TX6, 12, rfl⟩, in_ix 583 (by decide +kernel) rfl, im_X6_drift, se_X6_drift, ini_X6, co_X6_drift, ⟨rfl, by decide +kernel, by decide +kernel, by decide +kernel⟩⟩
theorem cv_L_77 : CV R_law 77 7 1 mi_X7_drift := ⟨⟨TX7, 36, rfl⟩, in_ix 1091 (by decide +kernel) rfl, im_X7_drift, se_X7_drift, ini_X7, co_X7_drift, ⟨rfl, by decide +kernel, by decide +kernel, by decide +kernel⟩⟩
theorem lc_drift {l : Launch} {p : Program} {e : Env} {s : State} {m : MethodId} {below : List Frame} {meth : Method} {c : Code} {b L : Nat} {xs : Nat → Int32} {ad : Nat → Nat} {D : va_G} {T : ClassId × ClassId × ClassId} (X : LX l p s m meth c b L xs ad D T) (hL : L ≤ 2048) {n : Nat} (hn : n + 4 ≤ L) {cm mm : MM} (hR : Rel cm mm) (kk : ∀ c2 m2, Rel c2 m2 → LJ l p e s m below meth c b ad D T (nI n) 1192 [] c2 m2) : LJ l p e s m below meth c b ad D T (nI n) 576 [] cm mm := by
  obtain ⟨r, c', m', e1, e2, h9⟩ := ok_drift hR (xs (n + 1))
  refine l_a1 X dL_law_576 ?_
  refine l_arg (k := 1) X (by omega) hL rfl dL_law_577 dL_law_578 dL_law_579 dL_law_580 dL_law_581 ?_
  refine l_callC (As := [.int (xs (n + 1))]) X dL_law_582 cv_L_74 (ct_X6_drift (gC_ok X) (xs (n + 1)) _ e1) (by decide) rfl rfl (Nat.le_of_ble_eq_true rfl) ?_
  refine l_a2 X dL_law_585 ?_
  refine l_arg (k := 1) X (by omega) hL rfl dL_law_586 dL_law_587 dL_law_588 dL_law_589 dL_law_590 ?_
  refine l_callR (As := [.int (xs (n + 1))]) X dL_law_591 cv_L_77 (ct_X7_drift (gR_ok X) (xs (n + 1)) _ e2) (by decide) rfl rfl (Nat.le_of_ble_eq_true rfl) ?_
  refine l_same X dL_law_594 (by decide) ?_
  exact kk _ _ h9
theorem cv_L_78 : CV R_law 78 6 0 mi_X6_undo := ⟨⟨TX6, 12, rfl⟩, in_ix 604 (by decide +kernel) rfl, im_X6_undo, se_X6_undo, ini_X6, co_X6_undo, ⟨rfl, by decide +kernel, by decide +kernel, by decide +kernel⟩⟩
theorem cv_L_81 : CV R_law 81 7 0 mi_X7_undo := ⟨⟨TX7, 36, rfl⟩, in_ix 1107 (by decide +kernel) rfl, im_X7_undo, se_X7_undo, ini_X7, co_X7_undo, ⟨rfl, by decide +kernel, by decide +kernel, by decide +kernel⟩⟩
theorem lc_undo {l : Launch} {p : Program} {e : Env} {s : State} {m : MethodId} {below : List Frame} {meth : Method} {c : Code} {b L : Nat} {xs : Nat → Int32} {ad : Nat → Nat} {D : va_G} {T : ClassId × ClassId × ClassId} (X : LX l p s m meth c b L xs ad D T) (hL : L ≤ 2048) {n : Nat} (hn : n + 4 ≤ L) {cm mm : MM} (hR : Rel cm mm) (kk : ∀ c2 m2, Rel c2 m2 → LJ l p e s m below meth c b ad D T (nI n) 1192 [] c2 m2) : LJ l p e s m below meth c b ad D T (nI n) 599 [] cm mm := by
  obtain ⟨r, c', m', e1, e2, h9⟩ := ok_undo hR 
  refine l_a1 X dL_law_599 ?_
  refine l_callC (As := []) X dL_law_600 cv_L_78 (ct_X6_undo (gC_ok X)  _ e1) (by decide) rfl rfl (Nat.le_of_ble_eq_true rfl) ?_
  refine l_a2 X dL_law_603 ?_
  refine l_callR (As := []) X dL_law_604 cv_L_81 (ct_X7_undo (gR_ok X)  _ e2) (by decide) rfl rfl (Nat.le_of_ble_eq_true rfl) ?_
  refine l_same X dL_law_607 (by decide) ?_
  exact kk _ _ h9
theorem cv_L_82 : CV R_law 82 6 1 mi_X6_down := ⟨⟨TX6, 12, rfl⟩, in_ix 612 (by decide +kernel) rfl, im_X6_down, se_X6_down, ini_X6, co_X6_down, ⟨rfl, by decide +kernel, by decide +kernel, by decide +kernel⟩⟩
theorem cv_L_85 : CV R_law 85 7 1 mi_X7_down := ⟨⟨TX7, 36, rfl⟩, in_ix 1111 (by decide +kernel) rfl, im_X7_down, se_X7_down, ini_X7, co_X7_down, ⟨rfl, by decide +kernel, by decide +kernel, by decide +kernel⟩⟩
theorem lc_down {l : Launch} {p : Program} {e : Env} {s : State} {m : MethodId} {below : List Frame} {meth : Method} {c : Code} {b L : Nat} {xs : Nat → Int32} {ad : Nat → Nat} {D : va_G} {T : ClassId × ClassId × ClassId} (X : LX l p s m meth c b L xs ad D T) (hL : L ≤ 2048) {n : Nat} (hn : n + 4 ≤ L) {cm mm : MM} (hR : Rel cm mm) (kk : ∀ c2 m2, Rel c2 m2 → LJ l p e s m below meth c b ad D T (nI n) 1192 [] c2 m2) : LJ l p e s m below meth c b ad D T (nI n) 612 [] cm mm := by
  obtain ⟨r, c', m', e1, e2, h9⟩ := ok_down hR (xs (n + 1))
  obtain ⟨e1a, rfl⟩ := mp_e e1
  obtain ⟨e2a, rfl⟩ := mp_e e2
  refine l_a1 X dL_law_612 ?_
  refine l_arg (k := 1) X (by omega) hL rfl dL_law_613 dL_law_614 dL_law_615 dL_law_616 dL_law_617 ?_
  refine l_callC (As := [.int (xs (n + 1))]) X dL_law_618 cv_L_82 (ct_X6_down (gC_ok X) (xs (n + 1)) _ e1a) (by decide) rfl rfl (Nat.le_of_ble_eq_true rfl) ?_
  refine l_a2 X dL_law_621 ?_
  refine l_arg (k := 1) X (by omega) hL rfl dL_law_622 dL_law_623 dL_law_624 dL_law_625 dL_law_626 ?_
  refine l_callR (As := [.int (xs (n + 1))]) X dL_law_627 cv_L_85 (ct_X7_down (gR_ok X) (xs (n + 1)) _ e2a) (by decide) rfl rfl (Nat.le_of_ble_eq_true rfl) ?_
  refine l_same X dL_law_630 (by decide) ?_
  exact kk _ _ h9
theorem cv_L_86 : CV R_law 86 6 1 mi_X6_up := ⟨⟨TX6, 12, rfl⟩, in_ix 616 (by decide +kernel) rfl, im_X6_up, se_X6_up, ini_X6, co_X6_up, ⟨rfl, by decide +kernel, by decide +kernel, by decide +kernel⟩⟩
theorem cv_L_89 : CV R_law 89 7 1 mi_X7_up := ⟨⟨TX7, 36, rfl⟩, in_ix 1115 (by decide +kernel) rfl, im_X7_up, se_X7_up, ini_X7, co_X7_up, ⟨rfl, by decide +kernel, by decide +kernel, by decide +kernel⟩⟩
theorem lc_up {l : Launch} {p : Program} {e : Env} {s : State} {m : MethodId} {below : List Frame} {meth : Method} {c : Code} {b L : Nat} {xs : Nat → Int32} {ad : Nat → Nat} {D : va_G} {T : ClassId × ClassId × ClassId} (X : LX l p s m meth c b L xs ad D T) (hL : L ≤ 2048) {n : Nat} (hn : n + 4 ≤ L) {cm mm : MM} (hR : Rel cm mm) (kk : ∀ c2 m2, Rel c2 m2 → LJ l p e s m below meth c b ad D T (nI n) 1192 [] c2 m2) : LJ l p e s m below meth c b ad D T (nI n) 635 [] cm mm := by
  obtain ⟨r, c', m', e1, e2, h9⟩ := ok_up hR (xs (n + 1))
  obtain ⟨e1a, rfl⟩ := mp_e e1
  obtain ⟨e2a, rfl⟩ := mp_e e2
  refine l_a1 X dL_law_635 ?_
  refine l_arg (k := 1) X (by omega) hL rfl dL_law_636 dL_law_637 dL_law_638 dL_law_639 dL_law_640 ?_
  refine l_callC (As := [.int (xs (n + 1))]) X dL_law_641 cv_L_86 (ct_X6_up (gC_ok X) (xs (n + 1)) _ e1a) (by decide) rfl rfl (Nat.le_of_ble_eq_true rfl) ?_
  refine l_a2 X dL_law_644 ?_
  refine l_arg (k := 1) X (by omega) hL rfl dL_law_645 dL_law_646 dL_law_647 dL_law_648 dL_law_649 ?_
  refine l_callR (As := [.int (xs (n + 1))]) X dL_law_650 cv_L_89 (ct_X7_up (gR_ok X) (xs (n + 1)) _ e2a) (by decide) rfl rfl (Nat.le_of_ble_eq_true rfl) ?_
  refine l_same X dL_law_653 (by decide) ?_
  exact kk _ _ h9
theorem cv_L_90 : CV R_law 90 6 3 mi_X6_becomes := ⟨⟨TX6, 12, rfl⟩, in_ix 620 (by decide +kernel) rfl, im_X6_becomes, se_X6_becomes, ini_X6, co_X6_becomes, ⟨rfl, by decide +kernel, by decide +kernel, by decide +kernel⟩⟩
theorem cv_L_94 : CV R_law 94 7 3 mi_X7_becomes := ⟨⟨TX7, 36, rfl⟩, in_ix 1119 (by decide +kernel) rfl, im_X7_becomes, se_X7_becomes, ini_X7, co_X7_becomes, ⟨rfl, by decide +kernel, by decide +kernel, by decide +kernel⟩⟩
theorem lc_becomes {l : Launch} {p : Program} {e : Env} {s : State} {m : MethodId} {below : List Frame} {meth : Method} {c : Code} {b L : Nat} {xs : Nat → Int32} {ad : Nat → Nat} {D : va_G} {T : ClassId × ClassId × ClassId} (X : LX l p s m meth c b L xs ad D T) (hL : L ≤ 2048) {n : Nat} (hn : n + 4 ≤ L) {cm mm : MM} (hR : Rel cm mm) (kk : ∀ c2 m2, Rel c2 m2 → LJ l p e s m below meth c b ad D T (nI n) 1192 [] c2 m2) : LJ l p e s m below meth c b ad D T (nI n) 658 [] cm mm := by
  obtain ⟨r, c', m', e1, e2, h9⟩ := ok_becomes hR (xs (n + 1)) (xs (n + 2)) (xs (n + 3))
  obtain ⟨e1a, rfl⟩ := mp_e e1
  obtain ⟨e2a, rfl⟩ := mp_e e2
  refine l_a1 X dL_law_658 ?_
  refine l_arg (k := 1) X (by omega) hL rfl dL_law_659 dL_law_660 dL_law_661 dL_law_662 dL_law_663 ?_
  refine l_arg (k := 2) X (by omega) hL rfl dL_law_664 dL_law_665 dL_law_666 dL_law_667 dL_law_668 ?_
  refine l_arg (k := 3) X (by omega) hL rfl dL_law_669 dL_law_670 dL_law_671 dL_law_672 dL_law_673 ?_
  refine l_callC (As := [.int (xs (n + 1)), .int (xs (n + 2)), .int (xs (n + 3))]) X dL_law_674 cv_L_90 (ct_X6_becomes (gC_ok X) (xs (n + 1)) (xs (n + 2)) (xs (n + 3)) _ e1a) (by decide) rfl rfl (Nat.le_of_ble_eq_true rfl) ?_
  refine l_a2 X dL_law_677 ?_
  refine l_arg (k := 1) X (by omega) hL rfl dL_law_678 dL_law_679 dL_law_680 dL_law_681 dL_law_682 ?_
  refine l_arg (k := 2) X (by omega) hL rfl dL_law_683 dL_law_684 dL_law_685 dL_law_686 dL_law_687 ?_
  refine l_arg (k := 3) X (by omega) hL rfl dL_law_688 dL_law_689 dL_law_690 dL_law_691 dL_law_692 ?_
  refine l_callR (As := [.int (xs (n + 1)), .int (xs (n + 2)), .int (xs (n + 3))]) X dL_law_693 cv_L_94 (ct_X7_becomes (gR_ok X) (xs (n + 1)) (xs (n + 2)) (xs (n + 3)) _ e2a) (by decide) rfl rfl (Nat.le_of_ble_eq_true rfl) ?_
  refine l_same X dL_law_696 (by decide) ?_
  exact kk _ _ h9
theorem cv_L_95 : CV R_law 95 6 2 mi_X6_takes := ⟨⟨TX6, 12, rfl⟩, in_ix 624 (by decide +kernel) rfl, im_X6_takes, se_X6_takes, ini_X6, co_X6_takes, ⟨rfl, by decide +kernel, by decide +kernel, by decide +kernel⟩⟩
theorem cv_L_98 : CV R_law 98 7 2 mi_X7_takes := ⟨⟨TX7, 36, rfl⟩, in_ix 1123 (by decide +kernel) rfl, im_X7_takes, se_X7_takes, ini_X7, co_X7_takes, ⟨rfl, by decide +kernel, by decide +kernel, by decide +kernel⟩⟩
theorem lc_takes {l : Launch} {p : Program} {e : Env} {s : State} {m : MethodId} {below : List Frame} {meth : Method} {c : Code} {b L : Nat} {xs : Nat → Int32} {ad : Nat → Nat} {D : va_G} {T : ClassId × ClassId × ClassId} (X : LX l p s m meth c b L xs ad D T) (hL : L ≤ 2048) {n : Nat} (hn : n + 4 ≤ L) {cm mm : MM} (hR : Rel cm mm) (kk : ∀ c2 m2, Rel c2 m2 → LJ l p e s m below meth c b ad D T (nI n) 1192 [] c2 m2) : LJ l p e s m below meth c b ad D T (nI n) 701 [] cm mm := by
  obtain ⟨r, c', m', e1, e2, h9⟩ := ok_takes hR (xs (n + 1)) (xs (n + 2))
  obtain ⟨e1a, rfl⟩ := mp_e e1
  obtain ⟨e2a, rfl⟩ := mp_e e2
  refine l_a1 X dL_law_701 ?_
  refine l_arg (k := 1) X (by omega) hL rfl dL_law_702 dL_law_703 dL_law_704 dL_law_705 dL_law_706 ?_
  refine l_arg (k := 2) X (by omega) hL rfl dL_law_707 dL_law_708 dL_law_709 dL_law_710 dL_law_711 ?_
  refine l_callC (As := [.int (xs (n + 1)), .int (xs (n + 2))]) X dL_law_712 cv_L_95 (ct_X6_takes (gC_ok X) (xs (n + 1)) (xs (n + 2)) _ e1a) (by decide) rfl rfl (Nat.le_of_ble_eq_true rfl) ?_
  refine l_a2 X dL_law_715 ?_
  refine l_arg (k := 1) X (by omega) hL rfl dL_law_716 dL_law_717 dL_law_718 dL_law_719 dL_law_720 ?_
  refine l_arg (k := 2) X (by omega) hL rfl dL_law_721 dL_law_722 dL_law_723 dL_law_724 dL_law_725 ?_
  refine l_callR (As := [.int (xs (n + 1)), .int (xs (n + 2))]) X dL_law_726 cv_L_98 (ct_X7_takes (gR_ok X) (xs (n + 1)) (xs (n + 2)) _ e2a) (by decide) rfl rfl (Nat.le_of_ble_eq_true rfl) ?_
  refine l_same X dL_law_729 (by decide) ?_
  exact kk _ _ h9
theorem cv_L_99 : CV R_law 99 6 3 mi_X6_toSay := ⟨⟨TX6, 12, rfl⟩, in_ix 628 (by decide +kernel) rfl, im_X6_toSay, se_X6_toSay, ini_X6, co_X6_toSay, ⟨rfl, by decide +kernel, by decide +kernel, by decide +kernel⟩⟩
theorem cv_L_102 : CV R_law 102 7 3 mi_X7_toSay := ⟨⟨TX7, 36, rfl⟩, in_ix 1127 (by decide +kernel) rfl, im_X7_toSay, se_X7_toSay, ini_X7, co_X7_toSay, ⟨rfl, by decide +kernel, by decide +kernel, by decide +kernel⟩⟩
theorem lc_toSay {l : Launch} {p : Program} {e : Env} {s : State} {m : MethodId} {below : List Frame} {meth : Method} {c : Code} {b L : Nat} {xs : Nat → Int32} {ad : Nat → Nat} {D : va_G} {T : ClassId × ClassId × ClassId} (X : LX l p s m meth c b L xs ad D T) (hL : L ≤ 2048) {n : Nat} (hn : n + 4 ≤ L) {cm mm : MM} (hR : Rel cm mm) (kk : ∀ c2 m2, Rel c2 m2 → LJ l p e s m below meth c b ad D T (nI n) 1192 [] c2 m2) : LJ l p e s m below meth c b ad D T (nI n) 734 [] cm mm := by
  obtain ⟨r, c', m', e1, e2, h9⟩ := ok_toSay hR (xs (n + 1)) (xs (n + 2)) (xs (n + 3))
  obtain ⟨e1a, rfl⟩ := mp_e e1
  obtain ⟨e2a, rfl⟩ := mp_e e2
  refine l_a1 X dL_law_734 ?_
  refine l_arg (k := 1) X (by omega) hL rfl dL_law_735 dL_law_736 dL_law_737 dL_law_738 dL_law_739 ?_
  refine l_arg (k := 2) X (by omega) hL rfl dL_law_740 dL_law_741 dL_law_742 dL_law_743 dL_law_744 ?_
  refine l_arg (k := 3) X (by omega) hL rfl dL_law_745 dL_law_746 dL_law_747 dL_law_748 dL_law_749 ?_
  refine l_callC (As := [.int (xs (n + 1)), .int (xs (n + 2)), .int (xs (n + 3))]) X dL_law_750 cv_L_99 (ct_X6_toSay (gC_ok X) (xs (n + 1)) (xs (n + 2)) (xs (n + 3)) _ e1a) (by decide) rfl rfl (Nat.le_of_ble_eq_true rfl) ?_
  refine l_a2 X dL_law_753 ?_
  refine l_arg (k := 1) X (by omega) hL rfl dL_law_754 dL_law_755 dL_law_756 dL_law_757 dL_law_758 ?_
  refine l_arg (k := 2) X (by omega) hL rfl dL_law_759 dL_law_760 dL_law_761 dL_law_762 dL_law_763 ?_
  refine l_arg (k := 3) X (by omega) hL rfl dL_law_764 dL_law_765 dL_law_766 dL_law_767 dL_law_768 ?_
  refine l_callR (As := [.int (xs (n + 1)), .int (xs (n + 2)), .int (xs (n + 3))]) X dL_law_769 cv_L_102 (ct_X7_toSay (gR_ok X) (xs (n + 1)) (xs (n + 2)) (xs (n + 3)) _ e2a) (by decide) rfl rfl (Nat.le_of_ble_eq_true rfl) ?_
  refine l_same X dL_law_772 (by decide) ?_
  exact kk _ _ h9
theorem cv_L_103 : CV R_law 103 6 3 mi_X6_origin := ⟨⟨TX6, 12, rfl⟩, in_ix 636 (by decide +kernel) rfl, im_X6_origin, se_X6_origin, ini_X6, co_X6_origin, ⟨rfl, by decide +kernel, by decide +kernel, by decide +kernel⟩⟩
theorem cv_L_106 : CV R_law 106 7 3 mi_X7_origin := ⟨⟨TX7, 36, rfl⟩, in_ix 1135 (by decide +kernel) rfl, im_X7_origin, se_X7_origin, ini_X7, co_X7_origin, ⟨rfl, by decide +kernel, by decide +kernel, by decide +kernel⟩⟩
theorem lc_origin {l : Launch} {p : Program} {e : Env} {s : State} {m : MethodId} {below : List Frame} {meth : Method} {c : Code} {b L : Nat} {xs : Nat → Int32} {ad : Nat → Nat} {D : va_G} {T : ClassId × ClassId × ClassId} (X : LX l p s m meth c b L xs ad D T) (hL : L ≤ 2048) {n : Nat} (hn : n + 4 ≤ L) {cm mm : MM} (hR : Rel cm mm) (kk : ∀ c2 m2, Rel c2 m2 → LJ l p e s m below meth c b ad D T (nI n) 1192 [] c2 m2) : LJ l p e s m below meth c b ad D T (nI n) 777 [] cm mm := by
  obtain ⟨r, c', m', e1, e2, h9⟩ := ok_origin hR (xs (n + 1)) (xs (n + 2)) (xs (n + 3))
  obtain ⟨e1a, rfl⟩ := mp_e e1
  obtain ⟨e2a, rfl⟩ := mp_e e2
  refine l_a1 X dL_law_777 ?_
  refine l_arg (k := 1) X (by omega) hL rfl dL_law_778 dL_law_779 dL_law_780 dL_law_781 dL_law_782 ?_
  refine l_arg (k := 2) X (by omega) hL rfl dL_law_783 dL_law_784 dL_law_785 dL_law_786 dL_law_787 ?_
  refine l_arg (k := 3) X (by omega) hL rfl dL_law_788 dL_law_789 dL_law_790 dL_law_791 dL_law_792 ?_
  refine l_callC (As := [.int (xs (n + 1)), .int (xs (n + 2)), .int (xs (n + 3))]) X dL_law_793 cv_L_103 (ct_X6_origin (gC_ok X) (xs (n + 1)) (xs (n + 2)) (xs (n + 3)) _ e1a) (by decide) rfl rfl (Nat.le_of_ble_eq_true rfl) ?_
  refine l_a2 X dL_law_796 ?_
  refine l_arg (k := 1) X (by omega) hL rfl dL_law_797 dL_law_798 dL_law_799 dL_law_800 dL_law_801 ?_
  refine l_arg (k := 2) X (by omega) hL rfl dL_law_802 dL_law_803 dL_law_804 dL_law_805 dL_law_806 ?_
  refine l_arg (k := 3) X (by omega) hL rfl dL_law_807 dL_law_808 dL_law_809 dL_law_810 dL_law_811 ?_
  refine l_callR (As := [.int (xs (n + 1)), .int (xs (n + 2)), .int (xs (n + 3))]) X dL_law_812 cv_L_106 (ct_X7_origin (gR_ok X) (xs (n + 1)) (xs (n + 2)) (xs (n + 3)) _ e2a) (by decide) rfl rfl (Nat.le_of_ble_eq_true rfl) ?_
  refine l_same X dL_law_815 (by decide) ?_
  exact kk _ _ h9
theorem cv_L_107 : CV R_law 107 6 1 mi_X6_privately := ⟨⟨TX6, 12, rfl⟩, in_ix 640 (by decide +kernel) rfl, im_X6_privately, se_X6_privately, ini_X6, co_X6_privately, ⟨rfl, by decide +kernel, by decide +kernel, by decide +kernel⟩⟩
theorem cv_L_110 : CV R_law 110 7 1 mi_X7_privately := ⟨⟨TX7, 36, rfl⟩, in_ix 1139 (by decide +kernel) rfl, im_X7_privately, se_X7_privately, ini_X7, co_X7_privately, ⟨rfl, by decide +kernel, by decide +kernel, by decide +kernel⟩⟩
theorem lc_privately {l : Launch} {p : Program} {e : Env} {s : State} {m : MethodId} {below : List Frame} {meth : Method} {c : Code} {b L : Nat} {xs : Nat → Int32} {ad : Nat → Nat} {D : va_G} {T : ClassId × ClassId × ClassId} (X : LX l p s m meth c b L xs ad D T) (hL : L ≤ 2048) {n : Nat} (hn : n + 4 ≤ L) {cm mm : MM} (hR : Rel cm mm) (kk : ∀ c2 m2, Rel c2 m2 → LJ l p e s m below meth c b ad D T (nI n) 1192 [] c2 m2) : LJ l p e s m below meth c b ad D T (nI n) 820 [] cm mm := by
  obtain ⟨r, c', m', e1, e2, h9⟩ := ok_privately hR (xs (n + 1))
  obtain ⟨e1a, rfl⟩ := mp_e e1
  obtain ⟨e2a, rfl⟩ := mp_e e2
  refine l_a1 X dL_law_820 ?_
  refine l_arg (k := 1) X (by omega) hL rfl dL_law_821 dL_law_822 dL_law_823 dL_law_824 dL_law_825 ?_
  refine l_callC (As := [.int (xs (n + 1))]) X dL_law_826 cv_L_107 (ct_X6_privately (gC_ok X) (xs (n + 1)) _ e1a) (by decide) rfl rfl (Nat.le_of_ble_eq_true rfl) ?_
  refine l_a2 X dL_law_829 ?_
  refine l_arg (k := 1) X (by omega) hL rfl dL_law_830 dL_law_831 dL_law_832 dL_law_833 dL_law_834 ?_
  refine l_callR (As := [.int (xs (n + 1))]) X dL_law_835 cv_L_110 (ct_X7_privately (gR_ok X) (xs (n + 1)) _ e2a) (by decide) rfl rfl (Nat.le_of_ble_eq_true rfl) ?_
  refine l_same X dL_law_838 (by decide) ?_
  exact kk _ _ h9
theorem cv_L_111 : CV R_law 111 6 2 mi_X6_dams := ⟨⟨TX6, 12, rfl⟩, in_ix 648 (by decide +kernel) rfl, im_X6_dams, se_X6_dams, ini_X6, co_X6_dams, ⟨rfl, by decide +kernel, by decide +kernel, by decide +kernel⟩⟩
theorem cv_L_114 : CV R_law 114 7 2 mi_X7_dams := ⟨⟨TX7, 36, rfl⟩, in_ix 1147 (by decide +kernel) rfl, im_X7_dams, se_X7_dams, ini_X7, co_X7_dams, ⟨rfl, by decide +kernel, by decide +kernel, by decide +kernel⟩⟩
theorem lc_dams {l : Launch} {p : Program} {e : Env} {s : State} {m : MethodId} {below : List Frame} {meth : Method} {c : Code} {b L : Nat} {xs : Nat → Int32} {ad : Nat → Nat} {D : va_G} {T : ClassId × ClassId × ClassId} (X : LX l p s m meth c b L xs ad D T) (hL : L ≤ 2048) {n : Nat} (hn : n + 4 ≤ L) {cm mm : MM} (hR : Rel cm mm) (kk : ∀ c2 m2, Rel c2 m2 → LJ l p e s m below meth c b ad D T (nI n) 1192 [] c2 m2) : LJ l p e s m below meth c b ad D T (nI n) 843 [] cm mm := by
  obtain ⟨r, c', m', e1, e2, h9⟩ := ok_dams hR (xs (n + 1)) (xs (n + 2))
  obtain ⟨e1a, rfl⟩ := mp_e e1
  refine l_a1 X dL_law_843 ?_
  refine l_arg (k := 1) X (by omega) hL rfl dL_law_844 dL_law_845 dL_law_846 dL_law_847 dL_law_848 ?_
  refine l_arg (k := 2) X (by omega) hL rfl dL_law_849 dL_law_850 dL_law_851 dL_law_852 dL_law_853 ?_
  refine l_callC (As := [.int (xs (n + 1)), .int (xs (n + 2))]) X dL_law_854 cv_L_111 (ct_X6_dams (gC_ok X) (xs (n + 1)) (xs (n + 2)) _ e1a) (by decide) rfl rfl (Nat.le_of_ble_eq_true rfl) ?_
  refine l_a2 X dL_law_857 ?_
  refine l_arg (k := 1) X (by omega) hL rfl dL_law_858 dL_law_859 dL_law_860 dL_law_861 dL_law_862 ?_
  refine l_arg (k := 2) X (by omega) hL rfl dL_law_863 dL_law_864 dL_law_865 dL_law_866 dL_law_867 ?_
  refine l_callR (As := [.int (xs (n + 1)), .int (xs (n + 2))]) X dL_law_868 cv_L_114 (ct_X7_dams (gR_ok X) (xs (n + 1)) (xs (n + 2)) _ e2) (by decide) rfl rfl (Nat.le_of_ble_eq_true rfl) ?_
  refine l_same X dL_law_871 (by decide) ?_
  exact kk _ _ h9
theorem cv_L_115 : CV R_law 115 6 3 mi_X6_willHear := ⟨⟨TX6, 12, rfl⟩, in_ix 656 (by decide +kernel) rfl, im_X6_willHear, se_X6_willHear, ini_X6, co_X6_willHear, ⟨rfl, by decide +kernel, by decide +kernel, by decide +kernel⟩⟩
theorem cv_L_118 : CV R_law 118 7 3 mi_X7_willHear := ⟨⟨TX7, 36, rfl⟩, in_ix 1151 (by decide +kernel) rfl, im_X7_willHear, se_X7_willHear, ini_X7, co_X7_willHear, ⟨rfl, by decide +kernel, by decide +kernel, by decide +kernel⟩⟩
theorem lc_willHear {l : Launch} {p : Program} {e : Env} {s : State} {m : MethodId} {below : List Frame} {meth : Method} {c : Code} {b L : Nat} {xs : Nat → Int32} {ad : Nat → Nat} {D : va_G} {T : ClassId × ClassId × ClassId} (X : LX l p s m meth c b L xs ad D T) (hL : L ≤ 2048) {n : Nat} (hn : n + 4 ≤ L) {cm mm : MM} (hR : Rel cm mm) (kk : ∀ c2 m2, Rel c2 m2 → LJ l p e s m below meth c b ad D T (nI n) 1192 [] c2 m2) : LJ l p e s m below meth c b ad D T (nI n) 876 [] cm mm := by
  obtain ⟨r, c', m', e1, e2, h9⟩ := ok_willHear hR (xs (n + 1)) (xs (n + 2)) (xs (n + 3))
  refine l_a1 X dL_law_876 ?_
  refine l_arg (k := 1) X (by omega) hL rfl dL_law_877 dL_law_878 dL_law_879 dL_law_880 dL_law_881 ?_
  refine l_arg (k := 2) X (by omega) hL rfl dL_law_882 dL_law_883 dL_law_884 dL_law_885 dL_law_886 ?_
  refine l_arg (k := 3) X (by omega) hL rfl dL_law_887 dL_law_888 dL_law_889 dL_law_890 dL_law_891 ?_
  refine l_callC (As := [.int (xs (n + 1)), .int (xs (n + 2)), .int (xs (n + 3))]) X dL_law_892 cv_L_115 (ct_X6_willHear (gC_ok X) (xs (n + 1)) (xs (n + 2)) (xs (n + 3)) _ e1) (by decide) rfl rfl (Nat.le_of_ble_eq_true rfl) ?_
  refine l_a2 X dL_law_895 ?_
  refine l_arg (k := 1) X (by omega) hL rfl dL_law_896 dL_law_897 dL_law_898 dL_law_899 dL_law_900 ?_
  refine l_arg (k := 2) X (by omega) hL rfl dL_law_901 dL_law_902 dL_law_903 dL_law_904 dL_law_905 ?_
  refine l_arg (k := 3) X (by omega) hL rfl dL_law_906 dL_law_907 dL_law_908 dL_law_909 dL_law_910 ?_
  refine l_callR (As := [.int (xs (n + 1)), .int (xs (n + 2)), .int (xs (n + 3))]) X dL_law_911 cv_L_118 (ct_X7_willHear (gR_ok X) (xs (n + 1)) (xs (n + 2)) (xs (n + 3)) _ e2) (by decide) rfl rfl (Nat.le_of_ble_eq_true rfl) ?_
  refine l_same X dL_law_914 (by decide) ?_
  exact kk _ _ h9
theorem cv_L_119 : CV R_law 119 6 3 mi_X6_where := ⟨⟨TX6, 12, rfl⟩, in_ix 661 (by decide +kernel) rfl, im_X6_where, se_X6_where, ini_X6, co_X6_where, ⟨rfl, by decide +kernel, by decide +kernel, by decide +kernel⟩⟩
theorem cv_L_122 : CV R_law 122 7 3 mi_X7_where := ⟨⟨TX7, 36, rfl⟩, in_ix 1164 (by decide +kernel) rfl, im_X7_where, se_X7_where, ini_X7, co_X7_where, ⟨rfl, by decide +kernel, by decide +kernel, by decide +kernel⟩⟩
theorem lc_where {l : Launch} {p : Program} {e : Env} {s : State} {m : MethodId} {below : List Frame} {meth : Method} {c : Code} {b L : Nat} {xs : Nat → Int32} {ad : Nat → Nat} {D : va_G} {T : ClassId × ClassId × ClassId} (X : LX l p s m meth c b L xs ad D T) (hL : L ≤ 2048) {n : Nat} (hn : n + 4 ≤ L) {cm mm : MM} (hR : Rel cm mm) (kk : ∀ c2 m2, Rel c2 m2 → LJ l p e s m below meth c b ad D T (nI n) 1192 [] c2 m2) : LJ l p e s m below meth c b ad D T (nI n) 919 [] cm mm := by
  obtain ⟨r, c', m', e1, e2, h9⟩ := ok_where hR (xs (n + 1)) (xs (n + 2)) (xs (n + 3))
  refine l_a1 X dL_law_919 ?_
  refine l_arg (k := 1) X (by omega) hL rfl dL_law_920 dL_law_921 dL_law_922 dL_law_923 dL_law_924 ?_
  refine l_arg (k := 2) X (by omega) hL rfl dL_law_925 dL_law_926 dL_law_927 dL_law_928 dL_law_929 ?_
  refine l_arg (k := 3) X (by omega) hL rfl dL_law_930 dL_law_931 dL_law_932 dL_law_933 dL_law_934 ?_
  refine l_callC (As := [.int (xs (n + 1)), .int (xs (n + 2)), .int (xs (n + 3))]) X dL_law_935 cv_L_119 (ct_X6_where (gC_ok X) (xs (n + 1)) (xs (n + 2)) (xs (n + 3)) _ e1) (by decide) rfl rfl (Nat.le_of_ble_eq_true rfl) ?_
  refine l_a2 X dL_law_938 ?_
  refine l_arg (k := 1) X (by omega) hL rfl dL_law_939 dL_law_940 dL_law_941 dL_law_942 dL_law_943 ?_
  refine l_arg (k := 2) X (by omega) hL rfl dL_law_944 dL_law_945 dL_law_946 dL_law_947 dL_law_948 ?_
  refine l_arg (k := 3) X (by omega) hL rfl dL_law_949 dL_law_950 dL_law_951 dL_law_952 dL_law_953 ?_
  refine l_callR (As := [.int (xs (n + 1)), .int (xs (n + 2)), .int (xs (n + 3))]) X dL_law_954 cv_L_122 (ct_X7_where (gR_ok X) (xs (n + 1)) (xs (n + 2)) (xs (n + 3)) _ e2) (by decide) rfl rfl (Nat.le_of_ble_eq_true rfl) ?_
  refine l_same X dL_law_957 (by decide) ?_
  exact kk _ _ h9
theorem cv_L_123 : CV R_law 123 6 2 mi_X6_dry := ⟨⟨TX6, 12, rfl⟩, in_ix 669 (by decide +kernel) rfl, im_X6_dry, se_X6_dry, ini_X6, co_X6_dry, ⟨rfl, by decide +kernel, by decide +kernel, by decide +kernel⟩⟩
theorem cv_L_126 : CV R_law 126 7 2 mi_X7_dry := ⟨⟨TX7, 36, rfl⟩, in_ix 1168 (by decide +kernel) rfl, im_X7_dry, se_X7_dry, ini_X7, co_X7_dry, ⟨rfl, by decide +kernel, by decide +kernel, by decide +kernel⟩⟩
theorem lc_dry {l : Launch} {p : Program} {e : Env} {s : State} {m : MethodId} {below : List Frame} {meth : Method} {c : Code} {b L : Nat} {xs : Nat → Int32} {ad : Nat → Nat} {D : va_G} {T : ClassId × ClassId × ClassId} (X : LX l p s m meth c b L xs ad D T) (hL : L ≤ 2048) {n : Nat} (hn : n + 4 ≤ L) {cm mm : MM} (hR : Rel cm mm) (kk : ∀ c2 m2, Rel c2 m2 → LJ l p e s m below meth c b ad D T (nI n) 1192 [] c2 m2) : LJ l p e s m below meth c b ad D T (nI n) 962 [] cm mm := by
  obtain ⟨r, c', m', e1, e2, h9⟩ := ok_dry hR (xs (n + 1)) (xs (n + 2))
  obtain ⟨e1a, rfl⟩ := mp_e e1
  obtain ⟨e2a, rfl⟩ := mp_e e2
  refine l_a1 X dL_law_962 ?_
  refine l_arg (k := 1) X (by omega) hL rfl dL_law_963 dL_law_964 dL_law_965 dL_law_966 dL_law_967 ?_
  refine l_arg (k := 2) X (by omega) hL rfl dL_law_968 dL_law_969 dL_law_970 dL_law_971 dL_law_972 ?_
  refine l_callC (As := [.int (xs (n + 1)), .int (xs (n + 2))]) X dL_law_973 cv_L_123 (ct_X6_dry (gC_ok X) (xs (n + 1)) (xs (n + 2)) _ e1a) (by decide) rfl rfl (Nat.le_of_ble_eq_true rfl) ?_
  refine l_a2 X dL_law_976 ?_
  refine l_arg (k := 1) X (by omega) hL rfl dL_law_977 dL_law_978 dL_law_979 dL_law_980 dL_law_981 ?_
  refine l_arg (k := 2) X (by omega) hL rfl dL_law_982 dL_law_983 dL_law_984 dL_law_985 dL_law_986 ?_
  refine l_callR (As := [.int (xs (n + 1)), .int (xs (n + 2))]) X dL_law_987 cv_L_126 (ct_X7_dry (gR_ok X) (xs (n + 1)) (xs (n + 2)) _ e2a) (by decide) rfl rfl (Nat.le_of_ble_eq_true rfl) ?_
  refine l_same X dL_law_990 (by decide) ?_
  exact kk _ _ h9
theorem cv_L_127 : CV R_law 127 6 2 mi_X6_see := ⟨⟨TX6, 12, rfl⟩, in_ix 675 (by decide +kernel) rfl, im_X6_see, se_X6_see, ini_X6, co_X6_see, ⟨rfl, by decide +kernel, by decide +kernel, by decide +kernel⟩⟩
theorem cv_L_130 : CV R_law 130 7 2 mi_X7_see := ⟨⟨TX7, 36, rfl⟩, in_ix 1173 (by decide +kernel) rfl, im_X7_see, se_X7_see, ini_X7, co_X7_see, ⟨rfl, by decide +kernel, by decide +kernel, by decide +kernel⟩⟩
theorem lc_see {l : Launch} {p : Program} {e : Env} {s : State} {m : MethodId} {below : List Frame} {meth : Method} {c : Code} {b L : Nat} {xs : Nat → Int32} {ad : Nat → Nat} {D : va_G} {T : ClassId × ClassId × ClassId} (X : LX l p s m meth c b L xs ad D T) (hL : L ≤ 2048) {n : Nat} (hn : n + 4 ≤ L) {cm mm : MM} (hR : Rel cm mm) (kk : ∀ c2 m2, Rel c2 m2 → LJ l p e s m below meth c b ad D T (nI n) 1192 [] c2 m2) : LJ l p e s m below meth c b ad D T (nI n) 995 [] cm mm := by
  obtain ⟨r, c', m', e1, e2, h9⟩ := ok_see hR (xs (n + 1)) (xs (n + 2))
  refine l_a1 X dL_law_995 ?_
  refine l_arg (k := 1) X (by omega) hL rfl dL_law_996 dL_law_997 dL_law_998 dL_law_999 dL_law_1000 ?_
  refine l_arg (k := 2) X (by omega) hL rfl dL_law_1001 dL_law_1002 dL_law_1003 dL_law_1004 dL_law_1005 ?_
  refine l_callC (As := [.int (xs (n + 1)), .int (xs (n + 2))]) X dL_law_1006 cv_L_127 (ct_X6_see (gC_ok X) (xs (n + 1)) (xs (n + 2)) _ (Option.some.inj e1)) (by decide) rfl rfl (Nat.le_of_ble_eq_true rfl) ?_
  refine l_a2 X dL_law_1009 ?_
  refine l_arg (k := 1) X (by omega) hL rfl dL_law_1010 dL_law_1011 dL_law_1012 dL_law_1013 dL_law_1014 ?_
  refine l_arg (k := 2) X (by omega) hL rfl dL_law_1015 dL_law_1016 dL_law_1017 dL_law_1018 dL_law_1019 ?_
  refine l_callR (As := [.int (xs (n + 1)), .int (xs (n + 2))]) X dL_law_1020 cv_L_130 (ct_X7_see (gR_ok X) (xs (n + 1)) (xs (n + 2)) _ e2) (by decide) rfl rfl (Nat.le_of_ble_eq_true rfl) ?_
  refine l_same X dL_law_1023 (by decide) ?_
  exact kk _ _ h9
theorem cv_L_131 : CV R_law 131 6 1 mi_X6_falls := ⟨⟨TX6, 12, rfl⟩, in_ix 684 (by decide +kernel) rfl, im_X6_falls, se_X6_falls, ini_X6, co_X6_falls, ⟨rfl, by decide +kernel, by decide +kernel, by decide +kernel⟩⟩
theorem cv_L_134 : CV R_law 134 7 1 mi_X7_falls := ⟨⟨TX7, 36, rfl⟩, in_ix 1177 (by decide +kernel) rfl, im_X7_falls, se_X7_falls, ini_X7, co_X7_falls, ⟨rfl, by decide +kernel, by decide +kernel, by decide +kernel⟩⟩
theorem lc_falls {l : Launch} {p : Program} {e : Env} {s : State} {m : MethodId} {below : List Frame} {meth : Method} {c : Code} {b L : Nat} {xs : Nat → Int32} {ad : Nat → Nat} {D : va_G} {T : ClassId × ClassId × ClassId} (X : LX l p s m meth c b L xs ad D T) (hL : L ≤ 2048) {n : Nat} (hn : n + 4 ≤ L) {cm mm : MM} (hR : Rel cm mm) (kk : ∀ c2 m2, Rel c2 m2 → LJ l p e s m below meth c b ad D T (nI n) 1192 [] c2 m2) : LJ l p e s m below meth c b ad D T (nI n) 1028 [] cm mm := by
  obtain ⟨r, c', m', e1, e2, h9⟩ := ok_falls hR (xs (n + 1))
  obtain ⟨e1a, rfl⟩ := mp_e e1
  obtain ⟨e2a, rfl⟩ := mp_e e2
  refine l_a1 X dL_law_1028 ?_
  refine l_arg (k := 1) X (by omega) hL rfl dL_law_1029 dL_law_1030 dL_law_1031 dL_law_1032 dL_law_1033 ?_
  refine l_callC (As := [.int (xs (n + 1))]) X dL_law_1034 cv_L_131 (ct_X6_falls (gC_ok X) (xs (n + 1)) _ e1a) (by decide) rfl rfl (Nat.le_of_ble_eq_true rfl) ?_
  refine l_a2 X dL_law_1037 ?_
  refine l_arg (k := 1) X (by omega) hL rfl dL_law_1038 dL_law_1039 dL_law_1040 dL_law_1041 dL_law_1042 ?_
  refine l_callR (As := [.int (xs (n + 1))]) X dL_law_1043 cv_L_134 (ct_X7_falls (gR_ok X) (xs (n + 1)) _ e2a) (by decide) rfl rfl (Nat.le_of_ble_eq_true rfl) ?_
  refine l_same X dL_law_1046 (by decide) ?_
  exact kk _ _ h9
theorem cv_L_135 : CV R_law 135 6 0 mi_X6_tryNext := ⟨⟨TX6, 12, rfl⟩, in_ix 705 (by decide +kernel) rfl, im_X6_tryNext, se_X6_tryNext, ini_X6, co_X6_tryNext, ⟨rfl, by decide +kernel, by decide +kernel, by decide +kernel⟩⟩
theorem cv_L_138 : CV R_law 138 7 0 mi_X7_tryNext := ⟨⟨TX7, 36, rfl⟩, in_ix 1185 (by decide +kernel) rfl, im_X7_tryNext, se_X7_tryNext, ini_X7, co_X7_tryNext, ⟨rfl, by decide +kernel, by decide +kernel, by decide +kernel⟩⟩
theorem lc_tryNext {l : Launch} {p : Program} {e : Env} {s : State} {m : MethodId} {below : List Frame} {meth : Method} {c : Code} {b L : Nat} {xs : Nat → Int32} {ad : Nat → Nat} {D : va_G} {T : ClassId × ClassId × ClassId} (X : LX l p s m meth c b L xs ad D T) (hL : L ≤ 2048) {n : Nat} (hn : n + 4 ≤ L) {cm mm : MM} (hR : Rel cm mm) (kk : ∀ c2 m2, Rel c2 m2 → LJ l p e s m below meth c b ad D T (nI n) 1192 [] c2 m2) : LJ l p e s m below meth c b ad D T (nI n) 1051 [] cm mm := by
  obtain ⟨r, c', m', e1, e2, h9⟩ := ok_tryNext hR 
  refine l_a1 X dL_law_1051 ?_
  refine l_callC (As := []) X dL_law_1052 cv_L_135 (ct_X6_tryNext (gC_ok X)  _ e1) (by decide) rfl rfl (Nat.le_of_ble_eq_true rfl) ?_
  refine l_a2 X dL_law_1055 ?_
  refine l_callR (As := []) X dL_law_1056 cv_L_138 (ct_X7_tryNext (gR_ok X)  _ e2) (by decide) rfl rfl (Nat.le_of_ble_eq_true rfl) ?_
  refine l_same X dL_law_1059 (by decide) ?_
  exact kk _ _ h9
theorem cv_L_139 : CV R_law 139 6 2 mi_X6_write := ⟨⟨TX6, 12, rfl⟩, in_ix 722 (by decide +kernel) rfl, im_X6_write, se_X6_write, ini_X6, co_X6_write, ⟨rfl, by decide +kernel, by decide +kernel, by decide +kernel⟩⟩
theorem cv_L_142 : CV R_law 142 7 2 mi_X7_write := ⟨⟨TX7, 36, rfl⟩, in_ix 1194 (by decide +kernel) rfl, im_X7_write, se_X7_write, ini_X7, co_X7_write, ⟨rfl, by decide +kernel, by decide +kernel, by decide +kernel⟩⟩
theorem lc_write {l : Launch} {p : Program} {e : Env} {s : State} {m : MethodId} {below : List Frame} {meth : Method} {c : Code} {b L : Nat} {xs : Nat → Int32} {ad : Nat → Nat} {D : va_G} {T : ClassId × ClassId × ClassId} (X : LX l p s m meth c b L xs ad D T) (hL : L ≤ 2048) {n : Nat} (hn : n + 4 ≤ L) {cm mm : MM} (hR : Rel cm mm) (kk : ∀ c2 m2, Rel c2 m2 → LJ l p e s m below meth c b ad D T (nI n) 1192 [] c2 m2) : LJ l p e s m below meth c b ad D T (nI n) 1064 [] cm mm := by
  obtain ⟨r, c', m', e1, e2, h9⟩ := ok_write hR (xs (n + 1)) (xs (n + 2))
  refine l_a1 X dL_law_1064 ?_
  refine l_arg (k := 1) X (by omega) hL rfl dL_law_1065 dL_law_1066 dL_law_1067 dL_law_1068 dL_law_1069 ?_
  refine l_arg (k := 2) X (by omega) hL rfl dL_law_1070 dL_law_1071 dL_law_1072 dL_law_1073 dL_law_1074 ?_
  refine l_callC (As := [.int (xs (n + 1)), .int (xs (n + 2))]) X dL_law_1075 cv_L_139 (ct_X6_write (gC_ok X) (xs (n + 1)) (xs (n + 2)) _ (Option.some.inj e1)) (by decide) rfl rfl (Nat.le_of_ble_eq_true rfl) ?_
  refine l_a2 X dL_law_1078 ?_
  refine l_arg (k := 1) X (by omega) hL rfl dL_law_1079 dL_law_1080 dL_law_1081 dL_law_1082 dL_law_1083 ?_
  refine l_arg (k := 2) X (by omega) hL rfl dL_law_1084 dL_law_1085 dL_law_1086 dL_law_1087 dL_law_1088 ?_
  refine l_callR (As := [.int (xs (n + 1)), .int (xs (n + 2))]) X dL_law_1089 cv_L_142 (ct_X7_write (gR_ok X) (xs (n + 1)) (xs (n + 2)) _ e2) (by decide) rfl rfl (Nat.le_of_ble_eq_true rfl) ?_
  refine l_same X dL_law_1092 (by decide) ?_
  exact kk _ _ h9
theorem cv_L_143 : CV R_law 143 6 0 mi_X6_tear := ⟨⟨TX6, 12, rfl⟩, in_ix 731 (by decide +kernel) rfl, im_X6_tear, se_X6_tear, ini_X6, co_X6_tear, ⟨rfl, by decide +kernel, by decide +kernel, by decide +kernel⟩⟩
theorem cv_L_146 : CV R_law 146 7 0 mi_X7_tear := ⟨⟨TX7, 36, rfl⟩, in_ix 1198 (by decide +kernel) rfl, im_X7_tear, se_X7_tear, ini_X7, co_X7_tear, ⟨rfl, by decide +kernel, by decide +kernel, by decide +kernel⟩⟩
theorem lc_tear {l : Launch} {p : Program} {e : Env} {s : State} {m : MethodId} {below : List Frame} {meth : Method} {c : Code} {b L : Nat} {xs : Nat → Int32} {ad : Nat → Nat} {D : va_G} {T : ClassId × ClassId × ClassId} (X : LX l p s m meth c b L xs ad D T) (hL : L ≤ 2048) {n : Nat} (hn : n + 4 ≤ L) {cm mm : MM} (hR : Rel cm mm) (kk : ∀ c2 m2, Rel c2 m2 → LJ l p e s m below meth c b ad D T (nI n) 1192 [] c2 m2) : LJ l p e s m below meth c b ad D T (nI n) 1097 [] cm mm := by
  obtain ⟨r, c', m', e1, e2, h9⟩ := ok_tear hR 
  refine l_a1 X dL_law_1097 ?_
  refine l_callC (As := []) X dL_law_1098 cv_L_143 (ct_X6_tear (gC_ok X)  _ (Option.some.inj e1)) (by decide) rfl rfl (Nat.le_of_ble_eq_true rfl) ?_
  refine l_a2 X dL_law_1101 ?_
  refine l_callR (As := []) X dL_law_1102 cv_L_146 (ct_X7_tear (gR_ok X)  _ (Option.some.inj e2)) (by decide) rfl rfl (Nat.le_of_ble_eq_true rfl) ?_
  refine l_same X dL_law_1105 (by decide) ?_
  exact kk _ _ h9
theorem cv_L_147 : CV R_law 147 6 0 mi_X6_judge := ⟨⟨TX6, 12, rfl⟩, in_ix 735 (by decide +kernel) rfl, im_X6_judge, se_X6_judge, ini_X6, co_X6_judge, ⟨rfl, by decide +kernel, by decide +kernel, by decide +kernel⟩⟩
theorem cv_L_150 : CV R_law 150 7 0 mi_X7_judge := ⟨⟨TX7, 36, rfl⟩, in_ix 1202 (by decide +kernel) rfl, im_X7_judge, se_X7_judge, ini_X7, co_X7_judge, ⟨rfl, by decide +kernel, by decide +kernel, by decide +kernel⟩⟩
theorem lc_judge {l : Launch} {p : Program} {e : Env} {s : State} {m : MethodId} {below : List Frame} {meth : Method} {c : Code} {b L : Nat} {xs : Nat → Int32} {ad : Nat → Nat} {D : va_G} {T : ClassId × ClassId × ClassId} (X : LX l p s m meth c b L xs ad D T) (hL : L ≤ 2048) {n : Nat} (hn : n + 4 ≤ L) {cm mm : MM} (hR : Rel cm mm) (kk : ∀ c2 m2, Rel c2 m2 → LJ l p e s m below meth c b ad D T (nI n) 1192 [] c2 m2) : LJ l p e s m below meth c b ad D T (nI n) 1110 [] cm mm := by
  obtain ⟨r, c', m', e1, e2, h9⟩ := ok_judge hR 
  obtain ⟨e1a, rfl⟩ := mp_e e1
  obtain ⟨e2a, rfl⟩ := mp_e e2
  refine l_a1 X dL_law_1110 ?_
  refine l_callC (As := []) X dL_law_1111 cv_L_147 (ct_X6_judge (gC_ok X)  _ e1a) (by decide) rfl rfl (Nat.le_of_ble_eq_true rfl) ?_
  refine l_a2 X dL_law_1114 ?_
  refine l_callR (As := []) X dL_law_1115 cv_L_150 (ct_X7_judge (gR_ok X)  _ e2a) (by decide) rfl rfl (Nat.le_of_ble_eq_true rfl) ?_
  refine l_same X dL_law_1118 (by decide) ?_
  exact kk _ _ h9
theorem cv_L_151 : CV R_law 151 6 1 mi_X6_seed := ⟨⟨TX6, 12, rfl⟩, in_ix 744 (by decide +kernel) rfl, im_X6_seed, se_X6_seed, ini_X6, co_X6_seed, ⟨rfl, by decide +kernel, by decide +kernel, by decide +kernel⟩⟩
theorem cv_L_154 : CV R_law 154 7 1 mi_X7_seed := ⟨⟨TX7, 36, rfl⟩, in_ix 1206 (by decide +kernel) rfl, im_X7_seed, se_X7_seed, ini_X7, co_X7_seed, ⟨rfl, by decide +kernel, by decide +kernel, by decide +kernel⟩⟩
theorem lc_seed {l : Launch} {p : Program} {e : Env} {s : State} {m : MethodId} {below : List Frame} {meth : Method} {c : Code} {b L : Nat} {xs : Nat → Int32} {ad : Nat → Nat} {D : va_G} {T : ClassId × ClassId × ClassId} (X : LX l p s m meth c b L xs ad D T) (hL : L ≤ 2048) {n : Nat} (hn : n + 4 ≤ L) {cm mm : MM} (hR : Rel cm mm) (kk : ∀ c2 m2, Rel c2 m2 → LJ l p e s m below meth c b ad D T (nI n) 1192 [] c2 m2) : LJ l p e s m below meth c b ad D T (nI n) 1123 [] cm mm := by
  obtain ⟨r, c', m', e1, e2, h9⟩ := ok_seed hR (xs (n + 1))
  refine l_a1 X dL_law_1123 ?_
  refine l_arg (k := 1) X (by omega) hL rfl dL_law_1124 dL_law_1125 dL_law_1126 dL_law_1127 dL_law_1128 ?_
  refine l_callC (As := [.int (xs (n + 1))]) X dL_law_1129 cv_L_151 (ct_X6_seed (gC_ok X) (xs (n + 1)) _ (Option.some.inj e1)) (by decide) rfl rfl (Nat.le_of_ble_eq_true rfl) ?_
  refine l_a2 X dL_law_1132 ?_
  refine l_arg (k := 1) X (by omega) hL rfl dL_law_1133 dL_law_1134 dL_law_1135 dL_law_1136 dL_law_1137 ?_
  refine l_callR (As := [.int (xs (n + 1))]) X dL_law_1138 cv_L_154 (ct_X7_seed (gR_ok X) (xs (n + 1)) _ (Option.some.inj e2)) (by decide) rfl rfl (Nat.le_of_ble_eq_true rfl) ?_
  refine l_same X dL_law_1141 (by decide) ?_
  exact kk _ _ h9
theorem cv_L_155 : CV R_law 155 6 1 mi_X6_keep := ⟨⟨TX6, 12, rfl⟩, in_ix 748 (by decide +kernel) rfl, im_X6_keep, se_X6_keep, ini_X6, co_X6_keep, ⟨rfl, by decide +kernel, by decide +kernel, by decide +kernel⟩⟩
theorem cv_L_158 : CV R_law 158 7 1 mi_X7_keep := ⟨⟨TX7, 36, rfl⟩, in_ix 1210 (by decide +kernel) rfl, im_X7_keep, se_X7_keep, ini_X7, co_X7_keep, ⟨rfl, by decide +kernel, by decide +kernel, by decide +kernel⟩⟩
theorem lc_keep {l : Launch} {p : Program} {e : Env} {s : State} {m : MethodId} {below : List Frame} {meth : Method} {c : Code} {b L : Nat} {xs : Nat → Int32} {ad : Nat → Nat} {D : va_G} {T : ClassId × ClassId × ClassId} (X : LX l p s m meth c b L xs ad D T) (hL : L ≤ 2048) {n : Nat} (hn : n + 4 ≤ L) {cm mm : MM} (hR : Rel cm mm) (kk : ∀ c2 m2, Rel c2 m2 → LJ l p e s m below meth c b ad D T (nI n) 1192 [] c2 m2) : LJ l p e s m below meth c b ad D T (nI n) 1146 [] cm mm := by
  obtain ⟨r, c', m', e1, e2, h9⟩ := ok_keep hR (xs (n + 1))
  refine l_a1 X dL_law_1146 ?_
  refine l_arg (k := 1) X (by omega) hL rfl dL_law_1147 dL_law_1148 dL_law_1149 dL_law_1150 dL_law_1151 ?_
  refine l_callC (As := [.int (xs (n + 1))]) X dL_law_1152 cv_L_155 (ct_X6_keep (gC_ok X) (xs (n + 1)) _ e1) (by decide) rfl rfl (Nat.le_of_ble_eq_true rfl) ?_
  refine l_a2 X dL_law_1155 ?_
  refine l_arg (k := 1) X (by omega) hL rfl dL_law_1156 dL_law_1157 dL_law_1158 dL_law_1159 dL_law_1160 ?_
  refine l_callR (As := [.int (xs (n + 1))]) X dL_law_1161 cv_L_158 (ct_X7_keep (gR_ok X) (xs (n + 1)) _ e2) (by decide) rfl rfl (Nat.le_of_ble_eq_true rfl) ?_
  refine l_same X dL_law_1164 (by decide) ?_
  exact kk _ _ h9
theorem cv_L_159 : CV R_law 159 6 1 mi_X6_goBack := ⟨⟨TX6, 12, rfl⟩, in_ix 756 (by decide +kernel) rfl, im_X6_goBack, se_X6_goBack, ini_X6, co_X6_goBack, ⟨rfl, by decide +kernel, by decide +kernel, by decide +kernel⟩⟩
theorem cv_L_162 : CV R_law 162 7 1 mi_X7_goBack := ⟨⟨TX7, 36, rfl⟩, in_ix 1214 (by decide +kernel) rfl, im_X7_goBack, se_X7_goBack, ini_X7, co_X7_goBack, ⟨rfl, by decide +kernel, by decide +kernel, by decide +kernel⟩⟩
theorem lc_goBack {l : Launch} {p : Program} {e : Env} {s : State} {m : MethodId} {below : List Frame} {meth : Method} {c : Code} {b L : Nat} {xs : Nat → Int32} {ad : Nat → Nat} {D : va_G} {T : ClassId × ClassId × ClassId} (X : LX l p s m meth c b L xs ad D T) (hL : L ≤ 2048) {n : Nat} (hn : n + 4 ≤ L) {cm mm : MM} (hR : Rel cm mm) (kk : ∀ c2 m2, Rel c2 m2 → LJ l p e s m below meth c b ad D T (nI n) 1192 [] c2 m2) : LJ l p e s m below meth c b ad D T (nI n) 1169 [] cm mm := by
  obtain ⟨r, c', m', e1, e2, h9⟩ := ok_goBack hR (xs (n + 1))
  refine l_a1 X dL_law_1169 ?_
  refine l_arg (k := 1) X (by omega) hL rfl dL_law_1170 dL_law_1171 dL_law_1172 dL_law_1173 dL_law_1174 ?_
  refine l_callC (As := [.int (xs (n + 1))]) X dL_law_1175 cv_L_159 (ct_X6_goBack (gC_ok X) (xs (n + 1)) _ e1) (by decide) rfl rfl (Nat.le_of_ble_eq_true rfl) ?_
  refine l_a2 X dL_law_1178 ?_
  refine l_arg (k := 1) X (by omega) hL rfl dL_law_1179 dL_law_1180 dL_law_1181 dL_law_1182 dL_law_1183 ?_
  refine l_callR (As := [.int (xs (n + 1))]) X dL_law_1184 cv_L_162 (ct_X7_goBack (gR_ok X) (xs (n + 1)) _ e2) (by decide) rfl rfl (Nat.le_of_ble_eq_true rfl) ?_
  refine l_same X dL_law_1187 (by decide) ?_
  exact kk _ _ h9
