/-! THE LAW: a lemma a case -/
section CASES
variable {p : Program} {l : Launch} {e : Env} {s : State} {m : MethodId} {below : List Frame} {meth : Method} {c : Code} {w : Wx} {b L : Nat} {xs : Nat → Int32} {cs sl : Nat} {Q : State → Prop} {M N : Mem}
set_option maxRecDepth 100000 in
set_option maxHeartbeats 4000000 in
theorem lc_0 (G36 : LG p s m meth c w b 36 cs sl) (G48 : LG p s m meth c w b 48 cs sl) (hX : va_X b L xs s s.heap) (hbl : b < s.heap.size) (hL : L ≤ 3072) {j : Nat} (hj : j + 6 ≤ L) (R : Rel M N) (k : ∀ M2 N2, Rel M2 N2 → LwP p l e s m below meth c w b cs sl Q 0 36 N2 1276 (lvw w b j) [] M2) : LwP p l e s m below meth c w b cs sl Q 0 36 N 212 (lvw w b j) [] M := by
  obtain ⟨v, M2, N2, e1, e2, R2⟩ := p_hanger R (xs (j + 1))
  refine a_al G36 (i := 1) dL_law_212 rfl ?_
  refine a_ld G36 hX hbl hL hj 1 (by decide) rfl dL_law_213 dL_law_214 dL_law_215 dL_law_216 dL_law_217 ?_
  refine a_callI (as := [.int (xs (j + 1))]) (st := []) (k := 0) G36 (aw_new s w) mdX5_hanger (fun z h => c_X5_hanger w N l (xs (j + 1)) M z h) ⟨by decide, by decide⟩ (ce0 w) clX5 rfl qw242 rfl rfl (Nat.le_of_ble_eq_true rfl) (by decide) dL_law_218 e1 ?_
  refine a_al G36 (i := 2) dL_law_221 rfl ?_
  refine a_ld G36 hX hbl hL hj 1 (by decide) rfl dL_law_222 dL_law_223 dL_law_224 dL_law_225 dL_law_226 ?_
  refine a_to ?_
  refine a_callI (as := [.int (xs (j + 1))]) (st := [.int v]) (k := 36) G48 (aw_new s w) mdX6_hanger (fun z h => c_X6_hanger w M2 l (xs (j + 1)) N z h) ⟨by decide, by decide⟩ (ce36 w) clX6 rfl qw813 rfl rfl (Nat.le_of_ble_eq_true rfl) (by decide) dL_law_227 e2 ?_
  refine a_fro ?_
  refine a_same G36 (tgt := 1276) dL_law_230 (by decide) ?_
  exact k M2 N2 R2
set_option maxRecDepth 100000 in
set_option maxHeartbeats 4000000 in
theorem lc_1 (G36 : LG p s m meth c w b 36 cs sl) (G48 : LG p s m meth c w b 48 cs sl) (hX : va_X b L xs s s.heap) (hbl : b < s.heap.size) (hL : L ≤ 3072) {j : Nat} (hj : j + 6 ≤ L) (R : Rel M N) (k : ∀ M2 N2, Rel M2 N2 → LwP p l e s m below meth c w b cs sl Q 0 36 N2 1276 (lvw w b j) [] M2) : LwP p l e s m below meth c w b cs sl Q 0 36 N 235 (lvw w b j) [] M := by
  obtain ⟨v, M2, N2, e1, e2, R2⟩ := p_of R (xs (j + 1)) (xs (j + 2))
  refine a_al G36 (i := 1) dL_law_235 rfl ?_
  refine a_ld G36 hX hbl hL hj 1 (by decide) rfl dL_law_236 dL_law_237 dL_law_238 dL_law_239 dL_law_240 ?_
  refine a_ld G36 hX hbl hL hj 2 (by decide) rfl dL_law_241 dL_law_242 dL_law_243 dL_law_244 dL_law_245 ?_
  refine a_callI (as := [.int (xs (j + 1)), .int (xs (j + 2))]) (st := []) (k := 0) G36 (aw_new s w) mdX5_of (fun z h => c_X5_of w N l (xs (j + 1)) (xs (j + 2)) M z h) ⟨by decide, by decide⟩ (ce0 w) clX5 rfl qw259 rfl rfl (Nat.le_of_ble_eq_true rfl) (by decide) dL_law_246 e1 ?_
  refine a_al G36 (i := 2) dL_law_249 rfl ?_
  refine a_ld G36 hX hbl hL hj 1 (by decide) rfl dL_law_250 dL_law_251 dL_law_252 dL_law_253 dL_law_254 ?_
  refine a_ld G36 hX hbl hL hj 2 (by decide) rfl dL_law_255 dL_law_256 dL_law_257 dL_law_258 dL_law_259 ?_
  refine a_to ?_
  refine a_callI (as := [.int (xs (j + 1)), .int (xs (j + 2))]) (st := [.int v]) (k := 36) G48 (aw_new s w) mdX6_of (fun z h => c_X6_of w M2 l (xs (j + 1)) (xs (j + 2)) N z h) ⟨by decide, by decide⟩ (ce36 w) clX6 rfl qw837 rfl rfl (Nat.le_of_ble_eq_true rfl) (by decide) dL_law_260 e2 ?_
  refine a_fro ?_
  refine a_same G36 (tgt := 1276) dL_law_263 (by decide) ?_
  exact k M2 N2 R2
set_option maxRecDepth 100000 in
set_option maxHeartbeats 4000000 in
theorem lc_2 (G36 : LG p s m meth c w b 36 cs sl) (G48 : LG p s m meth c w b 48 cs sl) (hX : va_X b L xs s s.heap) (hbl : b < s.heap.size) (hL : L ≤ 3072) {j : Nat} (hj : j + 6 ≤ L) (R : Rel M N) (k : ∀ M2 N2, Rel M2 N2 → LwP p l e s m below meth c w b cs sl Q 0 36 N2 1276 (lvw w b j) [] M2) : LwP p l e s m below meth c w b cs sl Q 0 36 N 268 (lvw w b j) [] M := by
  obtain ⟨v, M2, N2, e1, e2, R2⟩ := p_set R (xs (j + 1)) (xs (j + 2)) (xs (j + 3))
  refine a_al G36 (i := 1) dL_law_268 rfl ?_
  refine a_ld G36 hX hbl hL hj 1 (by decide) rfl dL_law_269 dL_law_270 dL_law_271 dL_law_272 dL_law_273 ?_
  refine a_ld G36 hX hbl hL hj 2 (by decide) rfl dL_law_274 dL_law_275 dL_law_276 dL_law_277 dL_law_278 ?_
  refine a_ld G36 hX hbl hL hj 3 (by decide) rfl dL_law_279 dL_law_280 dL_law_281 dL_law_282 dL_law_283 ?_
  refine a_callI (as := [.int (xs (j + 1)), .int (xs (j + 2)), .int (xs (j + 3))]) (st := []) (k := 0) G36 (aw_new s w) mdX5_set (fun z h => c_X5_set w N l (xs (j + 1)) (xs (j + 2)) (xs (j + 3)) M z h) ⟨by decide, by decide⟩ (ce0 w) clX5 rfl qw277 rfl rfl (Nat.le_of_ble_eq_true rfl) (by decide) dL_law_284 e1 ?_
  refine a_al G36 (i := 2) dL_law_287 rfl ?_
  refine a_ld G36 hX hbl hL hj 1 (by decide) rfl dL_law_288 dL_law_289 dL_law_290 dL_law_291 dL_law_292 ?_
  refine a_ld G36 hX hbl hL hj 2 (by decide) rfl dL_law_293 dL_law_294 dL_law_295 dL_law_296 dL_law_297 ?_
  refine a_ld G36 hX hbl hL hj 3 (by decide) rfl dL_law_298 dL_law_299 dL_law_300 dL_law_301 dL_law_302 ?_
  refine a_to ?_
  refine a_callI (as := [.int (xs (j + 1)), .int (xs (j + 2)), .int (xs (j + 3))]) (st := [.int v]) (k := 36) G48 (aw_new s w) mdX6_set (fun z h => c_X6_set w M2 l (xs (j + 1)) (xs (j + 2)) (xs (j + 3)) N z h) ⟨by decide, by decide⟩ (ce36 w) clX6 rfl qw858 rfl rfl (Nat.le_of_ble_eq_true rfl) (by decide) dL_law_303 e2 ?_
  refine a_fro ?_
  refine a_same G36 (tgt := 1276) dL_law_306 (by decide) ?_
  exact k M2 N2 R2
set_option maxRecDepth 100000 in
set_option maxHeartbeats 4000000 in
theorem lc_3 (G36 : LG p s m meth c w b 36 cs sl) (G48 : LG p s m meth c w b 48 cs sl) (hX : va_X b L xs s s.heap) (hbl : b < s.heap.size) (hL : L ≤ 3072) {j : Nat} (hj : j + 6 ≤ L) (R : Rel M N) (k : ∀ M2 N2, Rel M2 N2 → LwP p l e s m below meth c w b cs sl Q 0 36 N2 1276 (lvw w b j) [] M2) : LwP p l e s m below meth c w b cs sl Q 0 36 N 311 (lvw w b j) [] M := by
  obtain ⟨v, M2, N2, e1, e2, R2⟩ := p_turn R (xs (j + 1)) (xs (j + 2))
  refine a_al G36 (i := 1) dL_law_311 rfl ?_
  refine a_ld G36 hX hbl hL hj 1 (by decide) rfl dL_law_312 dL_law_313 dL_law_314 dL_law_315 dL_law_316 ?_
  refine a_ld G36 hX hbl hL hj 2 (by decide) rfl dL_law_317 dL_law_318 dL_law_319 dL_law_320 dL_law_321 ?_
  refine a_callI (as := [.int (xs (j + 1)), .int (xs (j + 2))]) (st := []) (k := 0) G36 (aw_new s w) mdX5_turn (fun z h => c_X5_turn w N l (xs (j + 1)) (xs (j + 2)) M z h) ⟨by decide, by decide⟩ (ce0 w) clX5 rfl qw281 rfl rfl (Nat.le_of_ble_eq_true rfl) (by decide) dL_law_322 e1 ?_
  refine a_al G36 (i := 2) dL_law_325 rfl ?_
  refine a_ld G36 hX hbl hL hj 1 (by decide) rfl dL_law_326 dL_law_327 dL_law_328 dL_law_329 dL_law_330 ?_
  refine a_ld G36 hX hbl hL hj 2 (by decide) rfl dL_law_331 dL_law_332 dL_law_333 dL_law_334 dL_law_335 ?_
  refine a_to ?_
  refine a_callI (as := [.int (xs (j + 1)), .int (xs (j + 2))]) (st := [.int v]) (k := 36) G48 (aw_new s w) mdX6_turn (fun z h => c_X6_turn w M2 l (xs (j + 1)) (xs (j + 2)) N z h) ⟨by decide, by decide⟩ (ce36 w) clX6 rfl qw868 rfl rfl (Nat.le_of_ble_eq_true rfl) (by decide) dL_law_336 e2 ?_
  refine a_fro ?_
  refine a_same G36 (tgt := 1276) dL_law_339 (by decide) ?_
  exact k M2 N2 R2
set_option maxRecDepth 100000 in
set_option maxHeartbeats 4000000 in
theorem lc_4 (G36 : LG p s m meth c w b 36 cs sl) (G48 : LG p s m meth c w b 48 cs sl) (hX : va_X b L xs s s.heap) (hbl : b < s.heap.size) (hL : L ≤ 3072) {j : Nat} (hj : j + 6 ≤ L) (R : Rel M N) (k : ∀ M2 N2, Rel M2 N2 → LwP p l e s m below meth c w b cs sl Q 0 36 N2 1276 (lvw w b j) [] M2) : LwP p l e s m below meth c w b cs sl Q 0 36 N 344 (lvw w b j) [] M := by
  obtain ⟨v, M2, N2, e1, e2, R2⟩ := p_as R (xs (j + 1)) (xs (j + 2))
  refine a_al G36 (i := 1) dL_law_344 rfl ?_
  refine a_ld G36 hX hbl hL hj 1 (by decide) rfl dL_law_345 dL_law_346 dL_law_347 dL_law_348 dL_law_349 ?_
  refine a_ld G36 hX hbl hL hj 2 (by decide) rfl dL_law_350 dL_law_351 dL_law_352 dL_law_353 dL_law_354 ?_
  refine a_callI (as := [.int (xs (j + 1)), .int (xs (j + 2))]) (st := []) (k := 0) G36 (aw_new s w) mdX5_as (fun z h => c_X5_as w N l (xs (j + 1)) (xs (j + 2)) M z h) ⟨by decide, by decide⟩ (ce0 w) clX5 rfl qw285 rfl rfl (Nat.le_of_ble_eq_true rfl) (by decide) dL_law_355 e1 ?_
  refine a_al G36 (i := 2) dL_law_358 rfl ?_
  refine a_ld G36 hX hbl hL hj 1 (by decide) rfl dL_law_359 dL_law_360 dL_law_361 dL_law_362 dL_law_363 ?_
  refine a_ld G36 hX hbl hL hj 2 (by decide) rfl dL_law_364 dL_law_365 dL_law_366 dL_law_367 dL_law_368 ?_
  refine a_to ?_
  refine a_callI (as := [.int (xs (j + 1)), .int (xs (j + 2))]) (st := [.int v]) (k := 36) G48 (aw_new s w) mdX6_as (fun z h => c_X6_as w M2 l (xs (j + 1)) (xs (j + 2)) N z h) ⟨by decide, by decide⟩ (ce36 w) clX6 rfl qw872 rfl rfl (Nat.le_of_ble_eq_true rfl) (by decide) dL_law_369 e2 ?_
  refine a_fro ?_
  refine a_same G36 (tgt := 1276) dL_law_372 (by decide) ?_
  exact k M2 N2 R2
set_option maxRecDepth 100000 in
set_option maxHeartbeats 4000000 in
theorem lc_5 (G36 : LG p s m meth c w b 36 cs sl) (G48 : LG p s m meth c w b 48 cs sl) (hX : va_X b L xs s s.heap) (hbl : b < s.heap.size) (hL : L ≤ 3072) {j : Nat} (hj : j + 6 ≤ L) (R : Rel M N) (k : ∀ M2 N2, Rel M2 N2 → LwP p l e s m below meth c w b cs sl Q 0 36 N2 1276 (lvw w b j) [] M2) : LwP p l e s m below meth c w b cs sl Q 0 36 N 377 (lvw w b j) [] M := by
  obtain ⟨v, M2, N2, e1, e2, R2⟩ := p_price R (xs (j + 1))
  refine a_al G36 (i := 1) dL_law_377 rfl ?_
  refine a_ld G36 hX hbl hL hj 1 (by decide) rfl dL_law_378 dL_law_379 dL_law_380 dL_law_381 dL_law_382 ?_
  refine a_callI (as := [.int (xs (j + 1))]) (st := []) (k := 0) G36 (aw_new s w) mdX5_price (fun z h => c_X5_price w N l (xs (j + 1)) M z h) ⟨by decide, by decide⟩ (ce0 w) clX5 rfl qw296 rfl rfl (Nat.le_of_ble_eq_true rfl) (by decide) dL_law_383 e1 ?_
  refine a_al G36 (i := 2) dL_law_386 rfl ?_
  refine a_ld G36 hX hbl hL hj 1 (by decide) rfl dL_law_387 dL_law_388 dL_law_389 dL_law_390 dL_law_391 ?_
  refine a_to ?_
  refine a_callI (as := [.int (xs (j + 1))]) (st := [.int v]) (k := 36) G48 (aw_new s w) mdX6_price (fun z h => c_X6_price w M2 l (xs (j + 1)) N z h) ⟨by decide, by decide⟩ (ce36 w) clX6 rfl qw880 rfl rfl (Nat.le_of_ble_eq_true rfl) (by decide) dL_law_392 e2 ?_
  refine a_fro ?_
  refine a_same G36 (tgt := 1276) dL_law_395 (by decide) ?_
  exact k M2 N2 R2
set_option maxRecDepth 100000 in
set_option maxHeartbeats 4000000 in
theorem lc_6 (G36 : LG p s m meth c w b 36 cs sl) (G48 : LG p s m meth c w b 48 cs sl) (hX : va_X b L xs s s.heap) (hbl : b < s.heap.size) (hL : L ≤ 3072) {j : Nat} (hj : j + 6 ≤ L) (R : Rel M N) (k : ∀ M2 N2, Rel M2 N2 → LwP p l e s m below meth c w b cs sl Q 0 36 N2 1276 (lvw w b j) [] M2) : LwP p l e s m below meth c w b cs sl Q 0 36 N 400 (lvw w b j) [] M := by
  obtain ⟨v, M2, N2, e1, e2, R2⟩ := p_at R (xs (j + 1))
  refine a_al G36 (i := 1) dL_law_400 rfl ?_
  refine a_ld G36 hX hbl hL hj 1 (by decide) rfl dL_law_401 dL_law_402 dL_law_403 dL_law_404 dL_law_405 ?_
  refine a_callI (as := [.int (xs (j + 1))]) (st := []) (k := 0) G36 (aw_new s w) mdX5_at (fun z h => c_X5_at w N l (xs (j + 1)) M z h) ⟨by decide, by decide⟩ (ce0 w) clX5 rfl qw300 rfl rfl (Nat.le_of_ble_eq_true rfl) (by decide) dL_law_406 e1 ?_
  refine a_al G36 (i := 2) dL_law_409 rfl ?_
  refine a_ld G36 hX hbl hL hj 1 (by decide) rfl dL_law_410 dL_law_411 dL_law_412 dL_law_413 dL_law_414 ?_
  refine a_to ?_
  refine a_callI (as := [.int (xs (j + 1))]) (st := [.int v]) (k := 36) G48 (aw_new s w) mdX6_at (fun z h => c_X6_at w M2 l (xs (j + 1)) N z h) ⟨by decide, by decide⟩ (ce36 w) clX6 rfl qw885 rfl rfl (Nat.le_of_ble_eq_true rfl) (by decide) dL_law_415 e2 ?_
  refine a_fro ?_
  refine a_same G36 (tgt := 1276) dL_law_418 (by decide) ?_
  exact k M2 N2 R2
set_option maxRecDepth 100000 in
set_option maxHeartbeats 4000000 in
theorem lc_7 (G36 : LG p s m meth c w b 36 cs sl) (G48 : LG p s m meth c w b 48 cs sl) (hX : va_X b L xs s s.heap) (hbl : b < s.heap.size) (hL : L ≤ 3072) {j : Nat} (hj : j + 6 ≤ L) (R : Rel M N) (k : ∀ M2 N2, Rel M2 N2 → LwP p l e s m below meth c w b cs sl Q 0 36 N2 1276 (lvw w b j) [] M2) : LwP p l e s m below meth c w b cs sl Q 0 36 N 423 (lvw w b j) [] M := by
  obtain ⟨v, M2, N2, e1, e2, R2⟩ := p_hang R (xs (j + 1)) (xs (j + 2))
  refine a_al G36 (i := 1) dL_law_423 rfl ?_
  refine a_ld G36 hX hbl hL hj 1 (by decide) rfl dL_law_424 dL_law_425 dL_law_426 dL_law_427 dL_law_428 ?_
  refine a_ld G36 hX hbl hL hj 2 (by decide) rfl dL_law_429 dL_law_430 dL_law_431 dL_law_432 dL_law_433 ?_
  refine a_callI (as := [.int (xs (j + 1)), .int (xs (j + 2))]) (st := []) (k := 0) G36 (aw_new s w) mdX5_hang (fun z h => c_X5_hang w N l (xs (j + 1)) (xs (j + 2)) M z h) ⟨by decide, by decide⟩ (ce0 w) clX5 rfl qw312 rfl rfl (Nat.le_of_ble_eq_true rfl) (by decide) dL_law_434 e1 ?_
  refine a_al G36 (i := 2) dL_law_437 rfl ?_
  refine a_ld G36 hX hbl hL hj 1 (by decide) rfl dL_law_438 dL_law_439 dL_law_440 dL_law_441 dL_law_442 ?_
  refine a_ld G36 hX hbl hL hj 2 (by decide) rfl dL_law_443 dL_law_444 dL_law_445 dL_law_446 dL_law_447 ?_
  refine a_to ?_
  refine a_callI (as := [.int (xs (j + 1)), .int (xs (j + 2))]) (st := [.int v]) (k := 36) G48 (aw_new s w) mdX6_hang (fun z h => c_X6_hang w M2 l (xs (j + 1)) (xs (j + 2)) N z h) ⟨by decide, by decide⟩ (ce36 w) clX6 rfl qw898 rfl rfl (Nat.le_of_ble_eq_true rfl) (by decide) dL_law_448 e2 ?_
  refine a_fro ?_
  refine a_same G36 (tgt := 1276) dL_law_451 (by decide) ?_
  exact k M2 N2 R2
set_option maxRecDepth 100000 in
set_option maxHeartbeats 4000000 in
theorem lc_8 (G36 : LG p s m meth c w b 36 cs sl) (G48 : LG p s m meth c w b 48 cs sl) (hX : va_X b L xs s s.heap) (hbl : b < s.heap.size) (hL : L ≤ 3072) {j : Nat} (hj : j + 6 ≤ L) (R : Rel M N) (k : ∀ M2 N2, Rel M2 N2 → LwP p l e s m below meth c w b cs sl Q 0 36 N2 1276 (lvw w b j) [] M2) : LwP p l e s m below meth c w b cs sl Q 0 36 N 456 (lvw w b j) [] M := by
  obtain ⟨v, M2, N2, e1, e2, R2⟩ := p_face R (xs (j + 1))
  refine a_al G36 (i := 1) dL_law_456 rfl ?_
  refine a_ld G36 hX hbl hL hj 1 (by decide) rfl dL_law_457 dL_law_458 dL_law_459 dL_law_460 dL_law_461 ?_
  refine a_callI (as := [.int (xs (j + 1))]) (st := []) (k := 0) G36 (aw_new s w) mdX5_face (fun z h => c_X5_face w N l (xs (j + 1)) M z h) ⟨by decide, by decide⟩ (ce0 w) clX5 rfl qw343 rfl rfl (Nat.le_of_ble_eq_true rfl) (by decide) dL_law_462 e1 ?_
  refine a_al G36 (i := 2) dL_law_465 rfl ?_
  refine a_ld G36 hX hbl hL hj 1 (by decide) rfl dL_law_466 dL_law_467 dL_law_468 dL_law_469 dL_law_470 ?_
  refine a_to ?_
  refine a_callI (as := [.int (xs (j + 1))]) (st := [.int v]) (k := 36) G48 (aw_new s w) mdX6_face (fun z h => c_X6_face w M2 l (xs (j + 1)) N z h) ⟨by decide, by decide⟩ (ce36 w) clX6 rfl qw926 rfl rfl (Nat.le_of_ble_eq_true rfl) (by decide) dL_law_471 e2 ?_
  refine a_fro ?_
  refine a_same G36 (tgt := 1276) dL_law_474 (by decide) ?_
  exact k M2 N2 R2
set_option maxRecDepth 100000 in
set_option maxHeartbeats 4000000 in
theorem lc_9 (G36 : LG p s m meth c w b 36 cs sl) (G48 : LG p s m meth c w b 48 cs sl) (hX : va_X b L xs s s.heap) (hbl : b < s.heap.size) (hL : L ≤ 3072) {j : Nat} (hj : j + 6 ≤ L) (R : Rel M N) (k : ∀ M2 N2, Rel M2 N2 → LwP p l e s m below meth c w b cs sl Q 0 36 N2 1276 (lvw w b j) [] M2) : LwP p l e s m below meth c w b cs sl Q 0 36 N 479 (lvw w b j) [] M := by
  obtain ⟨v, M2, N2, e1, e2, R2⟩ := p_shift R (xs (j + 1)) (xs (j + 2))
  refine a_al G36 (i := 1) dL_law_479 rfl ?_
  refine a_ld G36 hX hbl hL hj 1 (by decide) rfl dL_law_480 dL_law_481 dL_law_482 dL_law_483 dL_law_484 ?_
  refine a_ld G36 hX hbl hL hj 2 (by decide) rfl dL_law_485 dL_law_486 dL_law_487 dL_law_488 dL_law_489 ?_
  refine a_callI (as := [.int (xs (j + 1)), .int (xs (j + 2))]) (st := []) (k := 0) G36 (aw_new s w) mdX5_shift (fun z h => c_X5_shift w N l (xs (j + 1)) (xs (j + 2)) M z h) ⟨by decide, by decide⟩ (ce0 w) clX5 rfl qw347 rfl rfl (Nat.le_of_ble_eq_true rfl) (by decide) dL_law_490 e1 ?_
  refine a_al G36 (i := 2) dL_law_493 rfl ?_
  refine a_ld G36 hX hbl hL hj 1 (by decide) rfl dL_law_494 dL_law_495 dL_law_496 dL_law_497 dL_law_498 ?_
  refine a_ld G36 hX hbl hL hj 2 (by decide) rfl dL_law_499 dL_law_500 dL_law_501 dL_law_502 dL_law_503 ?_
  refine a_to ?_
  refine a_callI (as := [.int (xs (j + 1)), .int (xs (j + 2))]) (st := [.int v]) (k := 36) G48 (aw_new s w) mdX6_shift (fun z h => c_X6_shift w M2 l (xs (j + 1)) (xs (j + 2)) N z h) ⟨by decide, by decide⟩ (ce36 w) clX6 rfl qw930 rfl rfl (Nat.le_of_ble_eq_true rfl) (by decide) dL_law_504 e2 ?_
  refine a_fro ?_
  refine a_same G36 (tgt := 1276) dL_law_507 (by decide) ?_
  exact k M2 N2 R2
set_option maxRecDepth 100000 in
set_option maxHeartbeats 4000000 in
theorem lc_10 (G36 : LG p s m meth c w b 36 cs sl) (G48 : LG p s m meth c w b 48 cs sl) (hX : va_X b L xs s s.heap) (hbl : b < s.heap.size) (hL : L ≤ 3072) {j : Nat} (hj : j + 6 ≤ L) (R : Rel M N) (k : ∀ M2 N2, Rel M2 N2 → LwP p l e s m below meth c w b cs sl Q 0 36 N2 1276 (lvw w b j) [] M2) : LwP p l e s m below meth c w b cs sl Q 0 36 N 512 (lvw w b j) [] M := by
  obtain ⟨v, M2, N2, e1, e2, R2⟩ := p_take R (xs (j + 1)) (xs (j + 2))
  refine a_al G36 (i := 1) dL_law_512 rfl ?_
  refine a_ld G36 hX hbl hL hj 1 (by decide) rfl dL_law_513 dL_law_514 dL_law_515 dL_law_516 dL_law_517 ?_
  refine a_ld G36 hX hbl hL hj 2 (by decide) rfl dL_law_518 dL_law_519 dL_law_520 dL_law_521 dL_law_522 ?_
  refine a_callI (as := [.int (xs (j + 1)), .int (xs (j + 2))]) (st := []) (k := 0) G36 (aw_new s w) mdX5_take (fun z h => c_X5_take w N l (xs (j + 1)) (xs (j + 2)) M z h) ⟨by decide, by decide⟩ (ce0 w) clX5 rfl qw356 rfl rfl (Nat.le_of_ble_eq_true rfl) (by decide) dL_law_523 e1 ?_
  refine a_al G36 (i := 2) dL_law_526 rfl ?_
  refine a_ld G36 hX hbl hL hj 1 (by decide) rfl dL_law_527 dL_law_528 dL_law_529 dL_law_530 dL_law_531 ?_
  refine a_ld G36 hX hbl hL hj 2 (by decide) rfl dL_law_532 dL_law_533 dL_law_534 dL_law_535 dL_law_536 ?_
  refine a_to ?_
  refine a_callI (as := [.int (xs (j + 1)), .int (xs (j + 2))]) (st := [.int v]) (k := 36) G48 (aw_new s w) mdX6_take (fun z h => c_X6_take w M2 l (xs (j + 1)) (xs (j + 2)) N z h) ⟨by decide, by decide⟩ (ce36 w) clX6 rfl qw936 rfl rfl (Nat.le_of_ble_eq_true rfl) (by decide) dL_law_537 e2 ?_
  refine a_fro ?_
  refine a_same G36 (tgt := 1276) dL_law_540 (by decide) ?_
  exact k M2 N2 R2
set_option maxRecDepth 100000 in
set_option maxHeartbeats 4000000 in
theorem lc_11 (G36 : LG p s m meth c w b 36 cs sl) (G48 : LG p s m meth c w b 48 cs sl) (hX : va_X b L xs s s.heap) (hbl : b < s.heap.size) (hL : L ≤ 3072) {j : Nat} (hj : j + 6 ≤ L) (R : Rel M N) (k : ∀ M2 N2, Rel M2 N2 → LwP p l e s m below meth c w b cs sl Q 0 36 N2 1276 (lvw w b j) [] M2) : LwP p l e s m below meth c w b cs sl Q 0 36 N 545 (lvw w b j) [] M := by
  obtain ⟨v, M2, N2, e1, e2, R2⟩ := p_now R (xs (j + 1))
  refine a_al G36 (i := 1) dL_law_545 rfl ?_
  refine a_ld G36 hX hbl hL hj 1 (by decide) rfl dL_law_546 dL_law_547 dL_law_548 dL_law_549 dL_law_550 ?_
  refine a_callI (as := [.int (xs (j + 1))]) (st := []) (k := 0) G36 (aw_new s w) mdX5_now (fun z h => c_X5_now w N l (xs (j + 1)) M z h) ⟨by decide, by decide⟩ (ce0 w) clX5 rfl qw417 rfl rfl (Nat.le_of_ble_eq_true rfl) (by decide) dL_law_551 e1 ?_
  refine a_al G36 (i := 2) dL_law_554 rfl ?_
  refine a_ld G36 hX hbl hL hj 1 (by decide) rfl dL_law_555 dL_law_556 dL_law_557 dL_law_558 dL_law_559 ?_
  refine a_to ?_
  refine a_callI (as := [.int (xs (j + 1))]) (st := [.int v]) (k := 36) G48 (aw_new s w) mdX6_now (fun z h => c_X6_now w M2 l (xs (j + 1)) N z h) ⟨by decide, by decide⟩ (ce36 w) clX6 rfl qw980 rfl rfl (Nat.le_of_ble_eq_true rfl) (by decide) dL_law_560 e2 ?_
  refine a_fro ?_
  refine a_same G36 (tgt := 1276) dL_law_563 (by decide) ?_
  exact k M2 N2 R2
set_option maxRecDepth 100000 in
set_option maxHeartbeats 4000000 in
theorem lc_12 (G36 : LG p s m meth c w b 36 cs sl) (G48 : LG p s m meth c w b 48 cs sl) (hX : va_X b L xs s s.heap) (hbl : b < s.heap.size) (hL : L ≤ 3072) {j : Nat} (hj : j + 6 ≤ L) (R : Rel M N) (k : ∀ M2 N2, Rel M2 N2 → LwP p l e s m below meth c w b cs sl Q 0 36 N2 1276 (lvw w b j) [] M2) : LwP p l e s m below meth c w b cs sl Q 0 36 N 568 (lvw w b j) [] M := by
  obtain ⟨v, M2, N2, e1, e2, R2⟩ := p_tangled R (xs (j + 1))
  refine a_al G36 (i := 1) dL_law_568 rfl ?_
  refine a_ld G36 hX hbl hL hj 1 (by decide) rfl dL_law_569 dL_law_570 dL_law_571 dL_law_572 dL_law_573 ?_
  refine a_callI (as := [.int (xs (j + 1))]) (st := []) (k := 0) G36 (aw_new s w) mdX5_tangled (fun z h => c_X5_tangled w N l (xs (j + 1)) M z h) ⟨by decide, by decide⟩ (ce0 w) clX5 rfl qw434 rfl rfl (Nat.le_of_ble_eq_true rfl) (by decide) dL_law_574 e1 ?_
  refine a_al G36 (i := 2) dL_law_577 rfl ?_
  refine a_ld G36 hX hbl hL hj 1 (by decide) rfl dL_law_578 dL_law_579 dL_law_580 dL_law_581 dL_law_582 ?_
  refine a_to ?_
  refine a_callI (as := [.int (xs (j + 1))]) (st := [.int v]) (k := 36) G48 (aw_new s w) mdX6_tangled (fun z h => c_X6_tangled w M2 l (xs (j + 1)) N z h) ⟨by decide, by decide⟩ (ce36 w) clX6 rfl qw996 rfl rfl (Nat.le_of_ble_eq_true rfl) (by decide) dL_law_583 e2 ?_
  refine a_fro ?_
  refine a_same G36 (tgt := 1276) dL_law_586 (by decide) ?_
  exact k M2 N2 R2
set_option maxRecDepth 100000 in
set_option maxHeartbeats 4000000 in
theorem lc_13 (G36 : LG p s m meth c w b 36 cs sl) (G48 : LG p s m meth c w b 48 cs sl) (hX : va_X b L xs s s.heap) (hbl : b < s.heap.size) (hL : L ≤ 3072) {j : Nat} (hj : j + 6 ≤ L) (R : Rel M N) (k : ∀ M2 N2, Rel M2 N2 → LwP p l e s m below meth c w b cs sl Q 0 36 N2 1276 (lvw w b j) [] M2) : LwP p l e s m below meth c w b cs sl Q 0 36 N 591 (lvw w b j) [] M := by
  obtain ⟨v, M2, N2, e1, e2, R2⟩ := p_catches R (xs (j + 1)) (xs (j + 2))
  refine a_al G36 (i := 1) dL_law_591 rfl ?_
  refine a_ld G36 hX hbl hL hj 1 (by decide) rfl dL_law_592 dL_law_593 dL_law_594 dL_law_595 dL_law_596 ?_
  refine a_ld G36 hX hbl hL hj 2 (by decide) rfl dL_law_597 dL_law_598 dL_law_599 dL_law_600 dL_law_601 ?_
  refine a_callI (as := [.int (xs (j + 1)), .int (xs (j + 2))]) (st := []) (k := 0) G36 (aw_new s w) mdX5_catches (fun z h => c_X5_catches w N l (xs (j + 1)) (xs (j + 2)) M z h) ⟨by decide, by decide⟩ (ce0 w) clX5 rfl qw444 rfl rfl (Nat.le_of_ble_eq_true rfl) (by decide) dL_law_602 e1 ?_
  refine a_al G36 (i := 2) dL_law_605 rfl ?_
  refine a_ld G36 hX hbl hL hj 1 (by decide) rfl dL_law_606 dL_law_607 dL_law_608 dL_law_609 dL_law_610 ?_
  refine a_ld G36 hX hbl hL hj 2 (by decide) rfl dL_law_611 dL_law_612 dL_law_613 dL_law_614 dL_law_615 ?_
  refine a_to ?_
  refine a_callI (as := [.int (xs (j + 1)), .int (xs (j + 2))]) (st := [.int v]) (k := 36) G48 (aw_new s w) mdX6_catches (fun z h => c_X6_catches w M2 l (xs (j + 1)) (xs (j + 2)) N z h) ⟨by decide, by decide⟩ (ce36 w) clX6 rfl qw1000 rfl rfl (Nat.le_of_ble_eq_true rfl) (by decide) dL_law_616 e2 ?_
  refine a_fro ?_
  refine a_same G36 (tgt := 1276) dL_law_619 (by decide) ?_
  exact k M2 N2 R2
set_option maxRecDepth 100000 in
set_option maxHeartbeats 4000000 in
theorem lc_14 (G36 : LG p s m meth c w b 36 cs sl) (G48 : LG p s m meth c w b 48 cs sl) (hX : va_X b L xs s s.heap) (hbl : b < s.heap.size) (hL : L ≤ 3072) {j : Nat} (hj : j + 6 ≤ L) (R : Rel M N) (k : ∀ M2 N2, Rel M2 N2 → LwP p l e s m below meth c w b cs sl Q 0 36 N2 1276 (lvw w b j) [] M2) : LwP p l e s m below meth c w b cs sl Q 0 36 N 624 (lvw w b j) [] M := by
  obtain ⟨v, M2, N2, e1, e2, R2⟩ := p_comes R (xs (j + 1)) (xs (j + 2))
  refine a_al G36 (i := 1) dL_law_624 rfl ?_
  refine a_ld G36 hX hbl hL hj 1 (by decide) rfl dL_law_625 dL_law_626 dL_law_627 dL_law_628 dL_law_629 ?_
  refine a_ld G36 hX hbl hL hj 2 (by decide) rfl dL_law_630 dL_law_631 dL_law_632 dL_law_633 dL_law_634 ?_
  refine a_callI (as := [.int (xs (j + 1)), .int (xs (j + 2))]) (st := []) (k := 0) G36 (aw_new s w) mdX5_comes (fun z h => c_X5_comes w N l (xs (j + 1)) (xs (j + 2)) M z h) ⟨by decide, by decide⟩ (ce0 w) clX5 rfl qw450 rfl rfl (Nat.le_of_ble_eq_true rfl) (by decide) dL_law_635 e1 ?_
  refine a_al G36 (i := 2) dL_law_638 rfl ?_
  refine a_ld G36 hX hbl hL hj 1 (by decide) rfl dL_law_639 dL_law_640 dL_law_641 dL_law_642 dL_law_643 ?_
  refine a_ld G36 hX hbl hL hj 2 (by decide) rfl dL_law_644 dL_law_645 dL_law_646 dL_law_647 dL_law_648 ?_
  refine a_to ?_
  refine a_callI (as := [.int (xs (j + 1)), .int (xs (j + 2))]) (st := [.int v]) (k := 36) G48 (aw_new s w) mdX6_comes (fun z h => c_X6_comes w M2 l (xs (j + 1)) (xs (j + 2)) N z h) ⟨by decide, by decide⟩ (ce36 w) clX6 rfl qw1004 rfl rfl (Nat.le_of_ble_eq_true rfl) (by decide) dL_law_649 e2 ?_
  refine a_fro ?_
  refine a_same G36 (tgt := 1276) dL_law_652 (by decide) ?_
  exact k M2 N2 R2
set_option maxRecDepth 100000 in
set_option maxHeartbeats 4000000 in
theorem lc_15 (G36 : LG p s m meth c w b 36 cs sl) (G48 : LG p s m meth c w b 48 cs sl) (hX : va_X b L xs s s.heap) (hbl : b < s.heap.size) (hL : L ≤ 3072) {j : Nat} (hj : j + 6 ≤ L) (R : Rel M N) (k : ∀ M2 N2, Rel M2 N2 → LwP p l e s m below meth c w b cs sl Q 0 36 N2 1276 (lvw w b j) [] M2) : LwP p l e s m below meth c w b cs sl Q 0 36 N 657 (lvw w b j) [] M := by
  obtain ⟨v, M2, N2, e1, e2, R2⟩ := p_falls R (xs (j + 1)) (xs (j + 2))
  refine a_al G36 (i := 1) dL_law_657 rfl ?_
  refine a_ld G36 hX hbl hL hj 1 (by decide) rfl dL_law_658 dL_law_659 dL_law_660 dL_law_661 dL_law_662 ?_
  refine a_ld G36 hX hbl hL hj 2 (by decide) rfl dL_law_663 dL_law_664 dL_law_665 dL_law_666 dL_law_667 ?_
  refine a_callI (as := [.int (xs (j + 1)), .int (xs (j + 2))]) (st := []) (k := 0) G36 (aw_new s w) mdX5_falls (fun z h => c_X5_falls w N l (xs (j + 1)) (xs (j + 2)) M z h) ⟨by decide, by decide⟩ (ce0 w) clX5 rfl qw454 rfl rfl (Nat.le_of_ble_eq_true rfl) (by decide) dL_law_668 e1 ?_
  refine a_al G36 (i := 2) dL_law_671 rfl ?_
  refine a_ld G36 hX hbl hL hj 1 (by decide) rfl dL_law_672 dL_law_673 dL_law_674 dL_law_675 dL_law_676 ?_
  refine a_ld G36 hX hbl hL hj 2 (by decide) rfl dL_law_677 dL_law_678 dL_law_679 dL_law_680 dL_law_681 ?_
  refine a_to ?_
  refine a_callI (as := [.int (xs (j + 1)), .int (xs (j + 2))]) (st := [.int v]) (k := 36) G48 (aw_new s w) mdX6_falls (fun z h => c_X6_falls w M2 l (xs (j + 1)) (xs (j + 2)) N z h) ⟨by decide, by decide⟩ (ce36 w) clX6 rfl qw1008 rfl rfl (Nat.le_of_ble_eq_true rfl) (by decide) dL_law_682 e2 ?_
  refine a_fro ?_
  refine a_same G36 (tgt := 1276) dL_law_685 (by decide) ?_
  exact k M2 N2 R2
set_option maxRecDepth 100000 in
set_option maxHeartbeats 4000000 in
theorem lc_16 (G36 : LG p s m meth c w b 36 cs sl) (G48 : LG p s m meth c w b 48 cs sl) (hX : va_X b L xs s s.heap) (hbl : b < s.heap.size) (hL : L ≤ 3072) {j : Nat} (hj : j + 6 ≤ L) (R : Rel M N) (k : ∀ M2 N2, Rel M2 N2 → LwP p l e s m below meth c w b cs sl Q 0 36 N2 1276 (lvw w b j) [] M2) : LwP p l e s m below meth c w b cs sl Q 0 36 N 690 (lvw w b j) [] M := by
  obtain ⟨v, M2, N2, e1, e2, R2⟩ := p_heaps R
  refine a_al G36 (i := 1) dL_law_690 rfl ?_
  refine a_callI (as := []) (st := []) (k := 0) G36 (aw_new s w) mdX5_heaps (fun z h => c_X5_heaps w N l  M z h) ⟨by decide, by decide⟩ (ce0 w) clX5 rfl qw462 rfl rfl (Nat.le_of_ble_eq_true rfl) (by decide) dL_law_691 e1 ?_
  refine a_al G36 (i := 2) dL_law_694 rfl ?_
  refine a_to ?_
  refine a_callI (as := []) (st := [.int v]) (k := 36) G48 (aw_new s w) mdX6_heaps (fun z h => c_X6_heaps w M2 l  N z h) ⟨by decide, by decide⟩ (ce36 w) clX6 rfl qw1012 rfl rfl (Nat.le_of_ble_eq_true rfl) (by decide) dL_law_695 e2 ?_
  refine a_fro ?_
  refine a_same G36 (tgt := 1276) dL_law_698 (by decide) ?_
  exact k M2 N2 R2
set_option maxRecDepth 100000 in
set_option maxHeartbeats 4000000 in
theorem lc_17 (G36 : LG p s m meth c w b 36 cs sl) (G48 : LG p s m meth c w b 48 cs sl) (hX : va_X b L xs s s.heap) (hbl : b < s.heap.size) (hL : L ≤ 3072) {j : Nat} (hj : j + 6 ≤ L) (R : Rel M N) (k : ∀ M2 N2, Rel M2 N2 → LwP p l e s m below meth c w b cs sl Q 0 36 N2 1276 (lvw w b j) [] M2) : LwP p l e s m below meth c w b cs sl Q 0 36 N 703 (lvw w b j) [] M := by
  obtain ⟨v, M2, N2, e1, e2, R2⟩ := p_greatest R
  refine a_al G36 (i := 1) dL_law_703 rfl ?_
  refine a_callI (as := []) (st := []) (k := 0) G36 (aw_new s w) mdX5_greatest (fun z h => c_X5_greatest w N l  M z h) ⟨by decide, by decide⟩ (ce0 w) clX5 rfl qw467 rfl rfl (Nat.le_of_ble_eq_true rfl) (by decide) dL_law_704 e1 ?_
  refine a_al G36 (i := 2) dL_law_707 rfl ?_
  refine a_to ?_
  refine a_callI (as := []) (st := [.int v]) (k := 36) G48 (aw_new s w) mdX6_greatest (fun z h => c_X6_greatest w M2 l  N z h) ⟨by decide, by decide⟩ (ce36 w) clX6 rfl qw1020 rfl rfl (Nat.le_of_ble_eq_true rfl) (by decide) dL_law_708 e2 ?_
  refine a_fro ?_
  refine a_same G36 (tgt := 1276) dL_law_711 (by decide) ?_
  exact k M2 N2 R2
set_option maxRecDepth 100000 in
set_option maxHeartbeats 4000000 in
theorem lc_18 (G36 : LG p s m meth c w b 36 cs sl) (G48 : LG p s m meth c w b 48 cs sl) (hX : va_X b L xs s s.heap) (hbl : b < s.heap.size) (hL : L ≤ 3072) {j : Nat} (hj : j + 6 ≤ L) (R : Rel M N) (k : ∀ M2 N2, Rel M2 N2 → LwP p l e s m below meth c w b cs sl Q 0 36 N2 1276 (lvw w b j) [] M2) : LwP p l e s m below meth c w b cs sl Q 0 36 N 716 (lvw w b j) [] M := by
  obtain ⟨v, M2, N2, e1, e2, R2⟩ := p_manner R (xs (j + 1))
  refine a_al G36 (i := 1) dL_law_716 rfl ?_
  refine a_ld G36 hX hbl hL hj 1 (by decide) rfl dL_law_717 dL_law_718 dL_law_719 dL_law_720 dL_law_721 ?_
  refine a_callI (as := [.int (xs (j + 1))]) (st := []) (k := 0) G36 (aw_new s w) mdX5_manner (fun z h => c_X5_manner w N l (xs (j + 1)) M z h) ⟨by decide, by decide⟩ (ce0 w) clX5 rfl qw472 rfl rfl (Nat.le_of_ble_eq_true rfl) (by decide) dL_law_722 e1 ?_
  refine a_al G36 (i := 2) dL_law_725 rfl ?_
  refine a_ld G36 hX hbl hL hj 1 (by decide) rfl dL_law_726 dL_law_727 dL_law_728 dL_law_729 dL_law_730 ?_
  refine a_to ?_
  refine a_callI (as := [.int (xs (j + 1))]) (st := [.int v]) (k := 36) G48 (aw_new s w) mdX6_manner (fun z h => c_X6_manner w M2 l (xs (j + 1)) N z h) ⟨by decide, by decide⟩ (ce36 w) clX6 rfl qw1024 rfl rfl (Nat.le_of_ble_eq_true rfl) (by decide) dL_law_731 e2 ?_
  refine a_fro ?_
  refine a_same G36 (tgt := 1276) dL_law_734 (by decide) ?_
  exact k M2 N2 R2
set_option maxRecDepth 100000 in
set_option maxHeartbeats 4000000 in
theorem lc_19 (G36 : LG p s m meth c w b 36 cs sl) (G48 : LG p s m meth c w b 48 cs sl) (hX : va_X b L xs s s.heap) (hbl : b < s.heap.size) (hL : L ≤ 3072) {j : Nat} (hj : j + 6 ≤ L) (R : Rel M N) (k : ∀ M2 N2, Rel M2 N2 → LwP p l e s m below meth c w b cs sl Q 0 36 N2 1276 (lvw w b j) [] M2) : LwP p l e s m below meth c w b cs sl Q 0 36 N 739 (lvw w b j) [] M := by
  obtain ⟨v, M2, N2, e1, e2, R2⟩ := p_first R
  refine a_al G36 (i := 1) dL_law_739 rfl ?_
  refine a_callI (as := []) (st := []) (k := 0) G36 (aw_new s w) mdX5_first (fun z h => c_X5_first w N l  M z h) ⟨by decide, by decide⟩ (ce0 w) clX5 rfl qw480 rfl rfl (Nat.le_of_ble_eq_true rfl) (by decide) dL_law_740 e1 ?_
  refine a_al G36 (i := 2) dL_law_743 rfl ?_
  refine a_to ?_
  refine a_callI (as := []) (st := [.int v]) (k := 36) G48 (aw_new s w) mdX6_first (fun z h => c_X6_first w M2 l  N z h) ⟨by decide, by decide⟩ (ce36 w) clX6 rfl qw1028 rfl rfl (Nat.le_of_ble_eq_true rfl) (by decide) dL_law_744 e2 ?_
  refine a_fro ?_
  refine a_same G36 (tgt := 1276) dL_law_747 (by decide) ?_
  exact k M2 N2 R2
set_option maxRecDepth 100000 in
set_option maxHeartbeats 4000000 in
theorem lc_20 (G36 : LG p s m meth c w b 36 cs sl) (G48 : LG p s m meth c w b 48 cs sl) (hX : va_X b L xs s s.heap) (hbl : b < s.heap.size) (hL : L ≤ 3072) {j : Nat} (hj : j + 6 ≤ L) (R : Rel M N) (k : ∀ M2 N2, Rel M2 N2 → LwP p l e s m below meth c w b cs sl Q 0 36 N2 1276 (lvw w b j) [] M2) : LwP p l e s m below meth c w b cs sl Q 0 36 N 752 (lvw w b j) [] M := by
  obtain ⟨v, M2, N2, e1, e2, R2⟩ := p_spot R (xs (j + 1))
  refine a_al G36 (i := 1) dL_law_752 rfl ?_
  refine a_ld G36 hX hbl hL hj 1 (by decide) rfl dL_law_753 dL_law_754 dL_law_755 dL_law_756 dL_law_757 ?_
  refine a_callI (as := [.int (xs (j + 1))]) (st := []) (k := 0) G36 (aw_new s w) mdX5_spot (fun z h => c_X5_spot w N l (xs (j + 1)) M z h) ⟨by decide, by decide⟩ (ce0 w) clX5 rfl qw484 rfl rfl (Nat.le_of_ble_eq_true rfl) (by decide) dL_law_758 e1 ?_
  refine a_al G36 (i := 2) dL_law_761 rfl ?_
  refine a_ld G36 hX hbl hL hj 1 (by decide) rfl dL_law_762 dL_law_763 dL_law_764 dL_law_765 dL_law_766 ?_
  refine a_to ?_
  refine a_callI (as := [.int (xs (j + 1))]) (st := [.int v]) (k := 36) G48 (aw_new s w) mdX6_spot (fun z h => c_X6_spot w M2 l (xs (j + 1)) N z h) ⟨by decide, by decide⟩ (ce36 w) clX6 rfl qw1032 rfl rfl (Nat.le_of_ble_eq_true rfl) (by decide) dL_law_767 e2 ?_
  refine a_fro ?_
  refine a_same G36 (tgt := 1276) dL_law_770 (by decide) ?_
  exact k M2 N2 R2
set_option maxRecDepth 100000 in
set_option maxHeartbeats 4000000 in
theorem lc_21 (G36 : LG p s m meth c w b 36 cs sl) (G48 : LG p s m meth c w b 48 cs sl) (hX : va_X b L xs s s.heap) (hbl : b < s.heap.size) (hL : L ≤ 3072) {j : Nat} (hj : j + 6 ≤ L) (R : Rel M N) (k : ∀ M2 N2, Rel M2 N2 → LwP p l e s m below meth c w b cs sl Q 0 36 N2 1276 (lvw w b j) [] M2) : LwP p l e s m below meth c w b cs sl Q 0 36 N 775 (lvw w b j) [] M := by
  obtain ⟨v, M2, N2, e1, e2, R2⟩ := p_facing R
  refine a_al G36 (i := 1) dL_law_775 rfl ?_
  refine a_callI (as := []) (st := []) (k := 0) G36 (aw_new s w) mdX5_facing (fun z h => c_X5_facing w N l  M z h) ⟨by decide, by decide⟩ (ce0 w) clX5 rfl qw493 rfl rfl (Nat.le_of_ble_eq_true rfl) (by decide) dL_law_776 e1 ?_
  refine a_al G36 (i := 2) dL_law_779 rfl ?_
  refine a_to ?_
  refine a_callI (as := []) (st := [.int v]) (k := 36) G48 (aw_new s w) mdX6_facing (fun z h => c_X6_facing w M2 l  N z h) ⟨by decide, by decide⟩ (ce36 w) clX6 rfl qw1036 rfl rfl (Nat.le_of_ble_eq_true rfl) (by decide) dL_law_780 e2 ?_
  refine a_fro ?_
  refine a_same G36 (tgt := 1276) dL_law_783 (by decide) ?_
  exact k M2 N2 R2
set_option maxRecDepth 100000 in
set_option maxHeartbeats 4000000 in
theorem lc_22 (G36 : LG p s m meth c w b 36 cs sl) (G48 : LG p s m meth c w b 48 cs sl) (hX : va_X b L xs s s.heap) (hbl : b < s.heap.size) (hL : L ≤ 3072) {j : Nat} (hj : j + 6 ≤ L) (R : Rel M N) (k : ∀ M2 N2, Rel M2 N2 → LwP p l e s m below meth c w b cs sl Q 0 36 N2 1276 (lvw w b j) [] M2) : LwP p l e s m below meth c w b cs sl Q 0 36 N 788 (lvw w b j) [] M := by
  obtain ⟨v, M2, N2, e1, e2, R2⟩ := p_clears R (xs (j + 1))
  refine a_al G36 (i := 1) dL_law_788 rfl ?_
  refine a_ld G36 hX hbl hL hj 1 (by decide) rfl dL_law_789 dL_law_790 dL_law_791 dL_law_792 dL_law_793 ?_
  refine a_callI (as := [.int (xs (j + 1))]) (st := []) (k := 0) G36 (aw_new s w) mdX5_clears (fun z h => c_X5_clears w N l (xs (j + 1)) M z h) ⟨by decide, by decide⟩ (ce0 w) clX5 rfl qw501 rfl rfl (Nat.le_of_ble_eq_true rfl) (by decide) dL_law_794 e1 ?_
  refine a_al G36 (i := 2) dL_law_797 rfl ?_
  refine a_ld G36 hX hbl hL hj 1 (by decide) rfl dL_law_798 dL_law_799 dL_law_800 dL_law_801 dL_law_802 ?_
  refine a_to ?_
  refine a_callI (as := [.int (xs (j + 1))]) (st := [.int v]) (k := 36) G48 (aw_new s w) mdX6_clears (fun z h => c_X6_clears w M2 l (xs (j + 1)) N z h) ⟨by decide, by decide⟩ (ce36 w) clX6 rfl qw1044 rfl rfl (Nat.le_of_ble_eq_true rfl) (by decide) dL_law_803 e2 ?_
  refine a_fro ?_
  refine a_same G36 (tgt := 1276) dL_law_806 (by decide) ?_
  exact k M2 N2 R2
set_option maxRecDepth 100000 in
set_option maxHeartbeats 4000000 in
theorem lc_23 (G36 : LG p s m meth c w b 36 cs sl) (G48 : LG p s m meth c w b 48 cs sl) (hX : va_X b L xs s s.heap) (hbl : b < s.heap.size) (hL : L ≤ 3072) {j : Nat} (hj : j + 6 ≤ L) (R : Rel M N) (k : ∀ M2 N2, Rel M2 N2 → LwP p l e s m below meth c w b cs sl Q 0 36 N2 1276 (lvw w b j) [] M2) : LwP p l e s m below meth c w b cs sl Q 0 36 N 811 (lvw w b j) [] M := by
  obtain ⟨v, M2, N2, e1, e2, R2⟩ := p_untangle R
  refine a_al G36 (i := 1) dL_law_811 rfl ?_
  refine a_callI (as := []) (st := []) (k := 0) G36 (aw_new s w) mdX5_untangle (fun z h => c_X5_untangle w N l  M z h) ⟨by decide, by decide⟩ (ce0 w) clX5 rfl qw505 rfl rfl (Nat.le_of_ble_eq_true rfl) (by decide) dL_law_812 e1 ?_
  refine a_al G36 (i := 2) dL_law_815 rfl ?_
  refine a_to ?_
  refine a_callI (as := []) (st := [.int v]) (k := 36) G48 (aw_new s w) mdX6_untangle (fun z h => c_X6_untangle w M2 l  N z h) ⟨by decide, by decide⟩ (ce36 w) clX6 rfl qw1056 rfl rfl (Nat.le_of_ble_eq_true rfl) (by decide) dL_law_816 e2 ?_
  refine a_fro ?_
  refine a_same G36 (tgt := 1276) dL_law_819 (by decide) ?_
  exact k M2 N2 R2
set_option maxRecDepth 100000 in
set_option maxHeartbeats 4000000 in
theorem lc_24 (G36 : LG p s m meth c w b 36 cs sl) (G48 : LG p s m meth c w b 48 cs sl) (hX : va_X b L xs s s.heap) (hbl : b < s.heap.size) (hL : L ≤ 3072) {j : Nat} (hj : j + 6 ≤ L) (R : Rel M N) (k : ∀ M2 N2, Rel M2 N2 → LwP p l e s m below meth c w b cs sl Q 0 36 N2 1276 (lvw w b j) [] M2) : LwP p l e s m below meth c w b cs sl Q 0 36 N 824 (lvw w b j) [] M := by
  obtain ⟨v, M2, N2, e1, e2, R2⟩ := p_saves R
  refine a_al G36 (i := 1) dL_law_824 rfl ?_
  refine a_callI (as := []) (st := []) (k := 0) G36 (aw_new s w) mdX5_saves (fun z h => c_X5_saves w N l  M z h) ⟨by decide, by decide⟩ (ce0 w) clX5 rfl qw516 rfl rfl (Nat.le_of_ble_eq_true rfl) (by decide) dL_law_825 e1 ?_
  refine a_al G36 (i := 2) dL_law_828 rfl ?_
  refine a_to ?_
  refine a_callI (as := []) (st := [.int v]) (k := 36) G48 (aw_new s w) mdX6_saves (fun z h => c_X6_saves w M2 l  N z h) ⟨by decide, by decide⟩ (ce36 w) clX6 rfl qw1068 rfl rfl (Nat.le_of_ble_eq_true rfl) (by decide) dL_law_829 e2 ?_
  refine a_fro ?_
  refine a_same G36 (tgt := 1276) dL_law_832 (by decide) ?_
  exact k M2 N2 R2
set_option maxRecDepth 100000 in
set_option maxHeartbeats 4000000 in
theorem lc_25 (G36 : LG p s m meth c w b 36 cs sl) (G48 : LG p s m meth c w b 48 cs sl) (hX : va_X b L xs s s.heap) (hbl : b < s.heap.size) (hL : L ≤ 3072) {j : Nat} (hj : j + 6 ≤ L) (R : Rel M N) (k : ∀ M2 N2, Rel M2 N2 → LwP p l e s m below meth c w b cs sl Q 0 36 N2 1276 (lvw w b j) [] M2) : LwP p l e s m below meth c w b cs sl Q 0 36 N 837 (lvw w b j) [] M := by
  obtain ⟨v, M2, N2, e1, e2, R2⟩ := p_feels R (xs (j + 1))
  refine a_al G36 (i := 1) dL_law_837 rfl ?_
  refine a_ld G36 hX hbl hL hj 1 (by decide) rfl dL_law_838 dL_law_839 dL_law_840 dL_law_841 dL_law_842 ?_
  refine a_callI (as := [.int (xs (j + 1))]) (st := []) (k := 0) G36 (aw_new s w) mdX5_feels (fun z h => c_X5_feels w N l (xs (j + 1)) M z h) ⟨by decide, by decide⟩ (ce0 w) clX5 rfl qw524 rfl rfl (Nat.le_of_ble_eq_true rfl) (by decide) dL_law_843 e1 ?_
  refine a_al G36 (i := 2) dL_law_846 rfl ?_
  refine a_ld G36 hX hbl hL hj 1 (by decide) rfl dL_law_847 dL_law_848 dL_law_849 dL_law_850 dL_law_851 ?_
  refine a_to ?_
  refine a_callI (as := [.int (xs (j + 1))]) (st := [.int v]) (k := 36) G48 (aw_new s w) mdX6_feels (fun z h => c_X6_feels w M2 l (xs (j + 1)) N z h) ⟨by decide, by decide⟩ (ce36 w) clX6 rfl qw1072 rfl rfl (Nat.le_of_ble_eq_true rfl) (by decide) dL_law_852 e2 ?_
  refine a_fro ?_
  refine a_same G36 (tgt := 1276) dL_law_855 (by decide) ?_
  exact k M2 N2 R2
set_option maxRecDepth 100000 in
set_option maxHeartbeats 4000000 in
theorem lc_26 (G36 : LG p s m meth c w b 36 cs sl) (G48 : LG p s m meth c w b 48 cs sl) (hX : va_X b L xs s s.heap) (hbl : b < s.heap.size) (hL : L ≤ 3072) {j : Nat} (hj : j + 6 ≤ L) (R : Rel M N) (k : ∀ M2 N2, Rel M2 N2 → LwP p l e s m below meth c w b cs sl Q 0 36 N2 1276 (lvw w b j) [] M2) : LwP p l e s m below meth c w b cs sl Q 0 36 N 860 (lvw w b j) [] M := by
  obtain ⟨v, M2, N2, e1, e2, R2⟩ := p_kind R (xs (j + 1))
  refine a_al G36 (i := 1) dL_law_860 rfl ?_
  refine a_ld G36 hX hbl hL hj 1 (by decide) rfl dL_law_861 dL_law_862 dL_law_863 dL_law_864 dL_law_865 ?_
  refine a_callI (as := [.int (xs (j + 1))]) (st := []) (k := 0) G36 (aw_new s w) mdX5_kind (fun z h => c_X5_kind w N l (xs (j + 1)) M z h) ⟨by decide, by decide⟩ (ce0 w) clX5 rfl qw528 rfl rfl (Nat.le_of_ble_eq_true rfl) (by decide) dL_law_866 e1 ?_
  refine a_al G36 (i := 2) dL_law_869 rfl ?_
  refine a_ld G36 hX hbl hL hj 1 (by decide) rfl dL_law_870 dL_law_871 dL_law_872 dL_law_873 dL_law_874 ?_
  refine a_to ?_
  refine a_callI (as := [.int (xs (j + 1))]) (st := [.int v]) (k := 36) G48 (aw_new s w) mdX6_kind (fun z h => c_X6_kind w M2 l (xs (j + 1)) N z h) ⟨by decide, by decide⟩ (ce36 w) clX6 rfl qw1076 rfl rfl (Nat.le_of_ble_eq_true rfl) (by decide) dL_law_875 e2 ?_
  refine a_fro ?_
  refine a_same G36 (tgt := 1276) dL_law_878 (by decide) ?_
  exact k M2 N2 R2
set_option maxRecDepth 100000 in
set_option maxHeartbeats 4000000 in
theorem lc_27 (G36 : LG p s m meth c w b 36 cs sl) (G48 : LG p s m meth c w b 48 cs sl) (hX : va_X b L xs s s.heap) (hbl : b < s.heap.size) (hL : L ≤ 3072) {j : Nat} (hj : j + 6 ≤ L) (R : Rel M N) (k : ∀ M2 N2, Rel M2 N2 → LwP p l e s m below meth c w b cs sl Q 0 36 N2 1276 (lvw w b j) [] M2) : LwP p l e s m below meth c w b cs sl Q 0 36 N 883 (lvw w b j) [] M := by
  obtain ⟨v, M2, N2, e1, e2, R2⟩ := p_feed R (xs (j + 1)) (xs (j + 2))
  refine a_al G36 (i := 1) dL_law_883 rfl ?_
  refine a_ld G36 hX hbl hL hj 1 (by decide) rfl dL_law_884 dL_law_885 dL_law_886 dL_law_887 dL_law_888 ?_
  refine a_ld G36 hX hbl hL hj 2 (by decide) rfl dL_law_889 dL_law_890 dL_law_891 dL_law_892 dL_law_893 ?_
  refine a_callI (as := [.int (xs (j + 1)), .int (xs (j + 2))]) (st := []) (k := 0) G36 (aw_new s w) mdX5_feed (fun z h => c_X5_feed w N l (xs (j + 1)) (xs (j + 2)) M z h) ⟨by decide, by decide⟩ (ce0 w) clX5 rfl qw532 rfl rfl (Nat.le_of_ble_eq_true rfl) (by decide) dL_law_894 e1 ?_
  refine a_al G36 (i := 2) dL_law_897 rfl ?_
  refine a_ld G36 hX hbl hL hj 1 (by decide) rfl dL_law_898 dL_law_899 dL_law_900 dL_law_901 dL_law_902 ?_
  refine a_ld G36 hX hbl hL hj 2 (by decide) rfl dL_law_903 dL_law_904 dL_law_905 dL_law_906 dL_law_907 ?_
  refine a_to ?_
  refine a_callI (as := [.int (xs (j + 1)), .int (xs (j + 2))]) (st := [.int v]) (k := 36) G48 (aw_new s w) mdX6_feed (fun z h => c_X6_feed w M2 l (xs (j + 1)) (xs (j + 2)) N z h) ⟨by decide, by decide⟩ (ce36 w) clX6 rfl qw1080 rfl rfl (Nat.le_of_ble_eq_true rfl) (by decide) dL_law_908 e2 ?_
  refine a_fro ?_
  refine a_same G36 (tgt := 1276) dL_law_911 (by decide) ?_
  exact k M2 N2 R2
set_option maxRecDepth 100000 in
set_option maxHeartbeats 4000000 in
theorem lc_28 (G36 : LG p s m meth c w b 36 cs sl) (G48 : LG p s m meth c w b 48 cs sl) (hX : va_X b L xs s s.heap) (hbl : b < s.heap.size) (hL : L ≤ 3072) {j : Nat} (hj : j + 6 ≤ L) (R : Rel M N) (k : ∀ M2 N2, Rel M2 N2 → LwP p l e s m below meth c w b cs sl Q 0 36 N2 1276 (lvw w b j) [] M2) : LwP p l e s m below meth c w b cs sl Q 0 36 N 916 (lvw w b j) [] M := by
  obtain ⟨v, M2, N2, e1, e2, R2⟩ := p_wipe R
  refine a_al G36 (i := 1) dL_law_916 rfl ?_
  refine a_callI (as := []) (st := []) (k := 0) G36 (aw_new s w) mdX5_wipe (fun z h => c_X5_wipe w N l  M z h) ⟨by decide, by decide⟩ (ce0 w) clX5 rfl qw540 rfl rfl (Nat.le_of_ble_eq_true rfl) (by decide) dL_law_917 e1 ?_
  refine a_al G36 (i := 2) dL_law_920 rfl ?_
  refine a_to ?_
  refine a_callI (as := []) (st := [.int v]) (k := 36) G48 (aw_new s w) mdX6_wipe (fun z h => c_X6_wipe w M2 l  N z h) ⟨by decide, by decide⟩ (ce36 w) clX6 rfl qw1085 rfl rfl (Nat.le_of_ble_eq_true rfl) (by decide) dL_law_921 e2 ?_
  refine a_fro ?_
  refine a_same G36 (tgt := 1276) dL_law_924 (by decide) ?_
  exact k M2 N2 R2
set_option maxRecDepth 100000 in
set_option maxHeartbeats 4000000 in
theorem lc_29 (G36 : LG p s m meth c w b 36 cs sl) (G48 : LG p s m meth c w b 48 cs sl) (hX : va_X b L xs s s.heap) (hbl : b < s.heap.size) (hL : L ≤ 3072) {j : Nat} (hj : j + 6 ≤ L) (R : Rel M N) (k : ∀ M2 N2, Rel M2 N2 → LwP p l e s m below meth c w b cs sl Q 0 36 N2 1276 (lvw w b j) [] M2) : LwP p l e s m below meth c w b cs sl Q 0 36 N 929 (lvw w b j) [] M := by
  obtain ⟨v, M2, N2, e1, e2, R2⟩ := p_rail R
  refine a_al G36 (i := 1) dL_law_929 rfl ?_
  refine a_callI (as := []) (st := []) (k := 0) G36 (aw_new s w) mdX5_rail (fun z h => c_X5_rail w N l  M z h) ⟨by decide, by decide⟩ (ce0 w) clX5 rfl qw544 rfl rfl (Nat.le_of_ble_eq_true rfl) (by decide) dL_law_930 e1 ?_
  refine a_al G36 (i := 2) dL_law_933 rfl ?_
  refine a_to ?_
  refine a_callI (as := []) (st := [.int v]) (k := 36) G48 (aw_new s w) mdX6_rail (fun z h => c_X6_rail w M2 l  N z h) ⟨by decide, by decide⟩ (ce36 w) clX6 rfl qw1089 rfl rfl (Nat.le_of_ble_eq_true rfl) (by decide) dL_law_934 e2 ?_
  refine a_fro ?_
  refine a_same G36 (tgt := 1276) dL_law_937 (by decide) ?_
  exact k M2 N2 R2
set_option maxRecDepth 100000 in
set_option maxHeartbeats 4000000 in
theorem lc_30 (G36 : LG p s m meth c w b 36 cs sl) (G48 : LG p s m meth c w b 48 cs sl) (hX : va_X b L xs s s.heap) (hbl : b < s.heap.size) (hL : L ≤ 3072) {j : Nat} (hj : j + 6 ≤ L) (R : Rel M N) (k : ∀ M2 N2, Rel M2 N2 → LwP p l e s m below meth c w b cs sl Q 0 36 N2 1276 (lvw w b j) [] M2) : LwP p l e s m below meth c w b cs sl Q 0 36 N 942 (lvw w b j) [] M := by
  obtain ⟨v, M2, N2, e1, e2, R2⟩ := p_sheet R (xs (j + 1)) (xs (j + 2)) (xs (j + 3))
  refine a_al G36 (i := 1) dL_law_942 rfl ?_
  refine a_ld G36 hX hbl hL hj 1 (by decide) rfl dL_law_943 dL_law_944 dL_law_945 dL_law_946 dL_law_947 ?_
  refine a_ld G36 hX hbl hL hj 2 (by decide) rfl dL_law_948 dL_law_949 dL_law_950 dL_law_951 dL_law_952 ?_
  refine a_ld G36 hX hbl hL hj 3 (by decide) rfl dL_law_953 dL_law_954 dL_law_955 dL_law_956 dL_law_957 ?_
  refine a_callI (as := [.int (xs (j + 1)), .int (xs (j + 2)), .int (xs (j + 3))]) (st := []) (k := 0) G36 (aw_new s w) mdX5_sheet (fun z h => c_X5_sheet w N l (xs (j + 1)) (xs (j + 2)) (xs (j + 3)) M z h) ⟨by decide, by decide⟩ (ce0 w) clX5 rfl qw675 rfl rfl (Nat.le_of_ble_eq_true rfl) (by decide) dL_law_958 e1 ?_
  refine a_al G36 (i := 2) dL_law_961 rfl ?_
  refine a_ld G36 hX hbl hL hj 1 (by decide) rfl dL_law_962 dL_law_963 dL_law_964 dL_law_965 dL_law_966 ?_
  refine a_ld G36 hX hbl hL hj 2 (by decide) rfl dL_law_967 dL_law_968 dL_law_969 dL_law_970 dL_law_971 ?_
  refine a_ld G36 hX hbl hL hj 3 (by decide) rfl dL_law_972 dL_law_973 dL_law_974 dL_law_975 dL_law_976 ?_
  refine a_to ?_
  refine a_callI (as := [.int (xs (j + 1)), .int (xs (j + 2)), .int (xs (j + 3))]) (st := [.int v]) (k := 36) G48 (aw_new s w) mdX6_sheet (fun z h => c_X6_sheet w M2 l (xs (j + 1)) (xs (j + 2)) (xs (j + 3)) N z h) ⟨by decide, by decide⟩ (ce36 w) clX6 rfl qw1164 rfl rfl (Nat.le_of_ble_eq_true rfl) (by decide) dL_law_977 e2 ?_
  refine a_fro ?_
  refine a_same G36 (tgt := 1276) dL_law_980 (by decide) ?_
  exact k M2 N2 R2
set_option maxRecDepth 100000 in
set_option maxHeartbeats 4000000 in
theorem lc_31 (G36 : LG p s m meth c w b 36 cs sl) (G48 : LG p s m meth c w b 48 cs sl) (hX : va_X b L xs s s.heap) (hbl : b < s.heap.size) (hL : L ≤ 3072) {j : Nat} (hj : j + 6 ≤ L) (R : Rel M N) (k : ∀ M2 N2, Rel M2 N2 → LwP p l e s m below meth c w b cs sl Q 0 36 N2 1276 (lvw w b j) [] M2) : LwP p l e s m below meth c w b cs sl Q 0 36 N 985 (lvw w b j) [] M := by
  obtain ⟨v, M2, N2, e1, e2, R2⟩ := p_write R (xs (j + 1)) (xs (j + 2)) (lw_w xs j)
  refine a_al G36 (i := 1) dL_law_985 rfl ?_
  refine a_ld G36 hX hbl hL hj 1 (by decide) rfl dL_law_986 dL_law_987 dL_law_988 dL_law_989 dL_law_990 ?_
  refine a_ld G36 hX hbl hL hj 2 (by decide) rfl dL_law_991 dL_law_992 dL_law_993 dL_law_994 dL_law_995 ?_
  refine a_ld G36 hX hbl hL hj 3 (by decide) rfl dL_law_996 dL_law_997 dL_law_998 dL_law_999 dL_law_1000 ?_
  refine a_i2l G36 dL_law_1001 ?_
  refine a_bip G36 (v := 32) dL_law_1002 (by decide) ?_
  refine a_lshl G36 dL_law_1004 ?_
  refine a_ld G36 hX hbl hL hj 4 (by decide) rfl dL_law_1005 dL_law_1006 dL_law_1007 dL_law_1008 dL_law_1009 ?_
  refine a_i2l G36 dL_law_1010 ?_
  refine a_ldc2 G36 dL_law_1011 qw1222 ?_
  refine a_land G36 dL_law_1014 ?_
  refine a_lor G36 dL_law_1015 ?_
  refine a_callL (as := [.int (xs (j + 1)), .int (xs (j + 2)), .long (lw_w xs j)]) (st := []) (k := 0) G36 (aw_new s w) mdX5_write (fun z h => c_X5_write w N l (xs (j + 1)) (xs (j + 2)) (lw_w xs j) M z h) ⟨by decide, by decide⟩ (ce0 w) clX5 rfl qw687 rfl rfl (Nat.le_of_ble_eq_true rfl) (by decide) dL_law_1016 e1 ?_
  refine a_al G36 (i := 2) dL_law_1019 rfl ?_
  refine a_ld G36 hX hbl hL hj 1 (by decide) rfl dL_law_1020 dL_law_1021 dL_law_1022 dL_law_1023 dL_law_1024 ?_
  refine a_ld G36 hX hbl hL hj 2 (by decide) rfl dL_law_1025 dL_law_1026 dL_law_1027 dL_law_1028 dL_law_1029 ?_
  refine a_ld G36 hX hbl hL hj 3 (by decide) rfl dL_law_1030 dL_law_1031 dL_law_1032 dL_law_1033 dL_law_1034 ?_
  refine a_i2l G36 dL_law_1035 ?_
  refine a_bip G36 (v := 32) dL_law_1036 (by decide) ?_
  refine a_lshl G36 dL_law_1038 ?_
  refine a_ld G36 hX hbl hL hj 4 (by decide) rfl dL_law_1039 dL_law_1040 dL_law_1041 dL_law_1042 dL_law_1043 ?_
  refine a_i2l G36 dL_law_1044 ?_
  refine a_ldc2 G36 dL_law_1045 qw1222 ?_
  refine a_land G36 dL_law_1048 ?_
  refine a_lor G36 dL_law_1049 ?_
  refine a_to ?_
  refine a_callL (as := [.int (xs (j + 1)), .int (xs (j + 2)), .long (lw_w xs j)]) (st := [.long v]) (k := 36) G48 (aw_new s w) mdX6_write (fun z h => c_X6_write w M2 l (xs (j + 1)) (xs (j + 2)) (lw_w xs j) N z h) ⟨by decide, by decide⟩ (ce36 w) clX6 rfl qw1173 rfl rfl (Nat.le_of_ble_eq_true rfl) (by decide) dL_law_1050 e2 ?_
  refine a_fro ?_
  refine a_sameL G36 (tgt := 1276) dL_law_1053 dL_law_1054 (by decide) ?_
  exact k M2 N2 R2
set_option maxRecDepth 100000 in
set_option maxHeartbeats 4000000 in
theorem lc_32 (G36 : LG p s m meth c w b 36 cs sl) (G48 : LG p s m meth c w b 48 cs sl) (hX : va_X b L xs s s.heap) (hbl : b < s.heap.size) (hL : L ≤ 3072) {j : Nat} (hj : j + 6 ≤ L) (R : Rel M N) (k : ∀ M2 N2, Rel M2 N2 → LwP p l e s m below meth c w b cs sl Q 0 36 N2 1276 (lvw w b j) [] M2) : LwP p l e s m below meth c w b cs sl Q 0 36 N 1059 (lvw w b j) [] M := by
  obtain ⟨v, M2, N2, e1, e2, R2⟩ := p_copy R (xs (j + 1)) (xs (j + 2)) (xs (j + 3)) (xs (j + 4)) (xs (j + 5))
  refine a_al G36 (i := 1) dL_law_1059 rfl ?_
  refine a_ld G36 hX hbl hL hj 1 (by decide) rfl dL_law_1060 dL_law_1061 dL_law_1062 dL_law_1063 dL_law_1064 ?_
  refine a_ld G36 hX hbl hL hj 2 (by decide) rfl dL_law_1065 dL_law_1066 dL_law_1067 dL_law_1068 dL_law_1069 ?_
  refine a_ld G36 hX hbl hL hj 3 (by decide) rfl dL_law_1070 dL_law_1071 dL_law_1072 dL_law_1073 dL_law_1074 ?_
  refine a_ld G36 hX hbl hL hj 4 (by decide) rfl dL_law_1075 dL_law_1076 dL_law_1077 dL_law_1078 dL_law_1079 ?_
  refine a_ld G36 hX hbl hL hj 5 (by decide) rfl dL_law_1080 dL_law_1081 dL_law_1082 dL_law_1083 dL_law_1084 ?_
  refine a_callI (as := [.int (xs (j + 1)), .int (xs (j + 2)), .int (xs (j + 3)), .int (xs (j + 4)), .int (xs (j + 5))]) (st := []) (k := 0) G36 (aw_new s w) mdX5_copy (fun z h => c_X5_copy w N l (xs (j + 1)) (xs (j + 2)) (xs (j + 3)) (xs (j + 4)) (xs (j + 5)) M z h) ⟨by decide, by decide⟩ (ce0 w) clX5 rfl qw704 rfl rfl (Nat.le_of_ble_eq_true rfl) (by decide) dL_law_1085 e1 ?_
  refine a_al G36 (i := 2) dL_law_1088 rfl ?_
  refine a_ld G36 hX hbl hL hj 1 (by decide) rfl dL_law_1089 dL_law_1090 dL_law_1091 dL_law_1092 dL_law_1093 ?_
  refine a_ld G36 hX hbl hL hj 2 (by decide) rfl dL_law_1094 dL_law_1095 dL_law_1096 dL_law_1097 dL_law_1098 ?_
  refine a_ld G36 hX hbl hL hj 3 (by decide) rfl dL_law_1099 dL_law_1100 dL_law_1101 dL_law_1102 dL_law_1103 ?_
  refine a_ld G36 hX hbl hL hj 4 (by decide) rfl dL_law_1104 dL_law_1105 dL_law_1106 dL_law_1107 dL_law_1108 ?_
  refine a_ld G36 hX hbl hL hj 5 (by decide) rfl dL_law_1109 dL_law_1110 dL_law_1111 dL_law_1112 dL_law_1113 ?_
  refine a_to ?_
  refine a_callI (as := [.int (xs (j + 1)), .int (xs (j + 2)), .int (xs (j + 3)), .int (xs (j + 4)), .int (xs (j + 5))]) (st := [.int v]) (k := 36) G48 (aw_new s w) mdX6_copy (fun z h => c_X6_copy w M2 l (xs (j + 1)) (xs (j + 2)) (xs (j + 3)) (xs (j + 4)) (xs (j + 5)) N z h) ⟨by decide, by decide⟩ (ce36 w) clX6 rfl qw1185 rfl rfl (Nat.le_of_ble_eq_true rfl) (by decide) dL_law_1114 e2 ?_
  refine a_fro ?_
  refine a_same G36 (tgt := 1276) dL_law_1117 (by decide) ?_
  exact k M2 N2 R2
set_option maxRecDepth 100000 in
set_option maxHeartbeats 4000000 in
theorem lc_33 (G36 : LG p s m meth c w b 36 cs sl) (G48 : LG p s m meth c w b 48 cs sl) (hX : va_X b L xs s s.heap) (hbl : b < s.heap.size) (hL : L ≤ 3072) {j : Nat} (hj : j + 6 ≤ L) (R : Rel M N) (k : ∀ M2 N2, Rel M2 N2 → LwP p l e s m below meth c w b cs sl Q 0 36 N2 1276 (lvw w b j) [] M2) : LwP p l e s m below meth c w b cs sl Q 0 36 N 1122 (lvw w b j) [] M := by
  obtain ⟨v, M2, N2, e1, e2, R2⟩ := p_lays R (xs (j + 1))
  refine a_al G36 (i := 1) dL_law_1122 rfl ?_
  refine a_ld G36 hX hbl hL hj 1 (by decide) rfl dL_law_1123 dL_law_1124 dL_law_1125 dL_law_1126 dL_law_1127 ?_
  refine a_callI (as := [.int (xs (j + 1))]) (st := []) (k := 0) G36 (aw_new s w) mdX5_lays (fun z h => c_X5_lays w N l (xs (j + 1)) M z h) ⟨by decide, by decide⟩ (ce0 w) clX5 rfl qw713 rfl rfl (Nat.le_of_ble_eq_true rfl) (by decide) dL_law_1128 e1 ?_
  refine a_al G36 (i := 2) dL_law_1131 rfl ?_
  refine a_ld G36 hX hbl hL hj 1 (by decide) rfl dL_law_1132 dL_law_1133 dL_law_1134 dL_law_1135 dL_law_1136 ?_
  refine a_to ?_
  refine a_callI (as := [.int (xs (j + 1))]) (st := [.int v]) (k := 36) G48 (aw_new s w) mdX6_lays (fun z h => c_X6_lays w M2 l (xs (j + 1)) N z h) ⟨by decide, by decide⟩ (ce36 w) clX6 rfl qw1189 rfl rfl (Nat.le_of_ble_eq_true rfl) (by decide) dL_law_1137 e2 ?_
  refine a_fro ?_
  refine a_same G36 (tgt := 1276) dL_law_1140 (by decide) ?_
  exact k M2 N2 R2
set_option maxRecDepth 100000 in
set_option maxHeartbeats 4000000 in
theorem lc_34 (G36 : LG p s m meth c w b 36 cs sl) (G48 : LG p s m meth c w b 48 cs sl) (hX : va_X b L xs s s.heap) (hbl : b < s.heap.size) (hL : L ≤ 3072) {j : Nat} (hj : j + 6 ≤ L) (R : Rel M N) (k : ∀ M2 N2, Rel M2 N2 → LwP p l e s m below meth c w b cs sl Q 0 36 N2 1276 (lvw w b j) [] M2) : LwP p l e s m below meth c w b cs sl Q 0 36 N 1145 (lvw w b j) [] M := by
  obtain ⟨v, M2, N2, e1, e2, R2⟩ := p_book R (xs (j + 1))
  refine a_al G36 (i := 1) dL_law_1145 rfl ?_
  refine a_ld G36 hX hbl hL hj 1 (by decide) rfl dL_law_1146 dL_law_1147 dL_law_1148 dL_law_1149 dL_law_1150 ?_
  refine a_callI (as := [.int (xs (j + 1))]) (st := []) (k := 0) G36 (aw_new s w) mdX5_book (fun z h => c_X5_book w N l (xs (j + 1)) M z h) ⟨by decide, by decide⟩ (ce0 w) clX5 rfl qw719 rfl rfl (Nat.le_of_ble_eq_true rfl) (by decide) dL_law_1151 e1 ?_
  refine a_al G36 (i := 2) dL_law_1154 rfl ?_
  refine a_ld G36 hX hbl hL hj 1 (by decide) rfl dL_law_1155 dL_law_1156 dL_law_1157 dL_law_1158 dL_law_1159 ?_
  refine a_to ?_
  refine a_callI (as := [.int (xs (j + 1))]) (st := [.int v]) (k := 36) G48 (aw_new s w) mdX6_book (fun z h => c_X6_book w M2 l (xs (j + 1)) N z h) ⟨by decide, by decide⟩ (ce36 w) clX6 rfl qw1193 rfl rfl (Nat.le_of_ble_eq_true rfl) (by decide) dL_law_1160 e2 ?_
  refine a_fro ?_
  refine a_same G36 (tgt := 1276) dL_law_1163 (by decide) ?_
  exact k M2 N2 R2
set_option maxRecDepth 100000 in
set_option maxHeartbeats 4000000 in
theorem lc_35 (G36 : LG p s m meth c w b 36 cs sl) (G48 : LG p s m meth c w b 48 cs sl) (hX : va_X b L xs s s.heap) (hbl : b < s.heap.size) (hL : L ≤ 3072) {j : Nat} (hj : j + 6 ≤ L) (R : Rel M N) (k : ∀ M2 N2, Rel M2 N2 → LwP p l e s m below meth c w b cs sl Q 0 36 N2 1276 (lvw w b j) [] M2) : LwP p l e s m below meth c w b cs sl Q 0 36 N 1168 (lvw w b j) [] M := by
  obtain ⟨v, M2, N2, e1, e2, R2⟩ := p_read R (xs (j + 1))
  refine a_al G36 (i := 1) dL_law_1168 rfl ?_
  refine a_ld G36 hX hbl hL hj 1 (by decide) rfl dL_law_1169 dL_law_1170 dL_law_1171 dL_law_1172 dL_law_1173 ?_
  refine a_callI (as := [.int (xs (j + 1))]) (st := []) (k := 0) G36 (aw_new s w) mdX5_read (fun z h => c_X5_read w N l (xs (j + 1)) M z h) ⟨by decide, by decide⟩ (ce0 w) clX5 rfl qw724 rfl rfl (Nat.le_of_ble_eq_true rfl) (by decide) dL_law_1174 e1 ?_
  refine a_al G36 (i := 2) dL_law_1177 rfl ?_
  refine a_ld G36 hX hbl hL hj 1 (by decide) rfl dL_law_1178 dL_law_1179 dL_law_1180 dL_law_1181 dL_law_1182 ?_
  refine a_to ?_
  refine a_callI (as := [.int (xs (j + 1))]) (st := [.int v]) (k := 36) G48 (aw_new s w) mdX6_read (fun z h => c_X6_read w M2 l (xs (j + 1)) N z h) ⟨by decide, by decide⟩ (ce36 w) clX6 rfl qw1198 rfl rfl (Nat.le_of_ble_eq_true rfl) (by decide) dL_law_1183 e2 ?_
  refine a_fro ?_
  refine a_same G36 (tgt := 1276) dL_law_1186 (by decide) ?_
  exact k M2 N2 R2
set_option maxRecDepth 100000 in
set_option maxHeartbeats 4000000 in
theorem lc_36 (G36 : LG p s m meth c w b 36 cs sl) (G48 : LG p s m meth c w b 48 cs sl) (hX : va_X b L xs s s.heap) (hbl : b < s.heap.size) (hL : L ≤ 3072) {j : Nat} (hj : j + 6 ≤ L) (R : Rel M N) (k : ∀ M2 N2, Rel M2 N2 → LwP p l e s m below meth c w b cs sl Q 0 36 N2 1276 (lvw w b j) [] M2) : LwP p l e s m below meth c w b cs sl Q 0 36 N 1191 (lvw w b j) [] M := by
  obtain ⟨v, M2, N2, e1, e2, R2⟩ := p_image R
  refine a_al G36 (i := 1) dL_law_1191 rfl ?_
  refine a_callI (as := []) (st := []) (k := 0) G36 (aw_new s w) mdX5_image (fun z h => c_X5_image w N l  M z h) ⟨by decide, by decide⟩ (ce0 w) clX5 rfl qw729 rfl rfl (Nat.le_of_ble_eq_true rfl) (by decide) dL_law_1192 e1 ?_
  refine a_al G36 (i := 2) dL_law_1195 rfl ?_
  refine a_to ?_
  refine a_callI (as := []) (st := [.int v]) (k := 36) G48 (aw_new s w) mdX6_image (fun z h => c_X6_image w M2 l  N z h) ⟨by decide, by decide⟩ (ce36 w) clX6 rfl qw1202 rfl rfl (Nat.le_of_ble_eq_true rfl) (by decide) dL_law_1196 e2 ?_
  refine a_fro ?_
  refine a_same G36 (tgt := 1276) dL_law_1199 (by decide) ?_
  exact k M2 N2 R2
set_option maxRecDepth 100000 in
set_option maxHeartbeats 4000000 in
theorem lc_37 (G36 : LG p s m meth c w b 36 cs sl) (G48 : LG p s m meth c w b 48 cs sl) (hX : va_X b L xs s s.heap) (hbl : b < s.heap.size) (hL : L ≤ 3072) {j : Nat} (hj : j + 6 ≤ L) (R : Rel M N) (k : ∀ M2 N2, Rel M2 N2 → LwP p l e s m below meth c w b cs sl Q 0 36 N2 1276 (lvw w b j) [] M2) : LwP p l e s m below meth c w b cs sl Q 0 36 N 1204 (lvw w b j) [] M := by
  obtain ⟨v, M2, N2, e1, e2, R2⟩ := p_undo R
  refine a_al G36 (i := 1) dL_law_1204 rfl ?_
  refine a_callI (as := []) (st := []) (k := 0) G36 (aw_new s w) mdX5_undo (fun z h => c_X5_undo w N l  M z h) ⟨by decide, by decide⟩ (ce0 w) clX5 rfl qw733 rfl rfl (Nat.le_of_ble_eq_true rfl) (by decide) dL_law_1205 e1 ?_
  refine a_al G36 (i := 2) dL_law_1208 rfl ?_
  refine a_to ?_
  refine a_callI (as := []) (st := [.int v]) (k := 36) G48 (aw_new s w) mdX6_undo (fun z h => c_X6_undo w M2 l  N z h) ⟨by decide, by decide⟩ (ce36 w) clX6 rfl qw1206 rfl rfl (Nat.le_of_ble_eq_true rfl) (by decide) dL_law_1209 e2 ?_
  refine a_fro ?_
  refine a_same G36 (tgt := 1276) dL_law_1212 (by decide) ?_
  exact k M2 N2 R2
set_option maxRecDepth 100000 in
set_option maxHeartbeats 4000000 in
theorem lc_38 (G36 : LG p s m meth c w b 36 cs sl) (G48 : LG p s m meth c w b 48 cs sl) (hX : va_X b L xs s s.heap) (hbl : b < s.heap.size) (hL : L ≤ 3072) {j : Nat} (hj : j + 6 ≤ L) (R : Rel M N) (k : ∀ M2 N2, Rel M2 N2 → LwP p l e s m below meth c w b cs sl Q 0 36 N2 1276 (lvw w b j) [] M2) : LwP p l e s m below meth c w b cs sl Q 0 36 N 1217 (lvw w b j) [] M := by
  obtain ⟨v, M2, N2, e1, e2, R2⟩ := p_tear R
  refine a_al G36 (i := 1) dL_law_1217 rfl ?_
  refine a_callI (as := []) (st := []) (k := 0) G36 (aw_new s w) mdX5_tear (fun z h => c_X5_tear w N l  M z h) ⟨by decide, by decide⟩ (ce0 w) clX5 rfl qw737 rfl rfl (Nat.le_of_ble_eq_true rfl) (by decide) dL_law_1218 e1 ?_
  refine a_al G36 (i := 2) dL_law_1221 rfl ?_
  refine a_to ?_
  refine a_callI (as := []) (st := [.int v]) (k := 36) G48 (aw_new s w) mdX6_tear (fun z h => c_X6_tear w M2 l  N z h) ⟨by decide, by decide⟩ (ce36 w) clX6 rfl qw1210 rfl rfl (Nat.le_of_ble_eq_true rfl) (by decide) dL_law_1222 e2 ?_
  refine a_fro ?_
  refine a_same G36 (tgt := 1276) dL_law_1225 (by decide) ?_
  exact k M2 N2 R2
set_option maxRecDepth 100000 in
set_option maxHeartbeats 4000000 in
theorem lc_39 (G36 : LG p s m meth c w b 36 cs sl) (G48 : LG p s m meth c w b 48 cs sl) (hX : va_X b L xs s s.heap) (hbl : b < s.heap.size) (hL : L ≤ 3072) {j : Nat} (hj : j + 6 ≤ L) (R : Rel M N) (k : ∀ M2 N2, Rel M2 N2 → LwP p l e s m below meth c w b cs sl Q 0 36 N2 1276 (lvw w b j) [] M2) : LwP p l e s m below meth c w b cs sl Q 0 36 N 1230 (lvw w b j) [] M := by
  obtain ⟨v, M2, N2, e1, e2, R2⟩ := p_count R (xs (j + 1))
  refine a_al G36 (i := 1) dL_law_1230 rfl ?_
  refine a_ld G36 hX hbl hL hj 1 (by decide) rfl dL_law_1231 dL_law_1232 dL_law_1233 dL_law_1234 dL_law_1235 ?_
  refine a_callI (as := [.int (xs (j + 1))]) (st := []) (k := 0) G36 (aw_new s w) mdX5_count (fun z h => c_X5_count w N l (xs (j + 1)) M z h) ⟨by decide, by decide⟩ (ce0 w) clX5 rfl qw741 rfl rfl (Nat.le_of_ble_eq_true rfl) (by decide) dL_law_1236 e1 ?_
  refine a_al G36 (i := 2) dL_law_1239 rfl ?_
  refine a_ld G36 hX hbl hL hj 1 (by decide) rfl dL_law_1240 dL_law_1241 dL_law_1242 dL_law_1243 dL_law_1244 ?_
  refine a_to ?_
  refine a_callI (as := [.int (xs (j + 1))]) (st := [.int v]) (k := 36) G48 (aw_new s w) mdX6_count (fun z h => c_X6_count w M2 l (xs (j + 1)) N z h) ⟨by decide, by decide⟩ (ce36 w) clX6 rfl qw1214 rfl rfl (Nat.le_of_ble_eq_true rfl) (by decide) dL_law_1245 e2 ?_
  refine a_fro ?_
  refine a_same G36 (tgt := 1276) dL_law_1248 (by decide) ?_
  exact k M2 N2 R2
set_option maxRecDepth 100000 in
set_option maxHeartbeats 4000000 in
theorem lc_40 (G36 : LG p s m meth c w b 36 cs sl) (G48 : LG p s m meth c w b 48 cs sl) (hX : va_X b L xs s s.heap) (hbl : b < s.heap.size) (hL : L ≤ 3072) {j : Nat} (hj : j + 6 ≤ L) (R : Rel M N) (k : ∀ M2 N2, Rel M2 N2 → LwP p l e s m below meth c w b cs sl Q 0 36 N2 1276 (lvw w b j) [] M2) : LwP p l e s m below meth c w b cs sl Q 0 36 N 1253 (lvw w b j) [] M := by
  obtain ⟨v, M2, N2, e1, e2, R2⟩ := p_status R (xs (j + 1))
  refine a_al G36 (i := 1) dL_law_1253 rfl ?_
  refine a_ld G36 hX hbl hL hj 1 (by decide) rfl dL_law_1254 dL_law_1255 dL_law_1256 dL_law_1257 dL_law_1258 ?_
  refine a_callI (as := [.int (xs (j + 1))]) (st := []) (k := 0) G36 (aw_new s w) mdX5_status (fun z h => c_X5_status w N l (xs (j + 1)) M z h) ⟨by decide, by decide⟩ (ce0 w) clX5 rfl qw745 rfl rfl (Nat.le_of_ble_eq_true rfl) (by decide) dL_law_1259 e1 ?_
  refine a_al G36 (i := 2) dL_law_1262 rfl ?_
  refine a_ld G36 hX hbl hL hj 1 (by decide) rfl dL_law_1263 dL_law_1264 dL_law_1265 dL_law_1266 dL_law_1267 ?_
  refine a_to ?_
  refine a_callI (as := [.int (xs (j + 1))]) (st := [.int v]) (k := 36) G48 (aw_new s w) mdX6_status (fun z h => c_X6_status w M2 l (xs (j + 1)) N z h) ⟨by decide, by decide⟩ (ce36 w) clX6 rfl qw1218 rfl rfl (Nat.le_of_ble_eq_true rfl) (by decide) dL_law_1268 e2 ?_
  refine a_fro ?_
  refine a_same G36 (tgt := 1276) dL_law_1271 (by decide) ?_
  exact k M2 N2 R2
end CASES
