abbrev lls (b : Nat) (aC aM : Nat → Nat) (n0 i : Nat) : List (Nat × Value) := [(0, .ref b), (1, .ref (aC 0)), (2, .ref (aM 0)), (3, .ref (n0 + 161)), (4, .int (nI i))]
def LJ (p : Program) (l : Launch) (e : Env) (s : State) (m : MethodId) (below : List Frame) (meth : Method) (c : Code) (b : Nat) (D : va_G) (ca : Nat → ClassId) (cJ : ClassId) (aC aM : Nat → Nat) (k n i : Nat) : Prop := ∀ S T : St, Rel S T → LV p l e s m below meth c b D ca cJ aC aM k n S T (fun _ => True) (lls b aC aM s.heap.size i) 1234 []
section CASES
variable {p : Program} {l : Launch} {e : Env} {s : State} {m : MethodId} {below : List Frame} {meth : Method} {c : Code} {b L : Nat} {xs : Nat → Int32} {D : va_G} {ca : Nat → ClassId} {cJ : ClassId} {aC aM : Nat → Nat} {k n : Nat} {S T : St} {F : (Nat → Int64) → Prop} {ls : List (Nat × Value)} {pc : Nat} {st : List Value}
set_option maxHeartbeats 4000000 in
theorem law_c0 (h : LX p l s m meth c b L xs D ca cJ aC aM) {i : Nat} (hi : i + 6 ≤ L) (hL : L ≤ 3072) (hk : k ≤ 590000) (hk2 : n ≤ 6900000) (hR : Rel S T) (J : LJ p l e s m below meth c b D ca cJ aC aM (k + 1) (n + 6) i) : LV p l e s m below meth c b D ca cJ aC aM k n S T (fun _ => True) (lls b aC aM s.heap.size i) 180 [] := by
  obtain ⟨r, S', T', e1, e2, hR'⟩ := op_feed hR (xs (i + 1)) (xs (i + 2)) (xs (i + 3)) (xs (i + 4)) (xs (i + 5))
  refine L_aload_n (pc := 180) h 1 dL_law_180 rfl rfl ?_
  refine L_arg (pc := 181) h 0 4 1 hi hL (by decide) rfl rfl dL_law_181 dL_law_182 dL_law_184 rfl dL_law_185 dL_law_186 ?_
  refine L_arg (pc := 187) h 0 4 2 hi hL (by decide) rfl rfl dL_law_187 dL_law_188 dL_law_190 rfl dL_law_191 dL_law_192 ?_
  refine L_arg (pc := 193) h 0 4 3 hi hL (by decide) rfl rfl dL_law_193 dL_law_194 dL_law_196 rfl dL_law_197 dL_law_198 ?_
  refine L_arg (pc := 199) h 0 4 4 hi hL (by decide) rfl rfl dL_law_199 dL_law_200 dL_law_202 rfl dL_law_203 dL_law_204 ?_
  refine L_arg (pc := 205) h 0 4 5 hi hL (by decide) rfl rfl dL_law_205 dL_law_206 dL_law_208 rfl dL_law_209 dL_law_210 ?_
  refine L_callC (pc := 211) h [.int (xs (i + 1)), .int (xs (i + 2)), .int (xs (i + 3)), .int (xs (i + 4)), .int (xs (i + 5))] [] mv_L_19 dL_law_211 rfl rfl (Nat.le_of_ble_eq_true rfl) (by omega) (by omega) (r, S') (c_N_feed_ct (d := 100) h.2.1.1 (by decide) (xs (i + 1)) (xs (i + 2)) (xs (i + 3)) (xs (i + 4)) (xs (i + 5)) S (r, S') e1) ?_
  refine L_aload_n (pc := 214) h 2 dL_law_214 rfl rfl ?_
  refine L_arg (pc := 215) h 0 4 1 hi hL (by decide) rfl rfl dL_law_215 dL_law_216 dL_law_218 rfl dL_law_219 dL_law_220 ?_
  refine L_arg (pc := 221) h 0 4 2 hi hL (by decide) rfl rfl dL_law_221 dL_law_222 dL_law_224 rfl dL_law_225 dL_law_226 ?_
  refine L_arg (pc := 227) h 0 4 3 hi hL (by decide) rfl rfl dL_law_227 dL_law_228 dL_law_230 rfl dL_law_231 dL_law_232 ?_
  refine L_arg (pc := 233) h 0 4 4 hi hL (by decide) rfl rfl dL_law_233 dL_law_234 dL_law_236 rfl dL_law_237 dL_law_238 ?_
  refine L_arg (pc := 239) h 0 4 5 hi hL (by decide) rfl rfl dL_law_239 dL_law_240 dL_law_242 rfl dL_law_243 dL_law_244 ?_
  refine L_callM (pc := 245) h [.int (xs (i + 1)), .int (xs (i + 2)), .int (xs (i + 3)), .int (xs (i + 4)), .int (xs (i + 5))] [.int r] mv_L_23 dL_law_245 rfl rfl (Nat.le_of_ble_eq_true rfl) (by omega) (by omega) (r, T') (m_feed_ct (d := 100) h.2.1.2 (by decide) (xs (i + 1)) (xs (i + 2)) (xs (i + 3)) (xs (i + 4)) (xs (i + 5)) T (r, T') e2) ?_
  exact L_eq (pc := 248) h 1234 dL_law_248 (by decide) rfl (LV_widen (Nat.le_succ k) (Nat.le_add_right n 6) (J S' T' hR'))
set_option maxHeartbeats 4000000 in
theorem law_c1 (h : LX p l s m meth c b L xs D ca cJ aC aM) {i : Nat} (hi : i + 6 ≤ L) (hL : L ≤ 3072) (hk : k ≤ 590000) (hk2 : n ≤ 6900000) (hR : Rel S T) (J : LJ p l e s m below meth c b D ca cJ aC aM (k + 1) (n + 6) i) : LV p l e s m below meth c b D ca cJ aC aM k n S T (fun _ => True) (lls b aC aM s.heap.size i) 253 [] := by
  obtain ⟨r, S', T', e1, e2, hR'⟩ := op_end hR (xs (i + 1))
  refine L_aload_n (pc := 253) h 1 dL_law_253 rfl rfl ?_
  refine L_arg (pc := 254) h 0 4 1 hi hL (by decide) rfl rfl dL_law_254 dL_law_255 dL_law_257 rfl dL_law_258 dL_law_259 ?_
  refine L_callC (pc := 260) h [.int (xs (i + 1))] [] mv_L_24 dL_law_260 rfl rfl (Nat.le_of_ble_eq_true rfl) (by omega) (by omega) (r, S') (c_N_end_ct (d := 100) h.2.1.1 (by decide) (xs (i + 1)) S (r, S') e1) ?_
  refine L_aload_n (pc := 263) h 2 dL_law_263 rfl rfl ?_
  refine L_arg (pc := 264) h 0 4 1 hi hL (by decide) rfl rfl dL_law_264 dL_law_265 dL_law_267 rfl dL_law_268 dL_law_269 ?_
  refine L_callM (pc := 270) h [.int (xs (i + 1))] [.int r] mv_L_28 dL_law_270 rfl rfl (Nat.le_of_ble_eq_true rfl) (by omega) (by omega) (r, T') (m_end_ct (d := 100) h.2.1.2 (by decide) (xs (i + 1)) T (r, T') e2) ?_
  exact L_eq (pc := 273) h 1234 dL_law_273 (by decide) rfl (LV_widen (Nat.le_succ k) (Nat.le_add_right n 6) (J S' T' hR'))
set_option maxHeartbeats 4000000 in
theorem law_c2 (h : LX p l s m meth c b L xs D ca cJ aC aM) {i : Nat} (hi : i + 6 ≤ L) (hL : L ≤ 3072) (hk : k ≤ 590000) (hk2 : n ≤ 6900000) (hR : Rel S T) (J : LJ p l e s m below meth c b D ca cJ aC aM (k + 1) (n + 6) i) : LV p l e s m below meth c b D ca cJ aC aM k n S T (fun _ => True) (lls b aC aM s.heap.size i) 278 [] := by
  obtain ⟨r, S', T', e1, e2, hR'⟩ := op_fault hR (xs (i + 1))
  refine L_aload_n (pc := 278) h 1 dL_law_278 rfl rfl ?_
  refine L_arg (pc := 279) h 0 4 1 hi hL (by decide) rfl rfl dL_law_279 dL_law_280 dL_law_282 rfl dL_law_283 dL_law_284 ?_
  refine L_callC (pc := 285) h [.int (xs (i + 1))] [] mv_L_29 dL_law_285 rfl rfl (Nat.le_of_ble_eq_true rfl) (by omega) (by omega) (r, S') (c_N_fault_ct (d := 100) h.2.1.1 (by decide) (xs (i + 1)) S (r, S') e1) ?_
  refine L_aload_n (pc := 288) h 2 dL_law_288 rfl rfl ?_
  refine L_arg (pc := 289) h 0 4 1 hi hL (by decide) rfl rfl dL_law_289 dL_law_290 dL_law_292 rfl dL_law_293 dL_law_294 ?_
  refine L_callM (pc := 295) h [.int (xs (i + 1))] [.int r] mv_L_33 dL_law_295 rfl rfl (Nat.le_of_ble_eq_true rfl) (by omega) (by omega) (r, T') (m_fault_ct (d := 100) h.2.1.2 (by decide) (xs (i + 1)) T (r, T') e2) ?_
  exact L_eq (pc := 298) h 1234 dL_law_298 (by decide) rfl (LV_widen (Nat.le_succ k) (Nat.le_add_right n 6) (J S' T' hR'))
set_option maxHeartbeats 4000000 in
theorem law_c3 (h : LX p l s m meth c b L xs D ca cJ aC aM) {i : Nat} (hi : i + 6 ≤ L) (hL : L ≤ 3072) (hk : k ≤ 590000) (hk2 : n ≤ 6900000) (hR : Rel S T) (J : LJ p l e s m below meth c b D ca cJ aC aM (k + 1) (n + 6) i) : LV p l e s m below meth c b D ca cJ aC aM k n S T (fun _ => True) (lls b aC aM s.heap.size i) 303 [] := by
  obtain ⟨r, S', T', e1, e2, hR'⟩ := op_text hR (xs (i + 1))
  refine L_aload_n (pc := 303) h 1 dL_law_303 rfl rfl ?_
  refine L_arg (pc := 304) h 0 4 1 hi hL (by decide) rfl rfl dL_law_304 dL_law_305 dL_law_307 rfl dL_law_308 dL_law_309 ?_
  refine L_callC (pc := 310) h [.int (xs (i + 1))] [] mv_L_34 dL_law_310 rfl rfl (Nat.le_of_ble_eq_true rfl) (by omega) (by omega) (r, S') (c_N_text_ct (d := 100) h.2.1.1 (by decide) (xs (i + 1)) S (r, S') e1) ?_
  refine L_aload_n (pc := 313) h 2 dL_law_313 rfl rfl ?_
  refine L_arg (pc := 314) h 0 4 1 hi hL (by decide) rfl rfl dL_law_314 dL_law_315 dL_law_317 rfl dL_law_318 dL_law_319 ?_
  refine L_callM (pc := 320) h [.int (xs (i + 1))] [.int r] mv_L_37 dL_law_320 rfl rfl (Nat.le_of_ble_eq_true rfl) (by omega) (by omega) (r, T') (m_text_ct (d := 100) h.2.1.2 (by decide) (xs (i + 1)) T (r, T') e2) ?_
  exact L_eq (pc := 323) h 1234 dL_law_323 (by decide) rfl (LV_widen (Nat.le_succ k) (Nat.le_add_right n 6) (J S' T' hR'))
set_option maxHeartbeats 4000000 in
theorem law_c5 (h : LX p l s m meth c b L xs D ca cJ aC aM) {i : Nat} (hi : i + 6 ≤ L) (hL : L ≤ 3072) (hk : k ≤ 590000) (hk2 : n ≤ 6900000) (hR : Rel S T) (J : LJ p l e s m below meth c b D ca cJ aC aM (k + 1) (n + 6) i) : LV p l e s m below meth c b D ca cJ aC aM k n S T (fun _ => True) (lls b aC aM s.heap.size i) 396 [] := by
  obtain ⟨r, S', T', e1, e2, hR'⟩ := op_liking hR (xs (i + 1))
  refine L_aload_n (pc := 396) h 1 dL_law_396 rfl rfl ?_
  refine L_arg (pc := 397) h 0 4 1 hi hL (by decide) rfl rfl dL_law_397 dL_law_398 dL_law_400 rfl dL_law_401 dL_law_402 ?_
  refine L_callC (pc := 403) h [.int (xs (i + 1))] [] mv_L_48 dL_law_403 rfl rfl (Nat.le_of_ble_eq_true rfl) (by omega) (by omega) (r, S') (c_N_liking_ct (d := 100) h.2.1.1 (by decide) (xs (i + 1)) S (r, S') e1) ?_
  refine L_aload_n (pc := 406) h 2 dL_law_406 rfl rfl ?_
  refine L_arg (pc := 407) h 0 4 1 hi hL (by decide) rfl rfl dL_law_407 dL_law_408 dL_law_410 rfl dL_law_411 dL_law_412 ?_
  refine L_callM (pc := 413) h [.int (xs (i + 1))] [.int r] mv_L_51 dL_law_413 rfl rfl (Nat.le_of_ble_eq_true rfl) (by omega) (by omega) (r, T') (m_liking_ct (d := 100) h.2.1.2 (by decide) (xs (i + 1)) T (r, T') e2) ?_
  exact L_eq (pc := 416) h 1234 dL_law_416 (by decide) rfl (LV_widen (Nat.le_succ k) (Nat.le_add_right n 6) (J S' T' hR'))
set_option maxHeartbeats 4000000 in
theorem law_c6 (h : LX p l s m meth c b L xs D ca cJ aC aM) {i : Nat} (hi : i + 6 ≤ L) (hL : L ≤ 3072) (hk : k ≤ 590000) (hk2 : n ≤ 6900000) (hR : Rel S T) (J : LJ p l e s m below meth c b D ca cJ aC aM (k + 1) (n + 6) i) : LV p l e s m below meth c b D ca cJ aC aM k n S T (fun _ => True) (lls b aC aM s.heap.size i) 421 [] := by
  obtain ⟨r, S', T', e1, e2, hR'⟩ := op_order hR (xs (i + 1))
  refine L_aload_n (pc := 421) h 1 dL_law_421 rfl rfl ?_
  refine L_arg (pc := 422) h 0 4 1 hi hL (by decide) rfl rfl dL_law_422 dL_law_423 dL_law_425 rfl dL_law_426 dL_law_427 ?_
  refine L_callC (pc := 428) h [.int (xs (i + 1))] [] mv_L_52 dL_law_428 rfl rfl (Nat.le_of_ble_eq_true rfl) (by omega) (by omega) (r, S') (c_N_order_ct (d := 100) h.2.1.1 (by decide) (xs (i + 1)) S (r, S') e1) ?_
  refine L_aload_n (pc := 431) h 2 dL_law_431 rfl rfl ?_
  refine L_arg (pc := 432) h 0 4 1 hi hL (by decide) rfl rfl dL_law_432 dL_law_433 dL_law_435 rfl dL_law_436 dL_law_437 ?_
  refine L_callM (pc := 438) h [.int (xs (i + 1))] [.int r] mv_L_55 dL_law_438 rfl rfl (Nat.le_of_ble_eq_true rfl) (by omega) (by omega) (r, T') (m_order_ct (d := 100) h.2.1.2 (by decide) (xs (i + 1)) T (r, T') e2) ?_
  exact L_eq (pc := 441) h 1234 dL_law_441 (by decide) rfl (LV_widen (Nat.le_succ k) (Nat.le_add_right n 6) (J S' T' hR'))
set_option maxHeartbeats 4000000 in
theorem law_c7 (h : LX p l s m meth c b L xs D ca cJ aC aM) {i : Nat} (hi : i + 6 ≤ L) (hL : L ≤ 3072) (hk : k ≤ 590000) (hk2 : n ≤ 6900000) (hR : Rel S T) (J : LJ p l e s m below meth c b D ca cJ aC aM (k + 1) (n + 6) i) : LV p l e s m below meth c b D ca cJ aC aM k n S T (fun _ => True) (lls b aC aM s.heap.size i) 446 [] := by
  obtain ⟨r, S', T', e1, e2, hR'⟩ := op_put hR (xs (i + 1)) (xs (i + 2))
  refine L_aload_n (pc := 446) h 1 dL_law_446 rfl rfl ?_
  refine L_arg (pc := 447) h 0 4 1 hi hL (by decide) rfl rfl dL_law_447 dL_law_448 dL_law_450 rfl dL_law_451 dL_law_452 ?_
  refine L_arg (pc := 453) h 0 4 2 hi hL (by decide) rfl rfl dL_law_453 dL_law_454 dL_law_456 rfl dL_law_457 dL_law_458 ?_
  refine L_callC (pc := 459) h [.int (xs (i + 1)), .int (xs (i + 2))] [] mv_L_56 dL_law_459 rfl rfl (Nat.le_of_ble_eq_true rfl) (by omega) (by omega) (r, S') (c_N_put_ct (d := 100) h.2.1.1 (by decide) (xs (i + 1)) (xs (i + 2)) S (r, S') e1) ?_
  refine L_aload_n (pc := 462) h 2 dL_law_462 rfl rfl ?_
  refine L_arg (pc := 463) h 0 4 1 hi hL (by decide) rfl rfl dL_law_463 dL_law_464 dL_law_466 rfl dL_law_467 dL_law_468 ?_
  refine L_arg (pc := 469) h 0 4 2 hi hL (by decide) rfl rfl dL_law_469 dL_law_470 dL_law_472 rfl dL_law_473 dL_law_474 ?_
  refine L_callM (pc := 475) h [.int (xs (i + 1)), .int (xs (i + 2))] [.int r] mv_L_60 dL_law_475 rfl rfl (Nat.le_of_ble_eq_true rfl) (by omega) (by omega) (r, T') (m_put_ct (d := 100) h.2.1.2 (by decide) (xs (i + 1)) (xs (i + 2)) T (r, T') e2) ?_
  exact L_eq (pc := 478) h 1234 dL_law_478 (by decide) rfl (LV_widen (Nat.le_succ k) (Nat.le_add_right n 6) (J S' T' hR'))
set_option maxHeartbeats 4000000 in
theorem law_c8 (h : LX p l s m meth c b L xs D ca cJ aC aM) {i : Nat} (hi : i + 6 ≤ L) (hL : L ≤ 3072) (hk : k ≤ 590000) (hk2 : n ≤ 6900000) (hR : Rel S T) (J : LJ p l e s m below meth c b D ca cJ aC aM (k + 1) (n + 6) i) : LV p l e s m below meth c b D ca cJ aC aM k n S T (fun _ => True) (lls b aC aM s.heap.size i) 483 [] := by
  obtain ⟨r, S', T', e1, e2, hR'⟩ := op_fill hR (xs (i + 1)) (xs (i + 2)) (xs (i + 3))
  refine L_aload_n (pc := 483) h 1 dL_law_483 rfl rfl ?_
  refine L_arg (pc := 484) h 0 4 1 hi hL (by decide) rfl rfl dL_law_484 dL_law_485 dL_law_487 rfl dL_law_488 dL_law_489 ?_
  refine L_arg (pc := 490) h 0 4 2 hi hL (by decide) rfl rfl dL_law_490 dL_law_491 dL_law_493 rfl dL_law_494 dL_law_495 ?_
  refine L_arg (pc := 496) h 0 4 3 hi hL (by decide) rfl rfl dL_law_496 dL_law_497 dL_law_499 rfl dL_law_500 dL_law_501 ?_
  refine L_callC (pc := 502) h [.int (xs (i + 1)), .int (xs (i + 2)), .int (xs (i + 3))] [] mv_L_61 dL_law_502 rfl rfl (Nat.le_of_ble_eq_true rfl) (by omega) (by omega) (r, S') (c_N_fill_ct (d := 100) h.2.1.1 (by decide) (xs (i + 1)) (xs (i + 2)) (xs (i + 3)) S (r, S') e1) ?_
  refine L_aload_n (pc := 505) h 2 dL_law_505 rfl rfl ?_
  refine L_arg (pc := 506) h 0 4 1 hi hL (by decide) rfl rfl dL_law_506 dL_law_507 dL_law_509 rfl dL_law_510 dL_law_511 ?_
  refine L_arg (pc := 512) h 0 4 2 hi hL (by decide) rfl rfl dL_law_512 dL_law_513 dL_law_515 rfl dL_law_516 dL_law_517 ?_
  refine L_arg (pc := 518) h 0 4 3 hi hL (by decide) rfl rfl dL_law_518 dL_law_519 dL_law_521 rfl dL_law_522 dL_law_523 ?_
  refine L_callM (pc := 524) h [.int (xs (i + 1)), .int (xs (i + 2)), .int (xs (i + 3))] [.int r] mv_L_65 dL_law_524 rfl rfl (Nat.le_of_ble_eq_true rfl) (by omega) (by omega) (r, T') (m_fill_ct (d := 100) h.2.1.2 (by decide) (xs (i + 1)) (xs (i + 2)) (xs (i + 3)) T (r, T') e2) ?_
  exact L_eq (pc := 527) h 1234 dL_law_527 (by decide) rfl (LV_widen (Nat.le_succ k) (Nat.le_add_right n 6) (J S' T' hR'))
set_option maxHeartbeats 4000000 in
theorem law_c9 (h : LX p l s m meth c b L xs D ca cJ aC aM) {i : Nat} (hi : i + 6 ≤ L) (hL : L ≤ 3072) (hk : k ≤ 590000) (hk2 : n ≤ 6900000) (hR : Rel S T) (J : LJ p l e s m below meth c b D ca cJ aC aM (k + 1) (n + 6) i) : LV p l e s m below meth c b D ca cJ aC aM k n S T (fun _ => True) (lls b aC aM s.heap.size i) 532 [] := by
  obtain ⟨r, S', T', e1, e2, hR'⟩ := op_meal hR (xs (i + 1))
  refine L_aload_n (pc := 532) h 1 dL_law_532 rfl rfl ?_
  refine L_arg (pc := 533) h 0 4 1 hi hL (by decide) rfl rfl dL_law_533 dL_law_534 dL_law_536 rfl dL_law_537 dL_law_538 ?_
  refine L_callC (pc := 539) h [.int (xs (i + 1))] [] mv_L_66 dL_law_539 rfl rfl (Nat.le_of_ble_eq_true rfl) (by omega) (by omega) (r, S') (c_N_meal_ct (d := 100) h.2.1.1 (by decide) (xs (i + 1)) S (r, S') e1) ?_
  refine L_aload_n (pc := 542) h 2 dL_law_542 rfl rfl ?_
  refine L_arg (pc := 543) h 0 4 1 hi hL (by decide) rfl rfl dL_law_543 dL_law_544 dL_law_546 rfl dL_law_547 dL_law_548 ?_
  refine L_callM (pc := 549) h [.int (xs (i + 1))] [.int r] mv_L_69 dL_law_549 rfl rfl (Nat.le_of_ble_eq_true rfl) (by omega) (by omega) (r, T') (m_meal_ct (d := 100) h.2.1.2 (by decide) (xs (i + 1)) T (r, T') e2) ?_
  exact L_eq (pc := 552) h 1234 dL_law_552 (by decide) rfl (LV_widen (Nat.le_succ k) (Nat.le_add_right n 6) (J S' T' hR'))
set_option maxHeartbeats 4000000 in
theorem law_c10 (h : LX p l s m meth c b L xs D ca cJ aC aM) {i : Nat} (hi : i + 6 ≤ L) (hL : L ≤ 3072) (hk : k ≤ 590000) (hk2 : n ≤ 6900000) (hR : Rel S T) (J : LJ p l e s m below meth c b D ca cJ aC aM (k + 1) (n + 6) i) : LV p l e s m below meth c b D ca cJ aC aM k n S T (fun _ => True) (lls b aC aM s.heap.size i) 557 [] := by
  obtain ⟨r, S', T', e1, e2, hR'⟩ := op_share hR (xs (i + 1)) (xs (i + 2))
  refine L_aload_n (pc := 557) h 1 dL_law_557 rfl rfl ?_
  refine L_arg (pc := 558) h 0 4 1 hi hL (by decide) rfl rfl dL_law_558 dL_law_559 dL_law_561 rfl dL_law_562 dL_law_563 ?_
  refine L_arg (pc := 564) h 0 4 2 hi hL (by decide) rfl rfl dL_law_564 dL_law_565 dL_law_567 rfl dL_law_568 dL_law_569 ?_
  refine L_callC (pc := 570) h [.int (xs (i + 1)), .int (xs (i + 2))] [] mv_L_70 dL_law_570 rfl rfl (Nat.le_of_ble_eq_true rfl) (by omega) (by omega) (r, S') (c_N_share_ct (d := 100) h.2.1.1 (by decide) (xs (i + 1)) (xs (i + 2)) S (r, S') e1) ?_
  refine L_aload_n (pc := 573) h 2 dL_law_573 rfl rfl ?_
  refine L_arg (pc := 574) h 0 4 1 hi hL (by decide) rfl rfl dL_law_574 dL_law_575 dL_law_577 rfl dL_law_578 dL_law_579 ?_
  refine L_arg (pc := 580) h 0 4 2 hi hL (by decide) rfl rfl dL_law_580 dL_law_581 dL_law_583 rfl dL_law_584 dL_law_585 ?_
  refine L_callM (pc := 586) h [.int (xs (i + 1)), .int (xs (i + 2))] [.int r] mv_L_73 dL_law_586 rfl rfl (Nat.le_of_ble_eq_true rfl) (by omega) (by omega) (r, T') (m_share_ct (d := 100) h.2.1.2 (by decide) (xs (i + 1)) (xs (i + 2)) T (r, T') e2) ?_
  exact L_eq (pc := 589) h 1234 dL_law_589 (by decide) rfl (LV_widen (Nat.le_succ k) (Nat.le_add_right n 6) (J S' T' hR'))
set_option maxHeartbeats 4000000 in
theorem law_c11 (h : LX p l s m meth c b L xs D ca cJ aC aM) {i : Nat} (hi : i + 6 ≤ L) (hL : L ≤ 3072) (hk : k ≤ 590000) (hk2 : n ≤ 6900000) (hR : Rel S T) (J : LJ p l e s m below meth c b D ca cJ aC aM (k + 1) (n + 6) i) : LV p l e s m below meth c b D ca cJ aC aM k n S T (fun _ => True) (lls b aC aM s.heap.size i) 594 [] := by
  obtain ⟨r, S', T', e1, e2, hR'⟩ := op_heat hR (xs (i + 1))
  refine L_aload_n (pc := 594) h 1 dL_law_594 rfl rfl ?_
  refine L_arg (pc := 595) h 0 4 1 hi hL (by decide) rfl rfl dL_law_595 dL_law_596 dL_law_598 rfl dL_law_599 dL_law_600 ?_
  refine L_callC (pc := 601) h [.int (xs (i + 1))] [] mv_L_74 dL_law_601 rfl rfl (Nat.le_of_ble_eq_true rfl) (by omega) (by omega) (r, S') (c_N_heat_ct (d := 100) h.2.1.1 (by decide) (xs (i + 1)) S (r, S') e1) ?_
  refine L_aload_n (pc := 604) h 2 dL_law_604 rfl rfl ?_
  refine L_arg (pc := 605) h 0 4 1 hi hL (by decide) rfl rfl dL_law_605 dL_law_606 dL_law_608 rfl dL_law_609 dL_law_610 ?_
  refine L_callM (pc := 611) h [.int (xs (i + 1))] [.int r] mv_L_77 dL_law_611 rfl rfl (Nat.le_of_ble_eq_true rfl) (by omega) (by omega) (r, T') (m_heat_ct (d := 100) h.2.1.2 (by decide) (xs (i + 1)) T (r, T') e2) ?_
  exact L_eq (pc := 614) h 1234 dL_law_614 (by decide) rfl (LV_widen (Nat.le_succ k) (Nat.le_add_right n 6) (J S' T' hR'))
set_option maxHeartbeats 4000000 in
theorem law_c12 (h : LX p l s m meth c b L xs D ca cJ aC aM) {i : Nat} (hi : i + 6 ≤ L) (hL : L ≤ 3072) (hk : k ≤ 590000) (hk2 : n ≤ 6900000) (hR : Rel S T) (J : LJ p l e s m below meth c b D ca cJ aC aM (k + 1) (n + 6) i) : LV p l e s m below meth c b D ca cJ aC aM k n S T (fun _ => True) (lls b aC aM s.heap.size i) 619 [] := by
  obtain ⟨r, S', T', e1, e2, hR'⟩ := op_first hR
  refine L_aload_n (pc := 619) h 1 dL_law_619 rfl rfl ?_
  refine L_callC (pc := 620) h [] [] mv_L_78 dL_law_620 rfl rfl (Nat.le_of_ble_eq_true rfl) (by omega) (by omega) (r, S') (c_N_first_ct (d := 100) h.2.1.1 (by decide) S (r, S') e1) ?_
  refine L_aload_n (pc := 623) h 2 dL_law_623 rfl rfl ?_
  refine L_callM (pc := 624) h [] [.int r] mv_L_81 dL_law_624 rfl rfl (Nat.le_of_ble_eq_true rfl) (by omega) (by omega) (r, T') (m_first_ct (d := 100) h.2.1.2 (by decide) T (r, T') e2) ?_
  exact L_eq (pc := 627) h 1234 dL_law_627 (by decide) rfl (LV_widen (Nat.le_succ k) (Nat.le_add_right n 6) (J S' T' hR'))
set_option maxHeartbeats 4000000 in
theorem law_c13 (h : LX p l s m meth c b L xs D ca cJ aC aM) {i : Nat} (hi : i + 6 ≤ L) (hL : L ≤ 3072) (hk : k ≤ 590000) (hk2 : n ≤ 6900000) (hR : Rel S T) (J : LJ p l e s m below meth c b D ca cJ aC aM (k + 1) (n + 6) i) : LV p l e s m below meth c b D ca cJ aC aM k n S T (fun _ => True) (lls b aC aM s.heap.size i) 632 [] := by
  obtain ⟨r, S', T', e1, e2, hR'⟩ := op_days hR (xs (i + 1))
  refine L_aload_n (pc := 632) h 1 dL_law_632 rfl rfl ?_
  refine L_arg (pc := 633) h 0 4 1 hi hL (by decide) rfl rfl dL_law_633 dL_law_634 dL_law_636 rfl dL_law_637 dL_law_638 ?_
  refine L_callC (pc := 639) h [.int (xs (i + 1))] [] mv_L_82 dL_law_639 rfl rfl (Nat.le_of_ble_eq_true rfl) (by omega) (by omega) (r, S') (c_N_days_ct (d := 100) h.2.1.1 (by decide) (xs (i + 1)) S (r, S') e1) ?_
  refine L_aload_n (pc := 642) h 2 dL_law_642 rfl rfl ?_
  refine L_arg (pc := 643) h 0 4 1 hi hL (by decide) rfl rfl dL_law_643 dL_law_644 dL_law_646 rfl dL_law_647 dL_law_648 ?_
  refine L_callM (pc := 649) h [.int (xs (i + 1))] [.int r] mv_L_85 dL_law_649 rfl rfl (Nat.le_of_ble_eq_true rfl) (by omega) (by omega) (r, T') (m_days_ct (d := 100) h.2.1.2 (by decide) (xs (i + 1)) T (r, T') e2) ?_
  exact L_eq (pc := 652) h 1234 dL_law_652 (by decide) rfl (LV_widen (Nat.le_succ k) (Nat.le_add_right n 6) (J S' T' hR'))
set_option maxHeartbeats 4000000 in
theorem law_c14 (h : LX p l s m meth c b L xs D ca cJ aC aM) {i : Nat} (hi : i + 6 ≤ L) (hL : L ≤ 3072) (hk : k ≤ 590000) (hk2 : n ≤ 6900000) (hR : Rel S T) (J : LJ p l e s m below meth c b D ca cJ aC aM (k + 1) (n + 6) i) : LV p l e s m below meth c b D ca cJ aC aM k n S T (fun _ => True) (lls b aC aM s.heap.size i) 657 [] := by
  obtain ⟨r, S', T', e1, e2, hR'⟩ := op_undo hR
  refine L_aload_n (pc := 657) h 1 dL_law_657 rfl rfl ?_
  refine L_callC (pc := 658) h [] [] mv_L_86 dL_law_658 rfl rfl (Nat.le_of_ble_eq_true rfl) (by omega) (by omega) (r, S') (c_N_undo_ct (d := 100) h.2.1.1 (by decide) S (r, S') e1) ?_
  refine L_aload_n (pc := 661) h 2 dL_law_661 rfl rfl ?_
  refine L_callM (pc := 662) h [] [.int r] mv_L_89 dL_law_662 rfl rfl (Nat.le_of_ble_eq_true rfl) (by omega) (by omega) (r, T') (m_undo_ct (d := 100) h.2.1.2 (by decide) T (r, T') e2) ?_
  exact L_eq (pc := 665) h 1234 dL_law_665 (by decide) rfl (LV_widen (Nat.le_succ k) (Nat.le_add_right n 6) (J S' T' hR'))
set_option maxHeartbeats 4000000 in
theorem law_c15 (h : LX p l s m meth c b L xs D ca cJ aC aM) {i : Nat} (hi : i + 6 ≤ L) (hL : L ≤ 3072) (hk : k ≤ 590000) (hk2 : n ≤ 6900000) (hR : Rel S T) (J : LJ p l e s m below meth c b D ca cJ aC aM (k + 1) (n + 6) i) : LV p l e s m below meth c b D ca cJ aC aM k n S T (fun _ => True) (lls b aC aM s.heap.size i) 670 [] := by
  obtain ⟨r, S', T', e1, e2, hR'⟩ := op_eaten hR (xs (i + 1))
  refine L_aload_n (pc := 670) h 1 dL_law_670 rfl rfl ?_
  refine L_arg (pc := 671) h 0 4 1 hi hL (by decide) rfl rfl dL_law_671 dL_law_672 dL_law_674 rfl dL_law_675 dL_law_676 ?_
  refine L_callC (pc := 677) h [.int (xs (i + 1))] [] mv_L_90 dL_law_677 rfl rfl (Nat.le_of_ble_eq_true rfl) (by omega) (by omega) (r, S') (c_N_eaten_ct (d := 100) h.2.1.1 (by decide) (xs (i + 1)) S (r, S') e1) ?_
  refine L_aload_n (pc := 680) h 2 dL_law_680 rfl rfl ?_
  refine L_arg (pc := 681) h 0 4 1 hi hL (by decide) rfl rfl dL_law_681 dL_law_682 dL_law_684 rfl dL_law_685 dL_law_686 ?_
  refine L_callM (pc := 687) h [.int (xs (i + 1))] [.int r] mv_L_93 dL_law_687 rfl rfl (Nat.le_of_ble_eq_true rfl) (by omega) (by omega) (r, T') (m_eaten_ct (d := 100) h.2.1.2 (by decide) (xs (i + 1)) T (r, T') e2) ?_
  exact L_eq (pc := 690) h 1234 dL_law_690 (by decide) rfl (LV_widen (Nat.le_succ k) (Nat.le_add_right n 6) (J S' T' hR'))
set_option maxHeartbeats 4000000 in
theorem law_c16 (h : LX p l s m meth c b L xs D ca cJ aC aM) {i : Nat} (hi : i + 6 ≤ L) (hL : L ≤ 3072) (hk : k ≤ 590000) (hk2 : n ≤ 6900000) (hR : Rel S T) (J : LJ p l e s m below meth c b D ca cJ aC aM (k + 1) (n + 6) i) : LV p l e s m below meth c b D ca cJ aC aM k n S T (fun _ => True) (lls b aC aM s.heap.size i) 695 [] := by
  obtain ⟨r, S', T', e1, e2, hR'⟩ := op_puts hR (xs (i + 1)) (xs (i + 2))
  refine L_aload_n (pc := 695) h 1 dL_law_695 rfl rfl ?_
  refine L_arg (pc := 696) h 0 4 1 hi hL (by decide) rfl rfl dL_law_696 dL_law_697 dL_law_699 rfl dL_law_700 dL_law_701 ?_
  refine L_arg (pc := 702) h 0 4 2 hi hL (by decide) rfl rfl dL_law_702 dL_law_703 dL_law_705 rfl dL_law_706 dL_law_707 ?_
  refine L_callC (pc := 708) h [.int (xs (i + 1)), .int (xs (i + 2))] [] mv_L_94 dL_law_708 rfl rfl (Nat.le_of_ble_eq_true rfl) (by omega) (by omega) (r, S') (c_N_puts_ct (d := 100) h.2.1.1 (by decide) (xs (i + 1)) (xs (i + 2)) S (r, S') e1) ?_
  refine L_aload_n (pc := 711) h 2 dL_law_711 rfl rfl ?_
  refine L_arg (pc := 712) h 0 4 1 hi hL (by decide) rfl rfl dL_law_712 dL_law_713 dL_law_715 rfl dL_law_716 dL_law_717 ?_
  refine L_arg (pc := 718) h 0 4 2 hi hL (by decide) rfl rfl dL_law_718 dL_law_719 dL_law_721 rfl dL_law_722 dL_law_723 ?_
  refine L_callM (pc := 724) h [.int (xs (i + 1)), .int (xs (i + 2))] [.int r] mv_L_97 dL_law_724 rfl rfl (Nat.le_of_ble_eq_true rfl) (by omega) (by omega) (r, T') (m_puts_ct (d := 100) h.2.1.2 (by decide) (xs (i + 1)) (xs (i + 2)) T (r, T') e2) ?_
  exact L_eq (pc := 727) h 1234 dL_law_727 (by decide) rfl (LV_widen (Nat.le_succ k) (Nat.le_add_right n 6) (J S' T' hR'))
set_option maxHeartbeats 4000000 in
theorem law_c17 (h : LX p l s m meth c b L xs D ca cJ aC aM) {i : Nat} (hi : i + 6 ≤ L) (hL : L ≤ 3072) (hk : k ≤ 590000) (hk2 : n ≤ 6900000) (hR : Rel S T) (J : LJ p l e s m below meth c b D ca cJ aC aM (k + 1) (n + 6) i) : LV p l e s m below meth c b D ca cJ aC aM k n S T (fun _ => True) (lls b aC aM s.heap.size i) 732 [] := by
  obtain ⟨r, S', T', e1, e2, hR'⟩ := op_orders hR (xs (i + 1)) (xs (i + 2))
  refine L_aload_n (pc := 732) h 1 dL_law_732 rfl rfl ?_
  refine L_arg (pc := 733) h 0 4 1 hi hL (by decide) rfl rfl dL_law_733 dL_law_734 dL_law_736 rfl dL_law_737 dL_law_738 ?_
  refine L_arg (pc := 739) h 0 4 2 hi hL (by decide) rfl rfl dL_law_739 dL_law_740 dL_law_742 rfl dL_law_743 dL_law_744 ?_
  refine L_callC (pc := 745) h [.int (xs (i + 1)), .int (xs (i + 2))] [] mv_L_98 dL_law_745 rfl rfl (Nat.le_of_ble_eq_true rfl) (by omega) (by omega) (r, S') (c_N_orders_ct (d := 100) h.2.1.1 (by decide) (xs (i + 1)) (xs (i + 2)) S (r, S') e1) ?_
  refine L_aload_n (pc := 748) h 2 dL_law_748 rfl rfl ?_
  refine L_arg (pc := 749) h 0 4 1 hi hL (by decide) rfl rfl dL_law_749 dL_law_750 dL_law_752 rfl dL_law_753 dL_law_754 ?_
  refine L_arg (pc := 755) h 0 4 2 hi hL (by decide) rfl rfl dL_law_755 dL_law_756 dL_law_758 rfl dL_law_759 dL_law_760 ?_
  refine L_callM (pc := 761) h [.int (xs (i + 1)), .int (xs (i + 2))] [.int r] mv_L_101 dL_law_761 rfl rfl (Nat.le_of_ble_eq_true rfl) (by omega) (by omega) (r, T') (m_orders_ct (d := 100) h.2.1.2 (by decide) (xs (i + 1)) (xs (i + 2)) T (r, T') e2) ?_
  exact L_eq (pc := 764) h 1234 dL_law_764 (by decide) rfl (LV_widen (Nat.le_succ k) (Nat.le_add_right n 6) (J S' T' hR'))
set_option maxHeartbeats 4000000 in
theorem law_c18 (h : LX p l s m meth c b L xs D ca cJ aC aM) {i : Nat} (hi : i + 6 ≤ L) (hL : L ≤ 3072) (hk : k ≤ 590000) (hk2 : n ≤ 6900000) (hR : Rel S T) (J : LJ p l e s m below meth c b D ca cJ aC aM (k + 1) (n + 6) i) : LV p l e s m below meth c b D ca cJ aC aM k n S T (fun _ => True) (lls b aC aM s.heap.size i) 769 [] := by
  obtain ⟨r, S', T', e1, e2, hR'⟩ := op_bestFor hR (xs (i + 1)) (xs (i + 2)) (xs (i + 3))
  refine L_aload_n (pc := 769) h 1 dL_law_769 rfl rfl ?_
  refine L_arg (pc := 770) h 0 4 1 hi hL (by decide) rfl rfl dL_law_770 dL_law_771 dL_law_773 rfl dL_law_774 dL_law_775 ?_
  refine L_arg (pc := 776) h 0 4 2 hi hL (by decide) rfl rfl dL_law_776 dL_law_777 dL_law_779 rfl dL_law_780 dL_law_781 ?_
  refine L_arg (pc := 782) h 0 4 3 hi hL (by decide) rfl rfl dL_law_782 dL_law_783 dL_law_785 rfl dL_law_786 dL_law_787 ?_
  refine L_callC (pc := 788) h [.int (xs (i + 1)), .int (xs (i + 2)), .int (xs (i + 3))] [] mv_L_102 dL_law_788 rfl rfl (Nat.le_of_ble_eq_true rfl) (by omega) (by omega) (r, S') (c_N_bestFor_ct (d := 100) h.2.1.1 (by decide) (xs (i + 1)) (xs (i + 2)) (xs (i + 3)) S (r, S') e1) ?_
  refine L_aload_n (pc := 791) h 2 dL_law_791 rfl rfl ?_
  refine L_arg (pc := 792) h 0 4 1 hi hL (by decide) rfl rfl dL_law_792 dL_law_793 dL_law_795 rfl dL_law_796 dL_law_797 ?_
  refine L_arg (pc := 798) h 0 4 2 hi hL (by decide) rfl rfl dL_law_798 dL_law_799 dL_law_801 rfl dL_law_802 dL_law_803 ?_
  refine L_arg (pc := 804) h 0 4 3 hi hL (by decide) rfl rfl dL_law_804 dL_law_805 dL_law_807 rfl dL_law_808 dL_law_809 ?_
  refine L_callM (pc := 810) h [.int (xs (i + 1)), .int (xs (i + 2)), .int (xs (i + 3))] [.int r] mv_L_106 dL_law_810 rfl rfl (Nat.le_of_ble_eq_true rfl) (by omega) (by omega) (r, T') (m_bestFor_ct (d := 100) h.2.1.2 (by decide) (xs (i + 1)) (xs (i + 2)) (xs (i + 3)) T (r, T') e2) ?_
  exact L_eq (pc := 813) h 1234 dL_law_813 (by decide) rfl (LV_widen (Nat.le_succ k) (Nat.le_add_right n 6) (J S' T' hR'))
set_option maxHeartbeats 4000000 in
theorem law_c19 (h : LX p l s m meth c b L xs D ca cJ aC aM) {i : Nat} (hi : i + 6 ≤ L) (hL : L ≤ 3072) (hk : k ≤ 590000) (hk2 : n ≤ 6900000) (hR : Rel S T) (J : LJ p l e s m below meth c b D ca cJ aC aM (k + 1) (n + 6) i) : LV p l e s m below meth c b D ca cJ aC aM k n S T (fun _ => True) (lls b aC aM s.heap.size i) 818 [] := by
  obtain ⟨r, S', T', e1, e2, hR'⟩ := op_about hR (xs (i + 1)) (xs (i + 2))
  refine L_aload_n (pc := 818) h 1 dL_law_818 rfl rfl ?_
  refine L_arg (pc := 819) h 0 4 1 hi hL (by decide) rfl rfl dL_law_819 dL_law_820 dL_law_822 rfl dL_law_823 dL_law_824 ?_
  refine L_arg (pc := 825) h 0 4 2 hi hL (by decide) rfl rfl dL_law_825 dL_law_826 dL_law_828 rfl dL_law_829 dL_law_830 ?_
  refine L_callC (pc := 831) h [.int (xs (i + 1)), .int (xs (i + 2))] [] mv_L_107 dL_law_831 rfl rfl (Nat.le_of_ble_eq_true rfl) (by omega) (by omega) (r, S') (c_N_about_ct (d := 100) h.2.1.1 (by decide) (xs (i + 1)) (xs (i + 2)) S (r, S') e1) ?_
  refine L_aload_n (pc := 834) h 2 dL_law_834 rfl rfl ?_
  refine L_arg (pc := 835) h 0 4 1 hi hL (by decide) rfl rfl dL_law_835 dL_law_836 dL_law_838 rfl dL_law_839 dL_law_840 ?_
  refine L_arg (pc := 841) h 0 4 2 hi hL (by decide) rfl rfl dL_law_841 dL_law_842 dL_law_844 rfl dL_law_845 dL_law_846 ?_
  refine L_callM (pc := 847) h [.int (xs (i + 1)), .int (xs (i + 2))] [.int r] mv_L_110 dL_law_847 rfl rfl (Nat.le_of_ble_eq_true rfl) (by omega) (by omega) (r, T') (m_about_ct (d := 100) h.2.1.2 (by decide) (xs (i + 1)) (xs (i + 2)) T (r, T') e2) ?_
  exact L_eq (pc := 850) h 1234 dL_law_850 (by decide) rfl (LV_widen (Nat.le_succ k) (Nat.le_add_right n 6) (J S' T' hR'))
set_option maxHeartbeats 4000000 in
theorem law_c20 (h : LX p l s m meth c b L xs D ca cJ aC aM) {i : Nat} (hi : i + 6 ≤ L) (hL : L ≤ 3072) (hk : k ≤ 590000) (hk2 : n ≤ 6900000) (hR : Rel S T) (J : LJ p l e s m below meth c b D ca cJ aC aM (k + 1) (n + 6) i) : LV p l e s m below meth c b D ca cJ aC aM k n S T (fun _ => True) (lls b aC aM s.heap.size i) 855 [] := by
  obtain ⟨r, S', T', e1, e2, hR'⟩ := op_poison hR (xs (i + 1)) (xs (i + 2)) (xs (i + 3))
  refine L_aload_n (pc := 855) h 1 dL_law_855 rfl rfl ?_
  refine L_arg (pc := 856) h 0 4 1 hi hL (by decide) rfl rfl dL_law_856 dL_law_857 dL_law_859 rfl dL_law_860 dL_law_861 ?_
  refine L_arg (pc := 862) h 0 4 2 hi hL (by decide) rfl rfl dL_law_862 dL_law_863 dL_law_865 rfl dL_law_866 dL_law_867 ?_
  refine L_arg (pc := 868) h 0 4 3 hi hL (by decide) rfl rfl dL_law_868 dL_law_869 dL_law_871 rfl dL_law_872 dL_law_873 ?_
  refine L_callC (pc := 874) h [.int (xs (i + 1)), .int (xs (i + 2)), .int (xs (i + 3))] [] mv_L_111 dL_law_874 rfl rfl (Nat.le_of_ble_eq_true rfl) (by omega) (by omega) (r, S') (c_N_poison_ct (d := 100) h.2.1.1 (by decide) (xs (i + 1)) (xs (i + 2)) (xs (i + 3)) S (r, S') e1) ?_
  refine L_aload_n (pc := 877) h 2 dL_law_877 rfl rfl ?_
  refine L_arg (pc := 878) h 0 4 1 hi hL (by decide) rfl rfl dL_law_878 dL_law_879 dL_law_881 rfl dL_law_882 dL_law_883 ?_
  refine L_arg (pc := 884) h 0 4 2 hi hL (by decide) rfl rfl dL_law_884 dL_law_885 dL_law_887 rfl dL_law_888 dL_law_889 ?_
  refine L_arg (pc := 890) h 0 4 3 hi hL (by decide) rfl rfl dL_law_890 dL_law_891 dL_law_893 rfl dL_law_894 dL_law_895 ?_
  refine L_callM (pc := 896) h [.int (xs (i + 1)), .int (xs (i + 2)), .int (xs (i + 3))] [.int r] mv_L_114 dL_law_896 rfl rfl (Nat.le_of_ble_eq_true rfl) (by omega) (by omega) (r, T') (m_poison_ct (d := 100) h.2.1.2 (by decide) (xs (i + 1)) (xs (i + 2)) (xs (i + 3)) T (r, T') e2) ?_
  exact L_eq (pc := 899) h 1234 dL_law_899 (by decide) rfl (LV_widen (Nat.le_succ k) (Nat.le_add_right n 6) (J S' T' hR'))
set_option maxHeartbeats 4000000 in
theorem law_c21 (h : LX p l s m meth c b L xs D ca cJ aC aM) {i : Nat} (hi : i + 6 ≤ L) (hL : L ≤ 3072) (hk : k ≤ 590000) (hk2 : n ≤ 6900000) (hR : Rel S T) (J : LJ p l e s m below meth c b D ca cJ aC aM (k + 1) (n + 6) i) : LV p l e s m below meth c b D ca cJ aC aM k n S T (fun _ => True) (lls b aC aM s.heap.size i) 904 [] := by
  obtain ⟨r, S', T', e1, e2, hR'⟩ := op_guilty hR (xs (i + 1)) (xs (i + 2)) (xs (i + 3))
  refine L_aload_n (pc := 904) h 1 dL_law_904 rfl rfl ?_
  refine L_arg (pc := 905) h 0 4 1 hi hL (by decide) rfl rfl dL_law_905 dL_law_906 dL_law_908 rfl dL_law_909 dL_law_910 ?_
  refine L_arg (pc := 911) h 0 4 2 hi hL (by decide) rfl rfl dL_law_911 dL_law_912 dL_law_914 rfl dL_law_915 dL_law_916 ?_
  refine L_arg (pc := 917) h 0 4 3 hi hL (by decide) rfl rfl dL_law_917 dL_law_918 dL_law_920 rfl dL_law_921 dL_law_922 ?_
  refine L_callC (pc := 923) h [.int (xs (i + 1)), .int (xs (i + 2)), .int (xs (i + 3))] [] mv_L_115 dL_law_923 rfl rfl (Nat.le_of_ble_eq_true rfl) (by omega) (by omega) (r, S') (c_N_guilty_ct (d := 100) h.2.1.1 (by decide) (xs (i + 1)) (xs (i + 2)) (xs (i + 3)) S (r, S') e1) ?_
  refine L_aload_n (pc := 926) h 2 dL_law_926 rfl rfl ?_
  refine L_arg (pc := 927) h 0 4 1 hi hL (by decide) rfl rfl dL_law_927 dL_law_928 dL_law_930 rfl dL_law_931 dL_law_932 ?_
  refine L_arg (pc := 933) h 0 4 2 hi hL (by decide) rfl rfl dL_law_933 dL_law_934 dL_law_936 rfl dL_law_937 dL_law_938 ?_
  refine L_arg (pc := 939) h 0 4 3 hi hL (by decide) rfl rfl dL_law_939 dL_law_940 dL_law_942 rfl dL_law_943 dL_law_944 ?_
  refine L_callM (pc := 945) h [.int (xs (i + 1)), .int (xs (i + 2)), .int (xs (i + 3))] [.int r] mv_L_118 dL_law_945 rfl rfl (Nat.le_of_ble_eq_true rfl) (by omega) (by omega) (r, T') (m_guilty_ct (d := 100) h.2.1.2 (by decide) (xs (i + 1)) (xs (i + 2)) (xs (i + 3)) T (r, T') e2) ?_
  exact L_eq (pc := 948) h 1234 dL_law_948 (by decide) rfl (LV_widen (Nat.le_succ k) (Nat.le_add_right n 6) (J S' T' hR'))
set_option maxHeartbeats 4000000 in
theorem law_c22 (h : LX p l s m meth c b L xs D ca cJ aC aM) {i : Nat} (hi : i + 6 ≤ L) (hL : L ≤ 3072) (hk : k ≤ 590000) (hk2 : n ≤ 6900000) (hR : Rel S T) (J : LJ p l e s m below meth c b D ca cJ aC aM (k + 1) (n + 6) i) : LV p l e s m below meth c b D ca cJ aC aM k n S T (fun _ => True) (lls b aC aM s.heap.size i) 953 [] := by
  obtain ⟨r, S', T', e1, e2, hR'⟩ := op_harm hR (xs (i + 1)) (xs (i + 2)) (xs (i + 3))
  refine L_aload_n (pc := 953) h 1 dL_law_953 rfl rfl ?_
  refine L_arg (pc := 954) h 0 4 1 hi hL (by decide) rfl rfl dL_law_954 dL_law_955 dL_law_957 rfl dL_law_958 dL_law_959 ?_
  refine L_arg (pc := 960) h 0 4 2 hi hL (by decide) rfl rfl dL_law_960 dL_law_961 dL_law_963 rfl dL_law_964 dL_law_965 ?_
  refine L_arg (pc := 966) h 0 4 3 hi hL (by decide) rfl rfl dL_law_966 dL_law_967 dL_law_969 rfl dL_law_970 dL_law_971 ?_
  refine L_callC (pc := 972) h [.int (xs (i + 1)), .int (xs (i + 2)), .int (xs (i + 3))] [] mv_L_119 dL_law_972 rfl rfl (Nat.le_of_ble_eq_true rfl) (by omega) (by omega) (r, S') (c_N_harm_ct (d := 100) h.2.1.1 (by decide) (xs (i + 1)) (xs (i + 2)) (xs (i + 3)) S (r, S') e1) ?_
  refine L_aload_n (pc := 975) h 2 dL_law_975 rfl rfl ?_
  refine L_arg (pc := 976) h 0 4 1 hi hL (by decide) rfl rfl dL_law_976 dL_law_977 dL_law_979 rfl dL_law_980 dL_law_981 ?_
  refine L_arg (pc := 982) h 0 4 2 hi hL (by decide) rfl rfl dL_law_982 dL_law_983 dL_law_985 rfl dL_law_986 dL_law_987 ?_
  refine L_arg (pc := 988) h 0 4 3 hi hL (by decide) rfl rfl dL_law_988 dL_law_989 dL_law_991 rfl dL_law_992 dL_law_993 ?_
  refine L_callM (pc := 994) h [.int (xs (i + 1)), .int (xs (i + 2)), .int (xs (i + 3))] [.int r] mv_L_122 dL_law_994 rfl rfl (Nat.le_of_ble_eq_true rfl) (by omega) (by omega) (r, T') (m_harm_ct (d := 100) h.2.1.2 (by decide) (xs (i + 1)) (xs (i + 2)) (xs (i + 3)) T (r, T') e2) ?_
  exact L_eq (pc := 997) h 1234 dL_law_997 (by decide) rfl (LV_widen (Nat.le_succ k) (Nat.le_add_right n 6) (J S' T' hR'))
set_option maxHeartbeats 4000000 in
theorem law_c23 (h : LX p l s m meth c b L xs D ca cJ aC aM) {i : Nat} (hi : i + 6 ≤ L) (hL : L ≤ 3072) (hk : k ≤ 590000) (hk2 : n ≤ 6900000) (hR : Rel S T) (J : LJ p l e s m below meth c b D ca cJ aC aM (k + 1) (n + 6) i) : LV p l e s m below meth c b D ca cJ aC aM k n S T (fun _ => True) (lls b aC aM s.heap.size i) 1002 [] := by
  obtain ⟨r, S', T', e1, e2, hR'⟩ := op_stranger hR (xs (i + 1)) (xs (i + 2)) (xs (i + 3))
  refine L_aload_n (pc := 1002) h 1 dL_law_1002 rfl rfl ?_
  refine L_arg (pc := 1003) h 0 4 1 hi hL (by decide) rfl rfl dL_law_1003 dL_law_1004 dL_law_1006 rfl dL_law_1007 dL_law_1008 ?_
  refine L_arg (pc := 1009) h 0 4 2 hi hL (by decide) rfl rfl dL_law_1009 dL_law_1010 dL_law_1012 rfl dL_law_1013 dL_law_1014 ?_
  refine L_arg (pc := 1015) h 0 4 3 hi hL (by decide) rfl rfl dL_law_1015 dL_law_1016 dL_law_1018 rfl dL_law_1019 dL_law_1020 ?_
  refine L_callC (pc := 1021) h [.int (xs (i + 1)), .int (xs (i + 2)), .int (xs (i + 3))] [] mv_L_123 dL_law_1021 rfl rfl (Nat.le_of_ble_eq_true rfl) (by omega) (by omega) (r, S') (c_N_stranger_ct (d := 100) h.2.1.1 (by decide) (xs (i + 1)) (xs (i + 2)) (xs (i + 3)) S (r, S') e1) ?_
  refine L_aload_n (pc := 1024) h 2 dL_law_1024 rfl rfl ?_
  refine L_arg (pc := 1025) h 0 4 1 hi hL (by decide) rfl rfl dL_law_1025 dL_law_1026 dL_law_1028 rfl dL_law_1029 dL_law_1030 ?_
  refine L_arg (pc := 1031) h 0 4 2 hi hL (by decide) rfl rfl dL_law_1031 dL_law_1032 dL_law_1034 rfl dL_law_1035 dL_law_1036 ?_
  refine L_arg (pc := 1037) h 0 4 3 hi hL (by decide) rfl rfl dL_law_1037 dL_law_1038 dL_law_1040 rfl dL_law_1041 dL_law_1042 ?_
  refine L_callM (pc := 1043) h [.int (xs (i + 1)), .int (xs (i + 2)), .int (xs (i + 3))] [.int r] mv_L_126 dL_law_1043 rfl rfl (Nat.le_of_ble_eq_true rfl) (by omega) (by omega) (r, T') (m_stranger_ct (d := 100) h.2.1.2 (by decide) (xs (i + 1)) (xs (i + 2)) (xs (i + 3)) T (r, T') e2) ?_
  exact L_eq (pc := 1046) h 1234 dL_law_1046 (by decide) rfl (LV_widen (Nat.le_succ k) (Nat.le_add_right n 6) (J S' T' hR'))
set_option maxHeartbeats 4000000 in
theorem law_c24 (h : LX p l s m meth c b L xs D ca cJ aC aM) {i : Nat} (hi : i + 6 ≤ L) (hL : L ≤ 3072) (hk : k ≤ 590000) (hk2 : n ≤ 6900000) (hR : Rel S T) (J : LJ p l e s m below meth c b D ca cJ aC aM (k + 1) (n + 6) i) : LV p l e s m below meth c b D ca cJ aC aM k n S T (fun _ => True) (lls b aC aM s.heap.size i) 1051 [] := by
  obtain ⟨r, S', T', e1, e2, hR'⟩ := op_exchange hR (xs (i + 1))
  refine L_aload_n (pc := 1051) h 1 dL_law_1051 rfl rfl ?_
  refine L_arg (pc := 1052) h 0 4 1 hi hL (by decide) rfl rfl dL_law_1052 dL_law_1053 dL_law_1055 rfl dL_law_1056 dL_law_1057 ?_
  refine L_callC (pc := 1058) h [.int (xs (i + 1))] [] mv_L_127 dL_law_1058 rfl rfl (Nat.le_of_ble_eq_true rfl) (by omega) (by omega) (r, S') (c_N_exchange_ct (d := 100) h.2.1.1 (by decide) (xs (i + 1)) S (r, S') e1) ?_
  refine L_aload_n (pc := 1061) h 2 dL_law_1061 rfl rfl ?_
  refine L_arg (pc := 1062) h 0 4 1 hi hL (by decide) rfl rfl dL_law_1062 dL_law_1063 dL_law_1065 rfl dL_law_1066 dL_law_1067 ?_
  refine L_callM (pc := 1068) h [.int (xs (i + 1))] [.int r] mv_L_130 dL_law_1068 rfl rfl (Nat.le_of_ble_eq_true rfl) (by omega) (by omega) (r, T') (m_exchange_ct (d := 100) h.2.1.2 (by decide) (xs (i + 1)) T (r, T') e2) ?_
  exact L_eq (pc := 1071) h 1234 dL_law_1071 (by decide) rfl (LV_widen (Nat.le_succ k) (Nat.le_add_right n 6) (J S' T' hR'))
set_option maxHeartbeats 4000000 in
theorem law_c25 (h : LX p l s m meth c b L xs D ca cJ aC aM) {i : Nat} (hi : i + 6 ≤ L) (hL : L ≤ 3072) (hk : k ≤ 590000) (hk2 : n ≤ 6900000) (hR : Rel S T) (J : LJ p l e s m below meth c b D ca cJ aC aM (k + 1) (n + 6) i) : LV p l e s m below meth c b D ca cJ aC aM k n S T (fun _ => True) (lls b aC aM s.heap.size i) 1076 [] := by
  obtain ⟨r, S', T', e1, e2, hR'⟩ := op_lasts hR (xs (i + 1))
  refine L_aload_n (pc := 1076) h 1 dL_law_1076 rfl rfl ?_
  refine L_arg (pc := 1077) h 0 4 1 hi hL (by decide) rfl rfl dL_law_1077 dL_law_1078 dL_law_1080 rfl dL_law_1081 dL_law_1082 ?_
  refine L_callC (pc := 1083) h [.int (xs (i + 1))] [] mv_L_131 dL_law_1083 rfl rfl (Nat.le_of_ble_eq_true rfl) (by omega) (by omega) (r, S') (c_N_lasts_ct (d := 100) h.2.1.1 (by decide) (xs (i + 1)) S (r, S') e1) ?_
  refine L_aload_n (pc := 1086) h 2 dL_law_1086 rfl rfl ?_
  refine L_arg (pc := 1087) h 0 4 1 hi hL (by decide) rfl rfl dL_law_1087 dL_law_1088 dL_law_1090 rfl dL_law_1091 dL_law_1092 ?_
  refine L_callM (pc := 1093) h [.int (xs (i + 1))] [.int r] mv_L_134 dL_law_1093 rfl rfl (Nat.le_of_ble_eq_true rfl) (by omega) (by omega) (r, T') (m_lasts_ct (d := 100) h.2.1.2 (by decide) (xs (i + 1)) T (r, T') e2) ?_
  exact L_eq (pc := 1096) h 1234 dL_law_1096 (by decide) rfl (LV_widen (Nat.le_succ k) (Nat.le_add_right n 6) (J S' T' hR'))
set_option maxHeartbeats 4000000 in
theorem law_c26 (h : LX p l s m meth c b L xs D ca cJ aC aM) {i : Nat} (hi : i + 6 ≤ L) (hL : L ≤ 3072) (hk : k ≤ 590000) (hk2 : n ≤ 6900000) (hR : Rel S T) (J : LJ p l e s m below meth c b D ca cJ aC aM (k + 1) (n + 6) i) : LV p l e s m below meth c b D ca cJ aC aM k n S T (fun _ => True) (lls b aC aM s.heap.size i) 1101 [] := by
  obtain ⟨r, S', T', e1, e2, hR'⟩ := op_left hR
  refine L_aload_n (pc := 1101) h 1 dL_law_1101 rfl rfl ?_
  refine L_callC (pc := 1102) h [] [] mv_L_135 dL_law_1102 rfl rfl (Nat.le_of_ble_eq_true rfl) (by omega) (by omega) (r, S') (c_N_left_ct (d := 100) h.2.1.1 (by decide) S (r, S') e1) ?_
  refine L_aload_n (pc := 1105) h 2 dL_law_1105 rfl rfl ?_
  refine L_callM (pc := 1106) h [] [.int r] mv_L_138 dL_law_1106 rfl rfl (Nat.le_of_ble_eq_true rfl) (by omega) (by omega) (r, T') (m_left_ct (d := 100) h.2.1.2 (by decide) T (r, T') e2) ?_
  exact L_eq (pc := 1109) h 1234 dL_law_1109 (by decide) rfl (LV_widen (Nat.le_succ k) (Nat.le_add_right n 6) (J S' T' hR'))
set_option maxHeartbeats 4000000 in
theorem law_c27 (h : LX p l s m meth c b L xs D ca cJ aC aM) {i : Nat} (hi : i + 6 ≤ L) (hL : L ≤ 3072) (hk : k ≤ 590000) (hk2 : n ≤ 6900000) (hR : Rel S T) (J : LJ p l e s m below meth c b D ca cJ aC aM (k + 1) (n + 6) i) : LV p l e s m below meth c b D ca cJ aC aM k n S T (fun _ => True) (lls b aC aM s.heap.size i) 1114 [] := by
  obtain ⟨r, S', T', e1, e2, hR'⟩ := op_drawn hR (xs (i + 1)) ((((xs (i + 2)).toInt64) <<< ((32 : Int32).toInt64 &&& 63)) ||| (((xs (i + 3)).toInt64) &&& (4294967295 : Int64)))
  refine L_aload_n (pc := 1114) h 1 dL_law_1114 rfl rfl ?_
  refine L_arg (pc := 1115) h 0 4 1 hi hL (by decide) rfl rfl dL_law_1115 dL_law_1116 dL_law_1118 rfl dL_law_1119 dL_law_1120 ?_
  refine L_arg (pc := 1121) h 0 4 2 hi hL (by decide) rfl rfl dL_law_1121 dL_law_1122 dL_law_1124 rfl dL_law_1125 dL_law_1126 ?_
  refine L_i2l (pc := 1127) h dL_law_1127 ?_
  refine L_bipush (pc := 1128) (v := 32) h dL_law_1128 (by decide) ?_
  refine L_lshl (pc := 1130) h dL_law_1130 ?_
  refine L_arg (pc := 1131) h 0 4 3 hi hL (by decide) rfl rfl dL_law_1131 dL_law_1132 dL_law_1134 rfl dL_law_1135 dL_law_1136 ?_
  refine L_i2l (pc := 1137) h dL_law_1137 ?_
  refine L_ldc2 (pc := 1138) h dL_law_1138 tw_7_167 ?_
  refine L_land (pc := 1141) h dL_law_1141 ?_
  refine L_lor (pc := 1142) h dL_law_1142 ?_
  refine L_callC (pc := 1143) h [.int (xs (i + 1)), .long ((((xs (i + 2)).toInt64) <<< ((32 : Int32).toInt64 &&& 63)) ||| (((xs (i + 3)).toInt64) &&& (4294967295 : Int64)))] [] mv_L_141 dL_law_1143 rfl rfl (Nat.le_of_ble_eq_true rfl) (by omega) (by omega) (r, S') (c_N_drawn_ct (d := 100) h.2.1.1 (by decide) (xs (i + 1)) ((((xs (i + 2)).toInt64) <<< ((32 : Int32).toInt64 &&& 63)) ||| (((xs (i + 3)).toInt64) &&& (4294967295 : Int64))) S (r, S') e1) ?_
  refine L_aload_n (pc := 1146) h 2 dL_law_1146 rfl rfl ?_
  refine L_arg (pc := 1147) h 0 4 1 hi hL (by decide) rfl rfl dL_law_1147 dL_law_1148 dL_law_1150 rfl dL_law_1151 dL_law_1152 ?_
  refine L_arg (pc := 1153) h 0 4 2 hi hL (by decide) rfl rfl dL_law_1153 dL_law_1154 dL_law_1156 rfl dL_law_1157 dL_law_1158 ?_
  refine L_i2l (pc := 1159) h dL_law_1159 ?_
  refine L_bipush (pc := 1160) (v := 32) h dL_law_1160 (by decide) ?_
  refine L_lshl (pc := 1162) h dL_law_1162 ?_
  refine L_arg (pc := 1163) h 0 4 3 hi hL (by decide) rfl rfl dL_law_1163 dL_law_1164 dL_law_1166 rfl dL_law_1167 dL_law_1168 ?_
  refine L_i2l (pc := 1169) h dL_law_1169 ?_
  refine L_ldc2 (pc := 1170) h dL_law_1170 tw_7_167 ?_
  refine L_land (pc := 1173) h dL_law_1173 ?_
  refine L_lor (pc := 1174) h dL_law_1174 ?_
  refine L_callM (pc := 1175) h [.int (xs (i + 1)), .long ((((xs (i + 2)).toInt64) <<< ((32 : Int32).toInt64 &&& 63)) ||| (((xs (i + 3)).toInt64) &&& (4294967295 : Int64)))] [.int r] mv_L_145 dL_law_1175 rfl rfl (Nat.le_of_ble_eq_true rfl) (by omega) (by omega) (r, T') (m_drawn_ct (d := 100) h.2.1.2 (by decide) (xs (i + 1)) ((((xs (i + 2)).toInt64) <<< ((32 : Int32).toInt64 &&& 63)) ||| (((xs (i + 3)).toInt64) &&& (4294967295 : Int64))) T (r, T') e2) ?_
  exact L_eq (pc := 1178) h 1234 dL_law_1178 (by decide) rfl (LV_widen (Nat.le_succ k) (Nat.le_add_right n 6) (J S' T' hR'))
set_option maxHeartbeats 4000000 in
theorem law_c28 (h : LX p l s m meth c b L xs D ca cJ aC aM) {i : Nat} (hi : i + 6 ≤ L) (hL : L ≤ 3072) (hk : k ≤ 590000) (hk2 : n ≤ 6900000) (hR : Rel S T) (J : LJ p l e s m below meth c b D ca cJ aC aM (k + 1) (n + 6) i) : LV p l e s m below meth c b D ca cJ aC aM k n S T (fun _ => True) (lls b aC aM s.heap.size i) 1183 [] := by
  obtain ⟨r, S', T', e1, e2, hR'⟩ := op_image hR
  refine L_aload_n (pc := 1183) h 1 dL_law_1183 rfl rfl ?_
  refine L_callC (pc := 1184) h [] [] mv_L_146 dL_law_1184 rfl rfl (Nat.le_of_ble_eq_true rfl) (by omega) (by omega) (r, S') (c_N_image_ct (d := 100) h.2.1.1 (by decide) S (r, S') e1) ?_
  refine L_aload_n (pc := 1187) h 2 dL_law_1187 rfl rfl ?_
  refine L_callM (pc := 1188) h [] [.int r] mv_L_149 dL_law_1188 rfl rfl (Nat.le_of_ble_eq_true rfl) (by omega) (by omega) (r, T') (m_image_ct (d := 100) h.2.1.2 (by decide) T (r, T') e2) ?_
  exact L_eq (pc := 1191) h 1234 dL_law_1191 (by decide) rfl (LV_widen (Nat.le_succ k) (Nat.le_add_right n 6) (J S' T' hR'))
set_option maxHeartbeats 4000000 in
theorem law_c29 (h : LX p l s m meth c b L xs D ca cJ aC aM) {i : Nat} (hi : i + 6 ≤ L) (hL : L ≤ 3072) (hk : k ≤ 590000) (hk2 : n ≤ 6900000) (hR : Rel S T) (J : LJ p l e s m below meth c b D ca cJ aC aM (k + 1) (n + 6) i) : LV p l e s m below meth c b D ca cJ aC aM k n S T (fun _ => True) (lls b aC aM s.heap.size i) 1196 [] := by
  obtain ⟨r, S', T', e1, e2, hR'⟩ := op_back hR
  refine L_aload_n (pc := 1196) h 1 dL_law_1196 rfl rfl ?_
  refine L_callC (pc := 1197) h [] [] mv_L_150 dL_law_1197 rfl rfl (Nat.le_of_ble_eq_true rfl) (by omega) (by omega) (r, S') (c_N_back_ct (d := 100) h.2.1.1 (by decide) S (r, S') e1) ?_
  refine L_aload_n (pc := 1200) h 2 dL_law_1200 rfl rfl ?_
  refine L_callM (pc := 1201) h [] [.int r] mv_L_153 dL_law_1201 rfl rfl (Nat.le_of_ble_eq_true rfl) (by omega) (by omega) (r, T') (m_back_ct (d := 100) h.2.1.2 (by decide) T (r, T') e2) ?_
  exact L_eq (pc := 1204) h 1234 dL_law_1204 (by decide) rfl (LV_widen (Nat.le_succ k) (Nat.le_add_right n 6) (J S' T' hR'))
set_option maxHeartbeats 4000000 in
theorem law_c30 (h : LX p l s m meth c b L xs D ca cJ aC aM) {i : Nat} (hi : i + 6 ≤ L) (hL : L ≤ 3072) (hk : k ≤ 590000) (hk2 : n ≤ 6900000) (hR : Rel S T) (J : LJ p l e s m below meth c b D ca cJ aC aM (k + 1) (n + 6) i) : LV p l e s m below meth c b D ca cJ aC aM k n S T (fun _ => True) (lls b aC aM s.heap.size i) 1209 [] := by
  obtain ⟨r, S', T', e1, e2, hR'⟩ := op_count hR (xs (i + 1))
  refine L_aload_n (pc := 1209) h 1 dL_law_1209 rfl rfl ?_
  refine L_arg (pc := 1210) h 0 4 1 hi hL (by decide) rfl rfl dL_law_1210 dL_law_1211 dL_law_1213 rfl dL_law_1214 dL_law_1215 ?_
  refine L_callC (pc := 1216) h [.int (xs (i + 1))] [] mv_L_154 dL_law_1216 rfl rfl (Nat.le_of_ble_eq_true rfl) (by omega) (by omega) (r, S') (c_N_count_ct (d := 100) h.2.1.1 (by decide) (xs (i + 1)) S (r, S') e1) ?_
  refine L_aload_n (pc := 1219) h 2 dL_law_1219 rfl rfl ?_
  refine L_arg (pc := 1220) h 0 4 1 hi hL (by decide) rfl rfl dL_law_1220 dL_law_1221 dL_law_1223 rfl dL_law_1224 dL_law_1225 ?_
  refine L_callM (pc := 1226) h [.int (xs (i + 1))] [.int r] mv_L_157 dL_law_1226 rfl rfl (Nat.le_of_ble_eq_true rfl) (by omega) (by omega) (r, T') (m_count_ct (d := 100) h.2.1.2 (by decide) (xs (i + 1)) T (r, T') e2) ?_
  exact L_eq (pc := 1229) h 1234 dL_law_1229 (by decide) rfl (LV_widen (Nat.le_succ k) (Nat.le_add_right n 6) (J S' T' hR'))
set_option maxHeartbeats 4000000 in
theorem law_c4 (h : LX p l s m meth c b L xs D ca cJ aC aM) {i : Nat} (hi : i + 6 ≤ L) (hL : L ≤ 3072) (hk : k ≤ 590000) (hk2 : n ≤ 6900000) (hR : Rel S T) (J : LJ p l e s m below meth c b D ca cJ aC aM (k + 1) (n + 6) i) : LV p l e s m below meth c b D ca cJ aC aM k n S T (fun _ => True) (lls b aC aM s.heap.size i) 328 [] := by
  obtain ⟨S', T', hR', hc⟩ := op_house hR (xs (i + 1)) (xs (i + 2))
  rcases hc with ⟨r, e1, e2, e3⟩ | ⟨r, e1, e2, e3⟩
  · refine L_aload_n (pc := 328) h 1 dL_law_328 rfl rfl ?_
    refine L_arg (pc := 329) h 0 4 1 hi hL (by decide) rfl rfl dL_law_329 dL_law_330 dL_law_332 rfl dL_law_333 dL_law_334 ?_
    refine L_arg (pc := 335) h 0 4 2 hi hL (by decide) rfl rfl dL_law_335 dL_law_336 dL_law_338 rfl dL_law_339 dL_law_340 ?_
    refine L_aload_n (pc := 341) h 3 dL_law_341 rfl rfl ?_
    refine L_callH (pc := 342) h (xs (i + 1)) (xs (i + 2)) (some r, S') e1 rfl dL_law_342 (by omega) (by omega) (fun r5 h5 => ?_)
    have h5 : r5 = 0 := by
      obtain ⟨u5, h5⟩ := h5
      exact h5.1
    subst h5
    refine L_istore (pc := 345) h ((5, .int 0) :: lls b aC aM s.heap.size i) dL_law_345 (by decide) rfl ?_
    refine L_aload_n (pc := 347) h 3 dL_law_347 rfl rfl ?_
    refine L_arg (pc := 348) h 1 5 1 hi hL (by decide) rfl rfl dL_law_348 dL_law_349 dL_law_351 rfl dL_law_352 dL_law_353 ?_
    refine L_arg (pc := 354) h 1 5 2 hi hL (by decide) rfl rfl dL_law_354 dL_law_355 dL_law_357 rfl dL_law_358 dL_law_359 ?_
    refine L_callM (pc := 360) h [.int (xs (i + 1)), .int (xs (i + 2))] [] mv_L_43 dL_law_360 rfl rfl (Nat.le_of_ble_eq_true rfl) (by omega) (by omega) (r, T') (m_house_ct (d := 100) h.2.1.2 (by decide) (xs (i + 1)) (xs (i + 2)) T (r, T') e2) ?_
    refine L_istore (pc := 363) h ((6, .int r) :: (5, .int 0) :: lls b aC aM s.heap.size i) dL_law_363 (by decide) rfl ?_
    refine L_aload_n (pc := 365) h 4 dL_law_365 rfl rfl ?_
    refine L_callM (pc := 366) h [] [] mv_L_44 dL_law_366 rfl rfl (Nat.le_of_ble_eq_true rfl) (by omega) (by omega) (T' 0 0, T') (m_thrown_ct (d := 100) h.2.1.2 (by decide) T' (T' 0 0, T') rfl) ?_
    refine L_iload (pc := 369) h 1 dL_law_369 rfl ?_
    refine L_eq (pc := 371) h 376 dL_law_371 (by decide) (show T' 0 0 = 0 from e3) ?_
    refine L_iload (pc := 376) h 1 dL_law_376 rfl ?_
    refine L_if_ne0 (pc := 378) h 393 dL_law_378 (by decide) rfl ?_
    refine L_outcmp (pc := 381) h 5 rfl 0 rfl dL_law_381 dL_law_382 dL_law_383 dL_law_384 dL_law_386 dL_law_387 (fun f hf => hf.2) ?_
    refine L_if_eq1 (pc := 388) h 393 dL_law_388 (by decide) rfl ?_
    exact L_goto (pc := 393) h 1234 dL_law_393 (by decide) (LV_sub [2, 3, 4, 5, 6] rfl (LV_free (fun _ _ => trivial) (J S' T' hR')))
  · refine L_aload_n (pc := 328) h 1 dL_law_328 rfl rfl ?_
    refine L_arg (pc := 329) h 0 4 1 hi hL (by decide) rfl rfl dL_law_329 dL_law_330 dL_law_332 rfl dL_law_333 dL_law_334 ?_
    refine L_arg (pc := 335) h 0 4 2 hi hL (by decide) rfl rfl dL_law_335 dL_law_336 dL_law_338 rfl dL_law_339 dL_law_340 ?_
    refine L_aload_n (pc := 341) h 3 dL_law_341 rfl rfl ?_
    refine L_callH (pc := 342) h (xs (i + 1)) (xs (i + 2)) (none, S') e1 rfl dL_law_342 (by omega) (by omega) (fun r5 h5 => ?_)
    have h5 : r5 = 1 := by
      obtain ⟨u5, h5⟩ := h5
      exact h5
    subst h5
    refine L_istore (pc := 345) h ((5, .int 1) :: lls b aC aM s.heap.size i) dL_law_345 (by decide) rfl ?_
    refine L_aload_n (pc := 347) h 3 dL_law_347 rfl rfl ?_
    refine L_arg (pc := 348) h 1 5 1 hi hL (by decide) rfl rfl dL_law_348 dL_law_349 dL_law_351 rfl dL_law_352 dL_law_353 ?_
    refine L_arg (pc := 354) h 1 5 2 hi hL (by decide) rfl rfl dL_law_354 dL_law_355 dL_law_357 rfl dL_law_358 dL_law_359 ?_
    refine L_callM (pc := 360) h [.int (xs (i + 1)), .int (xs (i + 2))] [] mv_L_43 dL_law_360 rfl rfl (Nat.le_of_ble_eq_true rfl) (by omega) (by omega) (r, T') (m_house_ct (d := 100) h.2.1.2 (by decide) (xs (i + 1)) (xs (i + 2)) T (r, T') e2) ?_
    refine L_istore (pc := 363) h ((6, .int r) :: (5, .int 1) :: lls b aC aM s.heap.size i) dL_law_363 (by decide) rfl ?_
    refine L_aload_n (pc := 365) h 4 dL_law_365 rfl rfl ?_
    refine L_callM (pc := 366) h [] [] mv_L_44 dL_law_366 rfl rfl (Nat.le_of_ble_eq_true rfl) (by omega) (by omega) (T' 0 0, T') (m_thrown_ct (d := 100) h.2.1.2 (by decide) T' (T' 0 0, T') rfl) ?_
    refine L_iload (pc := 369) h 1 dL_law_369 rfl ?_
    refine L_eq (pc := 371) h 376 dL_law_371 (by decide) (show T' 0 0 = 1 from e3) ?_
    refine L_iload (pc := 376) h 1 dL_law_376 rfl ?_
    refine L_if_ne1 (pc := 378) h 393 dL_law_378 (by decide) (by decide) ?_
    exact L_goto (pc := 393) h 1234 dL_law_393 (by decide) (LV_sub [2, 3, 4, 5, 6] rfl (LV_free (fun _ _ => trivial) (J S' T' hR')))
end CASES
