/-! the law: one call of each side, and the loop -/
def Scr (X : Amb) (b L : Nat) (xs : Nat → Int32) : Prop := match X with
  | (_, _, _, s, _, _, _, _, _, _, _, _, A, nL) => va_X b L xs s s.heap ∧ b < s.heap.size ∧ ¬ A b ∧ nL = 4
section LAWR
variable {S : List Shp} {ad : Nat → Nat} {G : Gh} {X : Amb} {cc : ByteArray} {own : String} {fr lo pc pc' b L : Nat} {xs : Nat → Int32} {Lc : List (Nat × Value)} {st : List Value} {u : Mem}
theorem V_sld (C : Cx ad G X cc own fr lo) (Z : Scr X b L xs) {i : Int32} (hin : vp_in i L) (hd : decode cc pc = .ok (.iaload, 1)) (hp : pc + 1 = pc') (h : V S ad G X pc' Lc (.int (xs i.toNatClampNeg) :: st) u) : V S ad G X pc Lc (.int i :: .ref b :: st) u := by
  obtain ⟨l, cy, D⟩ := G
  obtain ⟨p, e, R, s, m, args, below, meth, c, cells, slots, Q, A, nL⟩ := X
  obtain ⟨hx, hb, hml, hown, hts, hK, hG, hi, hA, hc, hs, hfr, hlo⟩ := C
  obtain ⟨z1, z2, z3, -⟩ := Z
  subst hp
  exact fun hSn H locs ls hP hS hl => va_sld hx hb z1 z2 z3 hS hin hd (h hSn H locs ls hP hS hl)
theorem V_slnL (C : Cx ad G X cc own fr lo) (Z : Scr X b L xs) (hd : decode cc pc = .ok (.arraylength, 1)) (hp : pc + 1 = pc') (h : V S ad G X pc' Lc (.int (nI L) :: st) u) : V S ad G X pc Lc (.ref b :: st) u := by
  obtain ⟨l, cy, D⟩ := G
  obtain ⟨p, e, R, s, m, args, below, meth, c, cells, slots, Q, A, nL⟩ := X
  obtain ⟨hx, hb, hml, hown, hts, hK, hG, hi, hA, hc, hs, hfr, hlo⟩ := C
  obtain ⟨z1, z2, z3, -⟩ := Z
  subst hp
  exact fun hSn H locs ls hP hS hl => va_slen hx hb z1 z2 z3 hS hd (h hSn H locs ls hP hS hl)
theorem V_sarg (C : Cx ad G X cc own fr lo) (Z : Scr X b L xs) {i k : Int32} {n : Int} (e0 : Lc[3]? = some (0, .ref b)) (e3 : Lc[0]? = some (3, .int i)) (d0 : decode cc pc = .ok (.aload_n 0, 1)) (d1 : decode cc (pc + 1) = .ok (.iload_n 3, 1)) (d2 : decode cc (pc + 2) = .ok (.iconst n, 1)) (d3 : decode cc (pc + 3) = .ok (.iadd, 1)) (d4 : decode cc (pc + 4) = .ok (.iaload, 1)) (hk : Int32.ofInt n = k) (hin : vp_in (i + k) L) (hp : pc + 5 = pc') (h : V S ad G X pc' Lc (.int (xs (i + k).toNatClampNeg) :: st) u) : V S ad G X pc Lc st u := by
  refine V_aload_n C 3 d0 rfl rfl e0 ?_
  refine V_iload_n C 0 d1 rfl rfl e3 ?_
  refine V_iconst C d2 rfl hk ?_
  refine V_iadd C d3 rfl ?_
  exact V_sld C Z hin d4 hp h
end LAWR
abbrev lwL (b : Nat) (ad : Nat → Nat) (i : Int32) : List (Nat × Value) := [(3, .int i), (2, .ref (ad 116)), (1, .ref (ad 0)), (0, .ref b)]
def lwIn (i : Int32) (L : Nat) : Prop := vp_in i L ∧ vp_in (i + 1) L ∧ vp_in (i + 2) L ∧ vp_in (i + 3) L ∧ vp_in (i + 4) L ∧ vp_in (i + 5) L
section LAW
variable {ad : Nat → Nat} {G : Gh} {X : Amb} {b L : Nat} {xs : Nat → Int32} {u : Mem} {i : Int32}
theorem lw_c0 (C : Cx ad G X cL_law "CarryFairLaw" 13 480) (Z : Scr X b L xs) (hin : lwIn i L) (hI : Inv u) (hgo : ∀ u, Inv u → V shs ad G X 1771 (lwL b ad i) [] u) : V shs ad G X 244 (lwL b ad i) [] u := by
  obtain ⟨x, u1, u2, hf, hg, hI2⟩ := s_carrier hI (xs (i + 1).toNatClampNeg)
  refine V_aload_n C 2 dL_law_244 rfl rfl rfl ?_
  refine V_sarg C Z (k := 1) rfl rfl dL_law_245 dL_law_246 dL_law_247 dL_law_248 dL_law_249 rfl hin.2.1 rfl ?_
  refine V_cVi C (b := 0) (As := [.int (xs (i + 1).toNatClampNeg)]) (st := []) cf9 rfl M_X9_carrier (show Cond.methodLink "CarryFairLaw" 13 yX9_carrier ∈ BW from bw 389 (by decide +kernel) (by decide +kernel)) ⟨by decide, by decide⟩ rfl rfl (Nat.le_of_ble_eq_true rfl) dL_law_250 rfl (kX9_carrier hf) ?_
  refine V_aload_n C 1 dL_law_253 rfl rfl rfl ?_
  refine V_sarg C Z (k := 1) rfl rfl dL_law_254 dL_law_255 dL_law_256 dL_law_257 dL_law_258 rfl hin.2.1 rfl ?_
  refine V_cVi C (b := 116) (As := [.int (xs (i + 1).toNatClampNeg)]) (st := [.int x]) cf10 rfl M_X10_carrier (show Cond.methodLink "CarryFairLaw" 17 yX10_carrier ∈ BW from bw 1173 (by decide +kernel) (by decide +kernel)) ⟨by decide, by decide⟩ rfl rfl (Nat.le_of_ble_eq_true rfl) dL_law_259 rfl (kX10_carrier hg) ?_
  exact V_icmp_eq C dL_law_262 (tgt := 1771) rfl rfl (fun _ => hgo _ hI2) (fun z => absurd rfl z)
theorem lw_c1 (C : Cx ad G X cL_law "CarryFairLaw" 13 480) (Z : Scr X b L xs) (hin : lwIn i L) (hI : Inv u) (hgo : ∀ u, Inv u → V shs ad G X 1771 (lwL b ad i) [] u) : V shs ad G X 267 (lwL b ad i) [] u := by
  obtain ⟨x, u1, u2, hf, hg, hI2⟩ := s_of hI (xs (i + 1).toNatClampNeg) (xs (i + 2).toNatClampNeg)
  refine V_aload_n C 2 dL_law_267 rfl rfl rfl ?_
  refine V_sarg C Z (k := 1) rfl rfl dL_law_268 dL_law_269 dL_law_270 dL_law_271 dL_law_272 rfl hin.2.1 rfl ?_
  refine V_sarg C Z (k := 2) rfl rfl dL_law_273 dL_law_274 dL_law_275 dL_law_276 dL_law_277 rfl hin.2.2.1 rfl ?_
  refine V_cVi C (b := 0) (As := [.int (xs (i + 1).toNatClampNeg), .int (xs (i + 2).toNatClampNeg)]) (st := []) cf9 rfl M_X9_of (show Cond.methodLink "CarryFairLaw" 18 yX9_of ∈ BW from bw 406 (by decide +kernel) (by decide +kernel)) ⟨by decide, by decide⟩ rfl rfl (Nat.le_of_ble_eq_true rfl) dL_law_278 rfl (kX9_of hf) ?_
  refine V_aload_n C 1 dL_law_281 rfl rfl rfl ?_
  refine V_sarg C Z (k := 1) rfl rfl dL_law_282 dL_law_283 dL_law_284 dL_law_285 dL_law_286 rfl hin.2.1 rfl ?_
  refine V_sarg C Z (k := 2) rfl rfl dL_law_287 dL_law_288 dL_law_289 dL_law_290 dL_law_291 rfl hin.2.2.1 rfl ?_
  refine V_cVi C (b := 116) (As := [.int (xs (i + 1).toNatClampNeg), .int (xs (i + 2).toNatClampNeg)]) (st := [.int x]) cf10 rfl M_X10_of (show Cond.methodLink "CarryFairLaw" 22 yX10_of ∈ BW from bw 1196 (by decide +kernel) (by decide +kernel)) ⟨by decide, by decide⟩ rfl rfl (Nat.le_of_ble_eq_true rfl) dL_law_292 rfl (kX10_of hg) ?_
  exact V_icmp_eq C dL_law_295 (tgt := 1771) rfl rfl (fun _ => hgo _ hI2) (fun z => absurd rfl z)
theorem lw_c2 (C : Cx ad G X cL_law "CarryFairLaw" 13 480) (Z : Scr X b L xs) (hin : lwIn i L) (hI : Inv u) (hgo : ∀ u, Inv u → V shs ad G X 1771 (lwL b ad i) [] u) : V shs ad G X 300 (lwL b ad i) [] u := by
  obtain ⟨x, u1, u2, hf, hg, hI2⟩ := s_change hI (xs (i + 1).toNatClampNeg) (xs (i + 2).toNatClampNeg) (xs (i + 3).toNatClampNeg)
  refine V_aload_n C 2 dL_law_300 rfl rfl rfl ?_
  refine V_sarg C Z (k := 1) rfl rfl dL_law_301 dL_law_302 dL_law_303 dL_law_304 dL_law_305 rfl hin.2.1 rfl ?_
  refine V_sarg C Z (k := 2) rfl rfl dL_law_306 dL_law_307 dL_law_308 dL_law_309 dL_law_310 rfl hin.2.2.1 rfl ?_
  refine V_sarg C Z (k := 3) rfl rfl dL_law_311 dL_law_312 dL_law_313 dL_law_314 dL_law_315 rfl hin.2.2.2.1 rfl ?_
  refine V_cVi C (b := 0) (As := [.int (xs (i + 1).toNatClampNeg), .int (xs (i + 2).toNatClampNeg), .int (xs (i + 3).toNatClampNeg)]) (st := []) cf9 rfl M_X9_change (show Cond.methodLink "CarryFairLaw" 23 yX9_change ∈ BW from bw 433 (by decide +kernel) (by decide +kernel)) ⟨by decide, by decide⟩ rfl rfl (Nat.le_of_ble_eq_true rfl) dL_law_316 rfl (kX9_change hf) ?_
  refine V_aload_n C 1 dL_law_319 rfl rfl rfl ?_
  refine V_sarg C Z (k := 1) rfl rfl dL_law_320 dL_law_321 dL_law_322 dL_law_323 dL_law_324 rfl hin.2.1 rfl ?_
  refine V_sarg C Z (k := 2) rfl rfl dL_law_325 dL_law_326 dL_law_327 dL_law_328 dL_law_329 rfl hin.2.2.1 rfl ?_
  refine V_sarg C Z (k := 3) rfl rfl dL_law_330 dL_law_331 dL_law_332 dL_law_333 dL_law_334 rfl hin.2.2.2.1 rfl ?_
  refine V_cVi C (b := 116) (As := [.int (xs (i + 1).toNatClampNeg), .int (xs (i + 2).toNatClampNeg), .int (xs (i + 3).toNatClampNeg)]) (st := [.int x]) cf10 rfl M_X10_change (show Cond.methodLink "CarryFairLaw" 27 yX10_change ∈ BW from bw 1236 (by decide +kernel) (by decide +kernel)) ⟨by decide, by decide⟩ rfl rfl (Nat.le_of_ble_eq_true rfl) dL_law_335 rfl (kX10_change hg) ?_
  exact V_icmp_eq C dL_law_338 (tgt := 1771) rfl rfl (fun _ => hgo _ hI2) (fun z => absurd rfl z)
theorem lw_c3 (C : Cx ad G X cL_law "CarryFairLaw" 13 480) (Z : Scr X b L xs) (hin : lwIn i L) (hI : Inv u) (hgo : ∀ u, Inv u → V shs ad G X 1771 (lwL b ad i) [] u) : V shs ad G X 343 (lwL b ad i) [] u := by
  obtain ⟨x, u1, u2, hf, hg, hI2⟩ := s_way hI (xs (i + 1).toNatClampNeg) (xs (i + 2).toNatClampNeg) (xs (i + 3).toNatClampNeg) (xs (i + 4).toNatClampNeg)
  refine V_aload_n C 2 dL_law_343 rfl rfl rfl ?_
  refine V_sarg C Z (k := 1) rfl rfl dL_law_344 dL_law_345 dL_law_346 dL_law_347 dL_law_348 rfl hin.2.1 rfl ?_
  refine V_sarg C Z (k := 2) rfl rfl dL_law_349 dL_law_350 dL_law_351 dL_law_352 dL_law_353 rfl hin.2.2.1 rfl ?_
  refine V_sarg C Z (k := 3) rfl rfl dL_law_354 dL_law_355 dL_law_356 dL_law_357 dL_law_358 rfl hin.2.2.2.1 rfl ?_
  refine V_sarg C Z (k := 4) rfl rfl dL_law_359 dL_law_360 dL_law_361 dL_law_362 dL_law_363 rfl hin.2.2.2.2.1 rfl ?_
  refine V_cVi C (b := 0) (As := [.int (xs (i + 1).toNatClampNeg), .int (xs (i + 2).toNatClampNeg), .int (xs (i + 3).toNatClampNeg), .int (xs (i + 4).toNatClampNeg)]) (st := []) cf9 rfl M_X9_way (show Cond.methodLink "CarryFairLaw" 28 yX9_way ∈ BW from bw 444 (by decide +kernel) (by decide +kernel)) ⟨by decide, by decide⟩ rfl rfl (Nat.le_of_ble_eq_true rfl) dL_law_364 rfl (kX9_way hf) ?_
  refine V_aload_n C 1 dL_law_367 rfl rfl rfl ?_
  refine V_sarg C Z (k := 1) rfl rfl dL_law_368 dL_law_369 dL_law_370 dL_law_371 dL_law_372 rfl hin.2.1 rfl ?_
  refine V_sarg C Z (k := 2) rfl rfl dL_law_373 dL_law_374 dL_law_375 dL_law_376 dL_law_377 rfl hin.2.2.1 rfl ?_
  refine V_sarg C Z (k := 3) rfl rfl dL_law_378 dL_law_379 dL_law_380 dL_law_381 dL_law_382 rfl hin.2.2.2.1 rfl ?_
  refine V_sarg C Z (k := 4) rfl rfl dL_law_383 dL_law_384 dL_law_385 dL_law_386 dL_law_387 rfl hin.2.2.2.2.1 rfl ?_
  refine V_cVi C (b := 116) (As := [.int (xs (i + 1).toNatClampNeg), .int (xs (i + 2).toNatClampNeg), .int (xs (i + 3).toNatClampNeg), .int (xs (i + 4).toNatClampNeg)]) (st := [.int x]) cf10 rfl M_X10_way (show Cond.methodLink "CarryFairLaw" 32 yX10_way ∈ BW from bw 1248 (by decide +kernel) (by decide +kernel)) ⟨by decide, by decide⟩ rfl rfl (Nat.le_of_ble_eq_true rfl) dL_law_388 rfl (kX10_way hg) ?_
  exact V_icmp_eq C dL_law_391 (tgt := 1771) rfl rfl (fun _ => hgo _ hI2) (fun z => absurd rfl z)
theorem lw_c4 (C : Cx ad G X cL_law "CarryFairLaw" 13 480) (Z : Scr X b L xs) (hin : lwIn i L) (hI : Inv u) (hgo : ∀ u, Inv u → V shs ad G X 1771 (lwL b ad i) [] u) : V shs ad G X 396 (lwL b ad i) [] u := by
  obtain ⟨x, u1, u2, hf, hg, hI2⟩ := s_wayOf hI (xs (i + 1).toNatClampNeg) (xs (i + 2).toNatClampNeg) (xs (i + 3).toNatClampNeg)
  refine V_aload_n C 2 dL_law_396 rfl rfl rfl ?_
  refine V_sarg C Z (k := 1) rfl rfl dL_law_397 dL_law_398 dL_law_399 dL_law_400 dL_law_401 rfl hin.2.1 rfl ?_
  refine V_sarg C Z (k := 2) rfl rfl dL_law_402 dL_law_403 dL_law_404 dL_law_405 dL_law_406 rfl hin.2.2.1 rfl ?_
  refine V_sarg C Z (k := 3) rfl rfl dL_law_407 dL_law_408 dL_law_409 dL_law_410 dL_law_411 rfl hin.2.2.2.1 rfl ?_
  refine V_cVi C (b := 0) (As := [.int (xs (i + 1).toNatClampNeg), .int (xs (i + 2).toNatClampNeg), .int (xs (i + 3).toNatClampNeg)]) (st := []) cf9 rfl M_X9_wayOf (show Cond.methodLink "CarryFairLaw" 33 yX9_wayOf ∈ BW from bw 460 (by decide +kernel) (by decide +kernel)) ⟨by decide, by decide⟩ rfl rfl (Nat.le_of_ble_eq_true rfl) dL_law_412 rfl (kX9_wayOf hf) ?_
  refine V_aload_n C 1 dL_law_415 rfl rfl rfl ?_
  refine V_sarg C Z (k := 1) rfl rfl dL_law_416 dL_law_417 dL_law_418 dL_law_419 dL_law_420 rfl hin.2.1 rfl ?_
  refine V_sarg C Z (k := 2) rfl rfl dL_law_421 dL_law_422 dL_law_423 dL_law_424 dL_law_425 rfl hin.2.2.1 rfl ?_
  refine V_sarg C Z (k := 3) rfl rfl dL_law_426 dL_law_427 dL_law_428 dL_law_429 dL_law_430 rfl hin.2.2.2.1 rfl ?_
  refine V_cVi C (b := 116) (As := [.int (xs (i + 1).toNatClampNeg), .int (xs (i + 2).toNatClampNeg), .int (xs (i + 3).toNatClampNeg)]) (st := [.int x]) cf10 rfl M_X10_wayOf (show Cond.methodLink "CarryFairLaw" 36 yX10_wayOf ∈ BW from bw 1261 (by decide +kernel) (by decide +kernel)) ⟨by decide, by decide⟩ rfl rfl (Nat.le_of_ble_eq_true rfl) dL_law_431 rfl (kX10_wayOf hg) ?_
  exact V_icmp_eq C dL_law_434 (tgt := 1771) rfl rfl (fun _ => hgo _ hI2) (fun z => absurd rfl z)
theorem lw_c5 (C : Cx ad G X cL_law "CarryFairLaw" 13 480) (Z : Scr X b L xs) (hin : lwIn i L) (hI : Inv u) (hgo : ∀ u, Inv u → V shs ad G X 1771 (lwL b ad i) [] u) : V shs ad G X 439 (lwL b ad i) [] u := by
  obtain ⟨x, u1, u2, hf, hg, hI2⟩ := s_errand hI (xs (i + 1).toNatClampNeg) (xs (i + 2).toNatClampNeg) (xs (i + 3).toNatClampNeg)
  refine V_aload_n C 2 dL_law_439 rfl rfl rfl ?_
  refine V_sarg C Z (k := 1) rfl rfl dL_law_440 dL_law_441 dL_law_442 dL_law_443 dL_law_444 rfl hin.2.1 rfl ?_
  refine V_sarg C Z (k := 2) rfl rfl dL_law_445 dL_law_446 dL_law_447 dL_law_448 dL_law_449 rfl hin.2.2.1 rfl ?_
  refine V_sarg C Z (k := 3) rfl rfl dL_law_450 dL_law_451 dL_law_452 dL_law_453 dL_law_454 rfl hin.2.2.2.1 rfl ?_
  refine V_cVi C (b := 0) (As := [.int (xs (i + 1).toNatClampNeg), .int (xs (i + 2).toNatClampNeg), .int (xs (i + 3).toNatClampNeg)]) (st := []) cf9 rfl M_X9_errand (show Cond.methodLink "CarryFairLaw" 37 yX9_errand ∈ BW from bw 468 (by decide +kernel) (by decide +kernel)) ⟨by decide, by decide⟩ rfl rfl (Nat.le_of_ble_eq_true rfl) dL_law_455 rfl (kX9_errand hf) ?_
  refine V_aload_n C 1 dL_law_458 rfl rfl rfl ?_
  refine V_sarg C Z (k := 1) rfl rfl dL_law_459 dL_law_460 dL_law_461 dL_law_462 dL_law_463 rfl hin.2.1 rfl ?_
  refine V_sarg C Z (k := 2) rfl rfl dL_law_464 dL_law_465 dL_law_466 dL_law_467 dL_law_468 rfl hin.2.2.1 rfl ?_
  refine V_sarg C Z (k := 3) rfl rfl dL_law_469 dL_law_470 dL_law_471 dL_law_472 dL_law_473 rfl hin.2.2.2.1 rfl ?_
  refine V_cVi C (b := 116) (As := [.int (xs (i + 1).toNatClampNeg), .int (xs (i + 2).toNatClampNeg), .int (xs (i + 3).toNatClampNeg)]) (st := [.int x]) cf10 rfl M_X10_errand (show Cond.methodLink "CarryFairLaw" 40 yX10_errand ∈ BW from bw 1265 (by decide +kernel) (by decide +kernel)) ⟨by decide, by decide⟩ rfl rfl (Nat.le_of_ble_eq_true rfl) dL_law_474 rfl (kX10_errand hg) ?_
  exact V_icmp_eq C dL_law_477 (tgt := 1771) rfl rfl (fun _ => hgo _ hI2) (fun z => absurd rfl z)
theorem lw_c6 (C : Cx ad G X cL_law "CarryFairLaw" 13 480) (Z : Scr X b L xs) (hin : lwIn i L) (hI : Inv u) (hgo : ∀ u, Inv u → V shs ad G X 1771 (lwL b ad i) [] u) : V shs ad G X 482 (lwL b ad i) [] u := by
  obtain ⟨x, u1, u2, hf, hg, hI2⟩ := s_errandOf hI (xs (i + 1).toNatClampNeg) (xs (i + 2).toNatClampNeg)
  refine V_aload_n C 2 dL_law_482 rfl rfl rfl ?_
  refine V_sarg C Z (k := 1) rfl rfl dL_law_483 dL_law_484 dL_law_485 dL_law_486 dL_law_487 rfl hin.2.1 rfl ?_
  refine V_sarg C Z (k := 2) rfl rfl dL_law_488 dL_law_489 dL_law_490 dL_law_491 dL_law_492 rfl hin.2.2.1 rfl ?_
  refine V_cVi C (b := 0) (As := [.int (xs (i + 1).toNatClampNeg), .int (xs (i + 2).toNatClampNeg)]) (st := []) cf9 rfl M_X9_errandOf (show Cond.methodLink "CarryFairLaw" 41 yX9_errandOf ∈ BW from bw 476 (by decide +kernel) (by decide +kernel)) ⟨by decide, by decide⟩ rfl rfl (Nat.le_of_ble_eq_true rfl) dL_law_493 rfl (kX9_errandOf hf) ?_
  refine V_aload_n C 1 dL_law_496 rfl rfl rfl ?_
  refine V_sarg C Z (k := 1) rfl rfl dL_law_497 dL_law_498 dL_law_499 dL_law_500 dL_law_501 rfl hin.2.1 rfl ?_
  refine V_sarg C Z (k := 2) rfl rfl dL_law_502 dL_law_503 dL_law_504 dL_law_505 dL_law_506 rfl hin.2.2.1 rfl ?_
  refine V_cVi C (b := 116) (As := [.int (xs (i + 1).toNatClampNeg), .int (xs (i + 2).toNatClampNeg)]) (st := [.int x]) cf10 rfl M_X10_errandOf (show Cond.methodLink "CarryFairLaw" 44 yX10_errandOf ∈ BW from bw 1273 (by decide +kernel) (by decide +kernel)) ⟨by decide, by decide⟩ rfl rfl (Nat.le_of_ble_eq_true rfl) dL_law_507 rfl (kX10_errandOf hg) ?_
  exact V_icmp_eq C dL_law_510 (tgt := 1771) rfl rfl (fun _ => hgo _ hI2) (fun z => absurd rfl z)
theorem lw_c7 (C : Cx ad G X cL_law "CarryFairLaw" 13 480) (Z : Scr X b L xs) (hin : lwIn i L) (hI : Inv u) (hgo : ∀ u, Inv u → V shs ad G X 1771 (lwL b ad i) [] u) : V shs ad G X 515 (lwL b ad i) [] u := by
  obtain ⟨x, u1, u2, hf, hg, hI2⟩ := s_ware hI (xs (i + 1).toNatClampNeg)
  refine V_aload_n C 2 dL_law_515 rfl rfl rfl ?_
  refine V_sarg C Z (k := 1) rfl rfl dL_law_516 dL_law_517 dL_law_518 dL_law_519 dL_law_520 rfl hin.2.1 rfl ?_
  refine V_cVi C (b := 0) (As := [.int (xs (i + 1).toNatClampNeg)]) (st := []) cf9 rfl M_X9_ware (show Cond.methodLink "CarryFairLaw" 45 yX9_ware ∈ BW from bw 501 (by decide +kernel) (by decide +kernel)) ⟨by decide, by decide⟩ rfl rfl (Nat.le_of_ble_eq_true rfl) dL_law_521 rfl (kX9_ware hf) ?_
  refine V_aload_n C 1 dL_law_524 rfl rfl rfl ?_
  refine V_sarg C Z (k := 1) rfl rfl dL_law_525 dL_law_526 dL_law_527 dL_law_528 dL_law_529 rfl hin.2.1 rfl ?_
  refine V_cVi C (b := 116) (As := [.int (xs (i + 1).toNatClampNeg)]) (st := [.int x]) cf10 rfl M_X10_ware (show Cond.methodLink "CarryFairLaw" 48 yX10_ware ∈ BW from bw 1299 (by decide +kernel) (by decide +kernel)) ⟨by decide, by decide⟩ rfl rfl (Nat.le_of_ble_eq_true rfl) dL_law_530 rfl (kX10_ware hg) ?_
  exact V_icmp_eq C dL_law_533 (tgt := 1771) rfl rfl (fun _ => hgo _ hI2) (fun z => absurd rfl z)
theorem lw_c8 (C : Cx ad G X cL_law "CarryFairLaw" 13 480) (Z : Scr X b L xs) (hin : lwIn i L) (hI : Inv u) (hgo : ∀ u, Inv u → V shs ad G X 1771 (lwL b ad i) [] u) : V shs ad G X 538 (lwL b ad i) [] u := by
  obtain ⟨x, u1, u2, hf, hg, hI2⟩ := s_wareOf hI (xs (i + 1).toNatClampNeg) (xs (i + 2).toNatClampNeg)
  refine V_aload_n C 2 dL_law_538 rfl rfl rfl ?_
  refine V_sarg C Z (k := 1) rfl rfl dL_law_539 dL_law_540 dL_law_541 dL_law_542 dL_law_543 rfl hin.2.1 rfl ?_
  refine V_sarg C Z (k := 2) rfl rfl dL_law_544 dL_law_545 dL_law_546 dL_law_547 dL_law_548 rfl hin.2.2.1 rfl ?_
  refine V_cVi C (b := 0) (As := [.int (xs (i + 1).toNatClampNeg), .int (xs (i + 2).toNatClampNeg)]) (st := []) cf9 rfl M_X9_wareOf (show Cond.methodLink "CarryFairLaw" 49 yX9_wareOf ∈ BW from bw 509 (by decide +kernel) (by decide +kernel)) ⟨by decide, by decide⟩ rfl rfl (Nat.le_of_ble_eq_true rfl) dL_law_549 rfl (kX9_wareOf hf) ?_
  refine V_aload_n C 1 dL_law_552 rfl rfl rfl ?_
  refine V_sarg C Z (k := 1) rfl rfl dL_law_553 dL_law_554 dL_law_555 dL_law_556 dL_law_557 rfl hin.2.1 rfl ?_
  refine V_sarg C Z (k := 2) rfl rfl dL_law_558 dL_law_559 dL_law_560 dL_law_561 dL_law_562 rfl hin.2.2.1 rfl ?_
  refine V_cVi C (b := 116) (As := [.int (xs (i + 1).toNatClampNeg), .int (xs (i + 2).toNatClampNeg)]) (st := [.int x]) cf10 rfl M_X10_wareOf (show Cond.methodLink "CarryFairLaw" 52 yX10_wareOf ∈ BW from bw 1310 (by decide +kernel) (by decide +kernel)) ⟨by decide, by decide⟩ rfl rfl (Nat.le_of_ble_eq_true rfl) dL_law_563 rfl (kX10_wareOf hg) ?_
  exact V_icmp_eq C dL_law_566 (tgt := 1771) rfl rfl (fun _ => hgo _ hI2) (fun z => absurd rfl z)
theorem lw_c9 (C : Cx ad G X cL_law "CarryFairLaw" 13 480) (Z : Scr X b L xs) (hin : lwIn i L) (hI : Inv u) (hgo : ∀ u, Inv u → V shs ad G X 1771 (lwL b ad i) [] u) : V shs ad G X 571 (lwL b ad i) [] u := by
  obtain ⟨x, u1, u2, hf, hg, hI2⟩ := s_far hI (xs (i + 1).toNatClampNeg) (xs (i + 2).toNatClampNeg) (xs (i + 3).toNatClampNeg)
  refine V_aload_n C 2 dL_law_571 rfl rfl rfl ?_
  refine V_sarg C Z (k := 1) rfl rfl dL_law_572 dL_law_573 dL_law_574 dL_law_575 dL_law_576 rfl hin.2.1 rfl ?_
  refine V_sarg C Z (k := 2) rfl rfl dL_law_577 dL_law_578 dL_law_579 dL_law_580 dL_law_581 rfl hin.2.2.1 rfl ?_
  refine V_sarg C Z (k := 3) rfl rfl dL_law_582 dL_law_583 dL_law_584 dL_law_585 dL_law_586 rfl hin.2.2.2.1 rfl ?_
  refine V_cVi C (b := 0) (As := [.int (xs (i + 1).toNatClampNeg), .int (xs (i + 2).toNatClampNeg), .int (xs (i + 3).toNatClampNeg)]) (st := []) cf9 rfl M_X9_far (show Cond.methodLink "CarryFairLaw" 53 yX9_far ∈ BW from bw 517 (by decide +kernel) (by decide +kernel)) ⟨by decide, by decide⟩ rfl rfl (Nat.le_of_ble_eq_true rfl) dL_law_587 rfl (kX9_far hf) ?_
  refine V_aload_n C 1 dL_law_590 rfl rfl rfl ?_
  refine V_sarg C Z (k := 1) rfl rfl dL_law_591 dL_law_592 dL_law_593 dL_law_594 dL_law_595 rfl hin.2.1 rfl ?_
  refine V_sarg C Z (k := 2) rfl rfl dL_law_596 dL_law_597 dL_law_598 dL_law_599 dL_law_600 rfl hin.2.2.1 rfl ?_
  refine V_sarg C Z (k := 3) rfl rfl dL_law_601 dL_law_602 dL_law_603 dL_law_604 dL_law_605 rfl hin.2.2.2.1 rfl ?_
  refine V_cVi C (b := 116) (As := [.int (xs (i + 1).toNatClampNeg), .int (xs (i + 2).toNatClampNeg), .int (xs (i + 3).toNatClampNeg)]) (st := [.int x]) cf10 rfl M_X10_far (show Cond.methodLink "CarryFairLaw" 56 yX10_far ∈ BW from bw 1318 (by decide +kernel) (by decide +kernel)) ⟨by decide, by decide⟩ rfl rfl (Nat.le_of_ble_eq_true rfl) dL_law_606 rfl (kX10_far hg) ?_
  exact V_icmp_eq C dL_law_609 (tgt := 1771) rfl rfl (fun _ => hgo _ hI2) (fun z => absurd rfl z)
theorem lw_c10 (C : Cx ad G X cL_law "CarryFairLaw" 13 480) (Z : Scr X b L xs) (hin : lwIn i L) (hI : Inv u) (hgo : ∀ u, Inv u → V shs ad G X 1771 (lwL b ad i) [] u) : V shs ad G X 614 (lwL b ad i) [] u := by
  obtain ⟨x, u1, u2, hf, hg, hI2⟩ := s_first hI (xs (i + 1).toNatClampNeg) (xs (i + 2).toNatClampNeg)
  refine V_aload_n C 2 dL_law_614 rfl rfl rfl ?_
  refine V_sarg C Z (k := 1) rfl rfl dL_law_615 dL_law_616 dL_law_617 dL_law_618 dL_law_619 rfl hin.2.1 rfl ?_
  refine V_sarg C Z (k := 2) rfl rfl dL_law_620 dL_law_621 dL_law_622 dL_law_623 dL_law_624 rfl hin.2.2.1 rfl ?_
  refine V_cVi C (b := 0) (As := [.int (xs (i + 1).toNatClampNeg), .int (xs (i + 2).toNatClampNeg)]) (st := []) cf9 rfl M_X9_first (show Cond.methodLink "CarryFairLaw" 57 yX9_first ∈ BW from bw 522 (by decide +kernel) (by decide +kernel)) ⟨by decide, by decide⟩ rfl rfl (Nat.le_of_ble_eq_true rfl) dL_law_625 rfl (kX9_first hf) ?_
  refine V_aload_n C 1 dL_law_628 rfl rfl rfl ?_
  refine V_sarg C Z (k := 1) rfl rfl dL_law_629 dL_law_630 dL_law_631 dL_law_632 dL_law_633 rfl hin.2.1 rfl ?_
  refine V_sarg C Z (k := 2) rfl rfl dL_law_634 dL_law_635 dL_law_636 dL_law_637 dL_law_638 rfl hin.2.2.1 rfl ?_
  refine V_cVi C (b := 116) (As := [.int (xs (i + 1).toNatClampNeg), .int (xs (i + 2).toNatClampNeg)]) (st := [.int x]) cf10 rfl M_X10_first (show Cond.methodLink "CarryFairLaw" 60 yX10_first ∈ BW from bw 1322 (by decide +kernel) (by decide +kernel)) ⟨by decide, by decide⟩ rfl rfl (Nat.le_of_ble_eq_true rfl) dL_law_639 rfl (kX10_first hg) ?_
  exact V_icmp_eq C dL_law_642 (tgt := 1771) rfl rfl (fun _ => hgo _ hI2) (fun z => absurd rfl z)
theorem lw_c11 (C : Cx ad G X cL_law "CarryFairLaw" 13 480) (Z : Scr X b L xs) (hin : lwIn i L) (hI : Inv u) (hgo : ∀ u, Inv u → V shs ad G X 1771 (lwL b ad i) [] u) : V shs ad G X 647 (lwL b ad i) [] u := by
  obtain ⟨x, u1, u2, hf, hg, hI2⟩ := s_take hI (xs (i + 1).toNatClampNeg) (xs (i + 2).toNatClampNeg)
  refine V_aload_n C 2 dL_law_647 rfl rfl rfl ?_
  refine V_sarg C Z (k := 1) rfl rfl dL_law_648 dL_law_649 dL_law_650 dL_law_651 dL_law_652 rfl hin.2.1 rfl ?_
  refine V_sarg C Z (k := 2) rfl rfl dL_law_653 dL_law_654 dL_law_655 dL_law_656 dL_law_657 rfl hin.2.2.1 rfl ?_
  refine V_cVi C (b := 0) (As := [.int (xs (i + 1).toNatClampNeg), .int (xs (i + 2).toNatClampNeg)]) (st := []) cf9 rfl M_X9_take (show Cond.methodLink "CarryFairLaw" 61 yX9_take ∈ BW from bw 531 (by decide +kernel) (by decide +kernel)) ⟨by decide, by decide⟩ rfl rfl (Nat.le_of_ble_eq_true rfl) dL_law_658 rfl (kX9_take hf) ?_
  refine V_aload_n C 1 dL_law_661 rfl rfl rfl ?_
  refine V_sarg C Z (k := 1) rfl rfl dL_law_662 dL_law_663 dL_law_664 dL_law_665 dL_law_666 rfl hin.2.1 rfl ?_
  refine V_sarg C Z (k := 2) rfl rfl dL_law_667 dL_law_668 dL_law_669 dL_law_670 dL_law_671 rfl hin.2.2.1 rfl ?_
  refine V_cVi C (b := 116) (As := [.int (xs (i + 1).toNatClampNeg), .int (xs (i + 2).toNatClampNeg)]) (st := [.int x]) cf10 rfl M_X10_take (show Cond.methodLink "CarryFairLaw" 64 yX10_take ∈ BW from bw 1326 (by decide +kernel) (by decide +kernel)) ⟨by decide, by decide⟩ rfl rfl (Nat.le_of_ble_eq_true rfl) dL_law_672 rfl (kX10_take hg) ?_
  exact V_icmp_eq C dL_law_675 (tgt := 1771) rfl rfl (fun _ => hgo _ hI2) (fun z => absurd rfl z)
theorem lw_c12 (C : Cx ad G X cL_law "CarryFairLaw" 13 480) (Z : Scr X b L xs) (hin : lwIn i L) (hI : Inv u) (hgo : ∀ u, Inv u → V shs ad G X 1771 (lwL b ad i) [] u) : V shs ad G X 680 (lwL b ad i) [] u := by
  obtain ⟨x, u1, u2, hf, hg, hI2⟩ := s_drop hI (xs (i + 1).toNatClampNeg) (xs (i + 2).toNatClampNeg)
  refine V_aload_n C 2 dL_law_680 rfl rfl rfl ?_
  refine V_sarg C Z (k := 1) rfl rfl dL_law_681 dL_law_682 dL_law_683 dL_law_684 dL_law_685 rfl hin.2.1 rfl ?_
  refine V_sarg C Z (k := 2) rfl rfl dL_law_686 dL_law_687 dL_law_688 dL_law_689 dL_law_690 rfl hin.2.2.1 rfl ?_
  refine V_cVi C (b := 0) (As := [.int (xs (i + 1).toNatClampNeg), .int (xs (i + 2).toNatClampNeg)]) (st := []) cf9 rfl M_X9_drop (show Cond.methodLink "CarryFairLaw" 65 yX9_drop ∈ BW from bw 551 (by decide +kernel) (by decide +kernel)) ⟨by decide, by decide⟩ rfl rfl (Nat.le_of_ble_eq_true rfl) dL_law_691 rfl (kX9_drop hf) ?_
  refine V_aload_n C 1 dL_law_694 rfl rfl rfl ?_
  refine V_sarg C Z (k := 1) rfl rfl dL_law_695 dL_law_696 dL_law_697 dL_law_698 dL_law_699 rfl hin.2.1 rfl ?_
  refine V_sarg C Z (k := 2) rfl rfl dL_law_700 dL_law_701 dL_law_702 dL_law_703 dL_law_704 rfl hin.2.2.1 rfl ?_
  refine V_cVi C (b := 116) (As := [.int (xs (i + 1).toNatClampNeg), .int (xs (i + 2).toNatClampNeg)]) (st := [.int x]) cf10 rfl M_X10_drop (show Cond.methodLink "CarryFairLaw" 68 yX10_drop ∈ BW from bw 1343 (by decide +kernel) (by decide +kernel)) ⟨by decide, by decide⟩ rfl rfl (Nat.le_of_ble_eq_true rfl) dL_law_705 rfl (kX10_drop hg) ?_
  exact V_icmp_eq C dL_law_708 (tgt := 1771) rfl rfl (fun _ => hgo _ hI2) (fun z => absurd rfl z)
theorem lw_c13 (C : Cx ad G X cL_law "CarryFairLaw" 13 480) (Z : Scr X b L xs) (hin : lwIn i L) (hI : Inv u) (hgo : ∀ u, Inv u → V shs ad G X 1771 (lwL b ad i) [] u) : V shs ad G X 713 (lwL b ad i) [] u := by
  obtain ⟨x, u1, u2, hf, hg, hI2⟩ := s_walk hI (xs (i + 1).toNatClampNeg) (xs (i + 2).toNatClampNeg)
  refine V_aload_n C 2 dL_law_713 rfl rfl rfl ?_
  refine V_sarg C Z (k := 1) rfl rfl dL_law_714 dL_law_715 dL_law_716 dL_law_717 dL_law_718 rfl hin.2.1 rfl ?_
  refine V_sarg C Z (k := 2) rfl rfl dL_law_719 dL_law_720 dL_law_721 dL_law_722 dL_law_723 rfl hin.2.2.1 rfl ?_
  refine V_cVi C (b := 0) (As := [.int (xs (i + 1).toNatClampNeg), .int (xs (i + 2).toNatClampNeg)]) (st := []) cf9 rfl M_X9_walk (show Cond.methodLink "CarryFairLaw" 69 yX9_walk ∈ BW from bw 555 (by decide +kernel) (by decide +kernel)) ⟨by decide, by decide⟩ rfl rfl (Nat.le_of_ble_eq_true rfl) dL_law_724 rfl (kX9_walk hf) ?_
  refine V_aload_n C 1 dL_law_727 rfl rfl rfl ?_
  refine V_sarg C Z (k := 1) rfl rfl dL_law_728 dL_law_729 dL_law_730 dL_law_731 dL_law_732 rfl hin.2.1 rfl ?_
  refine V_sarg C Z (k := 2) rfl rfl dL_law_733 dL_law_734 dL_law_735 dL_law_736 dL_law_737 rfl hin.2.2.1 rfl ?_
  refine V_cVi C (b := 116) (As := [.int (xs (i + 1).toNatClampNeg), .int (xs (i + 2).toNatClampNeg)]) (st := [.int x]) cf10 rfl M_X10_walk (show Cond.methodLink "CarryFairLaw" 72 yX10_walk ∈ BW from bw 1347 (by decide +kernel) (by decide +kernel)) ⟨by decide, by decide⟩ rfl rfl (Nat.le_of_ble_eq_true rfl) dL_law_738 rfl (kX10_walk hg) ?_
  exact V_icmp_eq C dL_law_741 (tgt := 1771) rfl rfl (fun _ => hgo _ hI2) (fun z => absurd rfl z)
theorem lw_c14 (C : Cx ad G X cL_law "CarryFairLaw" 13 480) (Z : Scr X b L xs) (hin : lwIn i L) (hI : Inv u) (hgo : ∀ u, Inv u → V shs ad G X 1771 (lwL b ad i) [] u) : V shs ad G X 746 (lwL b ad i) [] u := by
  obtain ⟨x, u1, u2, hf, hg, hI2⟩ := s_buy hI (xs (i + 1).toNatClampNeg) (xs (i + 2).toNatClampNeg)
  refine V_aload_n C 2 dL_law_746 rfl rfl rfl ?_
  refine V_sarg C Z (k := 1) rfl rfl dL_law_747 dL_law_748 dL_law_749 dL_law_750 dL_law_751 rfl hin.2.1 rfl ?_
  refine V_sarg C Z (k := 2) rfl rfl dL_law_752 dL_law_753 dL_law_754 dL_law_755 dL_law_756 rfl hin.2.2.1 rfl ?_
  refine V_cVi C (b := 0) (As := [.int (xs (i + 1).toNatClampNeg), .int (xs (i + 2).toNatClampNeg)]) (st := []) cf9 rfl M_X9_buy (show Cond.methodLink "CarryFairLaw" 73 yX9_buy ∈ BW from bw 576 (by decide +kernel) (by decide +kernel)) ⟨by decide, by decide⟩ rfl rfl (Nat.le_of_ble_eq_true rfl) dL_law_757 rfl (kX9_buy hf) ?_
  refine V_aload_n C 1 dL_law_760 rfl rfl rfl ?_
  refine V_sarg C Z (k := 1) rfl rfl dL_law_761 dL_law_762 dL_law_763 dL_law_764 dL_law_765 rfl hin.2.1 rfl ?_
  refine V_sarg C Z (k := 2) rfl rfl dL_law_766 dL_law_767 dL_law_768 dL_law_769 dL_law_770 rfl hin.2.2.1 rfl ?_
  refine V_cVi C (b := 116) (As := [.int (xs (i + 1).toNatClampNeg), .int (xs (i + 2).toNatClampNeg)]) (st := [.int x]) cf10 rfl M_X10_buy (show Cond.methodLink "CarryFairLaw" 76 yX10_buy ∈ BW from bw 1359 (by decide +kernel) (by decide +kernel)) ⟨by decide, by decide⟩ rfl rfl (Nat.le_of_ble_eq_true rfl) dL_law_771 rfl (kX10_buy hg) ?_
  exact V_icmp_eq C dL_law_774 (tgt := 1771) rfl rfl (fun _ => hgo _ hI2) (fun z => absurd rfl z)
theorem lw_c15 (C : Cx ad G X cL_law "CarryFairLaw" 13 480) (Z : Scr X b L xs) (hin : lwIn i L) (hI : Inv u) (hgo : ∀ u, Inv u → V shs ad G X 1771 (lwL b ad i) [] u) : V shs ad G X 779 (lwL b ad i) [] u := by
  obtain ⟨x, u1, u2, hf, hg, hI2⟩ := s_now hI (xs (i + 1).toNatClampNeg)
  refine V_aload_n C 2 dL_law_779 rfl rfl rfl ?_
  refine V_sarg C Z (k := 1) rfl rfl dL_law_780 dL_law_781 dL_law_782 dL_law_783 dL_law_784 rfl hin.2.1 rfl ?_
  refine V_cVi C (b := 0) (As := [.int (xs (i + 1).toNatClampNeg)]) (st := []) cf9 rfl M_X9_now (show Cond.methodLink "CarryFairLaw" 77 yX9_now ∈ BW from bw 580 (by decide +kernel) (by decide +kernel)) ⟨by decide, by decide⟩ rfl rfl (Nat.le_of_ble_eq_true rfl) dL_law_785 rfl (kX9_now hf) ?_
  refine V_aload_n C 1 dL_law_788 rfl rfl rfl ?_
  refine V_sarg C Z (k := 1) rfl rfl dL_law_789 dL_law_790 dL_law_791 dL_law_792 dL_law_793 rfl hin.2.1 rfl ?_
  refine V_cVi C (b := 116) (As := [.int (xs (i + 1).toNatClampNeg)]) (st := [.int x]) cf10 rfl M_X10_now (show Cond.methodLink "CarryFairLaw" 80 yX10_now ∈ BW from bw 1363 (by decide +kernel) (by decide +kernel)) ⟨by decide, by decide⟩ rfl rfl (Nat.le_of_ble_eq_true rfl) dL_law_794 rfl (kX10_now hg) ?_
  exact V_icmp_eq C dL_law_797 (tgt := 1771) rfl rfl (fun _ => hgo _ hI2) (fun z => absurd rfl z)
theorem lw_c16 (C : Cx ad G X cL_law "CarryFairLaw" 13 480) (Z : Scr X b L xs) (hin : lwIn i L) (hI : Inv u) (hgo : ∀ u, Inv u → V shs ad G X 1771 (lwL b ad i) [] u) : V shs ad G X 802 (lwL b ad i) [] u := by
  obtain ⟨x, u1, u2, hf, hg, hI2⟩ := s_round hI (xs (i + 1).toNatClampNeg) (xs (i + 2).toNatClampNeg)
  refine V_aload_n C 2 dL_law_802 rfl rfl rfl ?_
  refine V_sarg C Z (k := 1) rfl rfl dL_law_803 dL_law_804 dL_law_805 dL_law_806 dL_law_807 rfl hin.2.1 rfl ?_
  refine V_sarg C Z (k := 2) rfl rfl dL_law_808 dL_law_809 dL_law_810 dL_law_811 dL_law_812 rfl hin.2.2.1 rfl ?_
  refine V_cVi C (b := 0) (As := [.int (xs (i + 1).toNatClampNeg), .int (xs (i + 2).toNatClampNeg)]) (st := []) cf9 rfl M_X9_round (show Cond.methodLink "CarryFairLaw" 81 yX9_round ∈ BW from bw 600 (by decide +kernel) (by decide +kernel)) ⟨by decide, by decide⟩ rfl rfl (Nat.le_of_ble_eq_true rfl) dL_law_813 rfl (kX9_round hf) ?_
  refine V_aload_n C 1 dL_law_816 rfl rfl rfl ?_
  refine V_sarg C Z (k := 1) rfl rfl dL_law_817 dL_law_818 dL_law_819 dL_law_820 dL_law_821 rfl hin.2.1 rfl ?_
  refine V_sarg C Z (k := 2) rfl rfl dL_law_822 dL_law_823 dL_law_824 dL_law_825 dL_law_826 rfl hin.2.2.1 rfl ?_
  refine V_cVi C (b := 116) (As := [.int (xs (i + 1).toNatClampNeg), .int (xs (i + 2).toNatClampNeg)]) (st := [.int x]) cf10 rfl M_X10_round (show Cond.methodLink "CarryFairLaw" 84 yX10_round ∈ BW from bw 1375 (by decide +kernel) (by decide +kernel)) ⟨by decide, by decide⟩ rfl rfl (Nat.le_of_ble_eq_true rfl) dL_law_827 rfl (kX10_round hg) ?_
  exact V_icmp_eq C dL_law_830 (tgt := 1771) rfl rfl (fun _ => hgo _ hI2) (fun z => absurd rfl z)
theorem lw_c17 (C : Cx ad G X cL_law "CarryFairLaw" 13 480) (Z : Scr X b L xs) (hin : lwIn i L) (hI : Inv u) (hgo : ∀ u, Inv u → V shs ad G X 1771 (lwL b ad i) [] u) : V shs ad G X 835 (lwL b ad i) [] u := by
  obtain ⟨x, u1, u2, hf, hg, hI2⟩ := s_gets hI (xs (i + 1).toNatClampNeg) (xs (i + 2).toNatClampNeg)
  refine V_aload_n C 2 dL_law_835 rfl rfl rfl ?_
  refine V_sarg C Z (k := 1) rfl rfl dL_law_836 dL_law_837 dL_law_838 dL_law_839 dL_law_840 rfl hin.2.1 rfl ?_
  refine V_sarg C Z (k := 2) rfl rfl dL_law_841 dL_law_842 dL_law_843 dL_law_844 dL_law_845 rfl hin.2.2.1 rfl ?_
  refine V_cVi C (b := 0) (As := [.int (xs (i + 1).toNatClampNeg), .int (xs (i + 2).toNatClampNeg)]) (st := []) cf9 rfl M_X9_gets (show Cond.methodLink "CarryFairLaw" 85 yX9_gets ∈ BW from bw 667 (by decide +kernel) (by decide +kernel)) ⟨by decide, by decide⟩ rfl rfl (Nat.le_of_ble_eq_true rfl) dL_law_846 rfl (kX9_gets hf) ?_
  refine V_aload_n C 1 dL_law_849 rfl rfl rfl ?_
  refine V_sarg C Z (k := 1) rfl rfl dL_law_850 dL_law_851 dL_law_852 dL_law_853 dL_law_854 rfl hin.2.1 rfl ?_
  refine V_sarg C Z (k := 2) rfl rfl dL_law_855 dL_law_856 dL_law_857 dL_law_858 dL_law_859 rfl hin.2.2.1 rfl ?_
  refine V_cVi C (b := 116) (As := [.int (xs (i + 1).toNatClampNeg), .int (xs (i + 2).toNatClampNeg)]) (st := [.int x]) cf10 rfl M_X10_gets (show Cond.methodLink "CarryFairLaw" 88 yX10_gets ∈ BW from bw 1418 (by decide +kernel) (by decide +kernel)) ⟨by decide, by decide⟩ rfl rfl (Nat.le_of_ble_eq_true rfl) dL_law_860 rfl (kX10_gets hg) ?_
  exact V_icmp_eq C dL_law_863 (tgt := 1771) rfl rfl (fun _ => hgo _ hI2) (fun z => absurd rfl z)
theorem lw_c18 (C : Cx ad G X cL_law "CarryFairLaw" 13 480) (Z : Scr X b L xs) (hin : lwIn i L) (hI : Inv u) (hgo : ∀ u, Inv u → V shs ad G X 1771 (lwL b ad i) [] u) : V shs ad G X 868 (lwL b ad i) [] u := by
  obtain ⟨x, u1, u2, hf, hg, hI2⟩ := s_cheapest hI (xs (i + 1).toNatClampNeg) (xs (i + 2).toNatClampNeg)
  refine V_aload_n C 2 dL_law_868 rfl rfl rfl ?_
  refine V_sarg C Z (k := 1) rfl rfl dL_law_869 dL_law_870 dL_law_871 dL_law_872 dL_law_873 rfl hin.2.1 rfl ?_
  refine V_sarg C Z (k := 2) rfl rfl dL_law_874 dL_law_875 dL_law_876 dL_law_877 dL_law_878 rfl hin.2.2.1 rfl ?_
  refine V_cVi C (b := 0) (As := [.int (xs (i + 1).toNatClampNeg), .int (xs (i + 2).toNatClampNeg)]) (st := []) cf9 rfl M_X9_cheapest (show Cond.methodLink "CarryFairLaw" 89 yX9_cheapest ∈ BW from bw 676 (by decide +kernel) (by decide +kernel)) ⟨by decide, by decide⟩ rfl rfl (Nat.le_of_ble_eq_true rfl) dL_law_879 rfl (kX9_cheapest hf) ?_
  refine V_aload_n C 1 dL_law_882 rfl rfl rfl ?_
  refine V_sarg C Z (k := 1) rfl rfl dL_law_883 dL_law_884 dL_law_885 dL_law_886 dL_law_887 rfl hin.2.1 rfl ?_
  refine V_sarg C Z (k := 2) rfl rfl dL_law_888 dL_law_889 dL_law_890 dL_law_891 dL_law_892 rfl hin.2.2.1 rfl ?_
  refine V_cVi C (b := 116) (As := [.int (xs (i + 1).toNatClampNeg), .int (xs (i + 2).toNatClampNeg)]) (st := [.int x]) cf10 rfl M_X10_cheapest (show Cond.methodLink "CarryFairLaw" 92 yX10_cheapest ∈ BW from bw 1426 (by decide +kernel) (by decide +kernel)) ⟨by decide, by decide⟩ rfl rfl (Nat.le_of_ble_eq_true rfl) dL_law_893 rfl (kX10_cheapest hg) ?_
  exact V_icmp_eq C dL_law_896 (tgt := 1771) rfl rfl (fun _ => hgo _ hI2) (fun z => absurd rfl z)
theorem lw_c19 (C : Cx ad G X cL_law "CarryFairLaw" 13 480) (Z : Scr X b L xs) (hin : lwIn i L) (hI : Inv u) (hgo : ∀ u, Inv u → V shs ad G X 1771 (lwL b ad i) [] u) : V shs ad G X 901 (lwL b ad i) [] u := by
  obtain ⟨x, u1, u2, hf, hg, hI2⟩ := s_which hI (xs (i + 1).toNatClampNeg) (xs (i + 2).toNatClampNeg)
  refine V_aload_n C 2 dL_law_901 rfl rfl rfl ?_
  refine V_sarg C Z (k := 1) rfl rfl dL_law_902 dL_law_903 dL_law_904 dL_law_905 dL_law_906 rfl hin.2.1 rfl ?_
  refine V_sarg C Z (k := 2) rfl rfl dL_law_907 dL_law_908 dL_law_909 dL_law_910 dL_law_911 rfl hin.2.2.1 rfl ?_
  refine V_cVi C (b := 0) (As := [.int (xs (i + 1).toNatClampNeg), .int (xs (i + 2).toNatClampNeg)]) (st := []) cf9 rfl M_X9_which (show Cond.methodLink "CarryFairLaw" 93 yX9_which ∈ BW from bw 703 (by decide +kernel) (by decide +kernel)) ⟨by decide, by decide⟩ rfl rfl (Nat.le_of_ble_eq_true rfl) dL_law_912 rfl (kX9_which hf) ?_
  refine V_aload_n C 1 dL_law_915 rfl rfl rfl ?_
  refine V_sarg C Z (k := 1) rfl rfl dL_law_916 dL_law_917 dL_law_918 dL_law_919 dL_law_920 rfl hin.2.1 rfl ?_
  refine V_sarg C Z (k := 2) rfl rfl dL_law_921 dL_law_922 dL_law_923 dL_law_924 dL_law_925 rfl hin.2.2.1 rfl ?_
  refine V_cVi C (b := 116) (As := [.int (xs (i + 1).toNatClampNeg), .int (xs (i + 2).toNatClampNeg)]) (st := [.int x]) cf10 rfl M_X10_which (show Cond.methodLink "CarryFairLaw" 96 yX10_which ∈ BW from bw 1434 (by decide +kernel) (by decide +kernel)) ⟨by decide, by decide⟩ rfl rfl (Nat.le_of_ble_eq_true rfl) dL_law_926 rfl (kX10_which hg) ?_
  exact V_icmp_eq C dL_law_929 (tgt := 1771) rfl rfl (fun _ => hgo _ hI2) (fun z => absurd rfl z)
theorem lw_c20 (C : Cx ad G X cL_law "CarryFairLaw" 13 480) (Z : Scr X b L xs) (hin : lwIn i L) (hI : Inv u) (hgo : ∀ u, Inv u → V shs ad G X 1771 (lwL b ad i) [] u) : V shs ad G X 934 (lwL b ad i) [] u := by
  obtain ⟨x, u1, u2, hf, hg, hI2⟩ := s_who hI (xs (i + 1).toNatClampNeg)
  refine V_aload_n C 2 dL_law_934 rfl rfl rfl ?_
  refine V_sarg C Z (k := 1) rfl rfl dL_law_935 dL_law_936 dL_law_937 dL_law_938 dL_law_939 rfl hin.2.1 rfl ?_
  refine V_cVi C (b := 0) (As := [.int (xs (i + 1).toNatClampNeg)]) (st := []) cf9 rfl M_X9_who (show Cond.methodLink "CarryFairLaw" 97 yX9_who ∈ BW from bw 711 (by decide +kernel) (by decide +kernel)) ⟨by decide, by decide⟩ rfl rfl (Nat.le_of_ble_eq_true rfl) dL_law_940 rfl (kX9_who hf) ?_
  refine V_aload_n C 1 dL_law_943 rfl rfl rfl ?_
  refine V_sarg C Z (k := 1) rfl rfl dL_law_944 dL_law_945 dL_law_946 dL_law_947 dL_law_948 rfl hin.2.1 rfl ?_
  refine V_cVi C (b := 116) (As := [.int (xs (i + 1).toNatClampNeg)]) (st := [.int x]) cf10 rfl M_X10_who (show Cond.methodLink "CarryFairLaw" 100 yX10_who ∈ BW from bw 1438 (by decide +kernel) (by decide +kernel)) ⟨by decide, by decide⟩ rfl rfl (Nat.le_of_ble_eq_true rfl) dL_law_949 rfl (kX10_who hg) ?_
  exact V_icmp_eq C dL_law_952 (tgt := 1771) rfl rfl (fun _ => hgo _ hI2) (fun z => absurd rfl z)
theorem lw_c21 (C : Cx ad G X cL_law "CarryFairLaw" 13 480) (Z : Scr X b L xs) (hin : lwIn i L) (hI : Inv u) (hgo : ∀ u, Inv u → V shs ad G X 1771 (lwL b ad i) [] u) : V shs ad G X 957 (lwL b ad i) [] u := by
  obtain ⟨x, u1, u2, hf, hg, hI2⟩ := s_joined hI (xs (i + 1).toNatClampNeg) (xs (i + 2).toNatClampNeg)
  refine V_aload_n C 2 dL_law_957 rfl rfl rfl ?_
  refine V_sarg C Z (k := 1) rfl rfl dL_law_958 dL_law_959 dL_law_960 dL_law_961 dL_law_962 rfl hin.2.1 rfl ?_
  refine V_sarg C Z (k := 2) rfl rfl dL_law_963 dL_law_964 dL_law_965 dL_law_966 dL_law_967 rfl hin.2.2.1 rfl ?_
  refine V_cVi C (b := 0) (As := [.int (xs (i + 1).toNatClampNeg), .int (xs (i + 2).toNatClampNeg)]) (st := []) cf9 rfl M_X9_joined (show Cond.methodLink "CarryFairLaw" 101 yX9_joined ∈ BW from bw 715 (by decide +kernel) (by decide +kernel)) ⟨by decide, by decide⟩ rfl rfl (Nat.le_of_ble_eq_true rfl) dL_law_968 rfl (kX9_joined hf) ?_
  refine V_aload_n C 1 dL_law_971 rfl rfl rfl ?_
  refine V_sarg C Z (k := 1) rfl rfl dL_law_972 dL_law_973 dL_law_974 dL_law_975 dL_law_976 rfl hin.2.1 rfl ?_
  refine V_sarg C Z (k := 2) rfl rfl dL_law_977 dL_law_978 dL_law_979 dL_law_980 dL_law_981 rfl hin.2.2.1 rfl ?_
  refine V_cVi C (b := 116) (As := [.int (xs (i + 1).toNatClampNeg), .int (xs (i + 2).toNatClampNeg)]) (st := [.int x]) cf10 rfl M_X10_joined (show Cond.methodLink "CarryFairLaw" 104 yX10_joined ∈ BW from bw 1442 (by decide +kernel) (by decide +kernel)) ⟨by decide, by decide⟩ rfl rfl (Nat.le_of_ble_eq_true rfl) dL_law_982 rfl (kX10_joined hg) ?_
  exact V_icmp_eq C dL_law_985 (tgt := 1771) rfl rfl (fun _ => hgo _ hI2) (fun z => absurd rfl z)
theorem lw_c22 (C : Cx ad G X cL_law "CarryFairLaw" 13 480) (Z : Scr X b L xs) (hin : lwIn i L) (hI : Inv u) (hgo : ∀ u, Inv u → V shs ad G X 1771 (lwL b ad i) [] u) : V shs ad G X 990 (lwL b ad i) [] u := by
  obtain ⟨x, u1, u2, hf, hg, hI2⟩ := s_shared hI (xs (i + 1).toNatClampNeg) (xs (i + 2).toNatClampNeg) (xs (i + 3).toNatClampNeg)
  refine V_aload_n C 2 dL_law_990 rfl rfl rfl ?_
  refine V_sarg C Z (k := 1) rfl rfl dL_law_991 dL_law_992 dL_law_993 dL_law_994 dL_law_995 rfl hin.2.1 rfl ?_
  refine V_sarg C Z (k := 2) rfl rfl dL_law_996 dL_law_997 dL_law_998 dL_law_999 dL_law_1000 rfl hin.2.2.1 rfl ?_
  refine V_sarg C Z (k := 3) rfl rfl dL_law_1001 dL_law_1002 dL_law_1003 dL_law_1004 dL_law_1005 rfl hin.2.2.2.1 rfl ?_
  refine V_cVi C (b := 0) (As := [.int (xs (i + 1).toNatClampNeg), .int (xs (i + 2).toNatClampNeg), .int (xs (i + 3).toNatClampNeg)]) (st := []) cf9 rfl M_X9_shared (show Cond.methodLink "CarryFairLaw" 105 yX9_shared ∈ BW from bw 719 (by decide +kernel) (by decide +kernel)) ⟨by decide, by decide⟩ rfl rfl (Nat.le_of_ble_eq_true rfl) dL_law_1006 rfl (kX9_shared hf) ?_
  refine V_aload_n C 1 dL_law_1009 rfl rfl rfl ?_
  refine V_sarg C Z (k := 1) rfl rfl dL_law_1010 dL_law_1011 dL_law_1012 dL_law_1013 dL_law_1014 rfl hin.2.1 rfl ?_
  refine V_sarg C Z (k := 2) rfl rfl dL_law_1015 dL_law_1016 dL_law_1017 dL_law_1018 dL_law_1019 rfl hin.2.2.1 rfl ?_
  refine V_sarg C Z (k := 3) rfl rfl dL_law_1020 dL_law_1021 dL_law_1022 dL_law_1023 dL_law_1024 rfl hin.2.2.2.1 rfl ?_
  refine V_cVi C (b := 116) (As := [.int (xs (i + 1).toNatClampNeg), .int (xs (i + 2).toNatClampNeg), .int (xs (i + 3).toNatClampNeg)]) (st := [.int x]) cf10 rfl M_X10_shared (show Cond.methodLink "CarryFairLaw" 108 yX10_shared ∈ BW from bw 1446 (by decide +kernel) (by decide +kernel)) ⟨by decide, by decide⟩ rfl rfl (Nat.le_of_ble_eq_true rfl) dL_law_1025 rfl (kX10_shared hg) ?_
  exact V_icmp_eq C dL_law_1028 (tgt := 1771) rfl rfl (fun _ => hgo _ hI2) (fun z => absurd rfl z)
theorem lw_c23 (C : Cx ad G X cL_law "CarryFairLaw" 13 480) (Z : Scr X b L xs) (hin : lwIn i L) (hI : Inv u) (hgo : ∀ u, Inv u → V shs ad G X 1771 (lwL b ad i) [] u) : V shs ad G X 1033 (lwL b ad i) [] u := by
  obtain ⟨x, u1, u2, hf, hg, hI2⟩ := s_part hI (xs (i + 1).toNatClampNeg) (xs (i + 2).toNatClampNeg) (xs (i + 3).toNatClampNeg)
  refine V_aload_n C 2 dL_law_1033 rfl rfl rfl ?_
  refine V_sarg C Z (k := 1) rfl rfl dL_law_1034 dL_law_1035 dL_law_1036 dL_law_1037 dL_law_1038 rfl hin.2.1 rfl ?_
  refine V_sarg C Z (k := 2) rfl rfl dL_law_1039 dL_law_1040 dL_law_1041 dL_law_1042 dL_law_1043 rfl hin.2.2.1 rfl ?_
  refine V_sarg C Z (k := 3) rfl rfl dL_law_1044 dL_law_1045 dL_law_1046 dL_law_1047 dL_law_1048 rfl hin.2.2.2.1 rfl ?_
  refine V_cVi C (b := 0) (As := [.int (xs (i + 1).toNatClampNeg), .int (xs (i + 2).toNatClampNeg), .int (xs (i + 3).toNatClampNeg)]) (st := []) cf9 rfl M_X9_part (show Cond.methodLink "CarryFairLaw" 109 yX9_part ∈ BW from bw 731 (by decide +kernel) (by decide +kernel)) ⟨by decide, by decide⟩ rfl rfl (Nat.le_of_ble_eq_true rfl) dL_law_1049 rfl (kX9_part hf) ?_
  refine V_aload_n C 1 dL_law_1052 rfl rfl rfl ?_
  refine V_sarg C Z (k := 1) rfl rfl dL_law_1053 dL_law_1054 dL_law_1055 dL_law_1056 dL_law_1057 rfl hin.2.1 rfl ?_
  refine V_sarg C Z (k := 2) rfl rfl dL_law_1058 dL_law_1059 dL_law_1060 dL_law_1061 dL_law_1062 rfl hin.2.2.1 rfl ?_
  refine V_sarg C Z (k := 3) rfl rfl dL_law_1063 dL_law_1064 dL_law_1065 dL_law_1066 dL_law_1067 rfl hin.2.2.2.1 rfl ?_
  refine V_cVi C (b := 116) (As := [.int (xs (i + 1).toNatClampNeg), .int (xs (i + 2).toNatClampNeg), .int (xs (i + 3).toNatClampNeg)]) (st := [.int x]) cf10 rfl M_X10_part (show Cond.methodLink "CarryFairLaw" 112 yX10_part ∈ BW from bw 1454 (by decide +kernel) (by decide +kernel)) ⟨by decide, by decide⟩ rfl rfl (Nat.le_of_ble_eq_true rfl) dL_law_1068 rfl (kX10_part hg) ?_
  exact V_icmp_eq C dL_law_1071 (tgt := 1771) rfl rfl (fun _ => hgo _ hI2) (fun z => absurd rfl z)
theorem lw_c24 (C : Cx ad G X cL_law "CarryFairLaw" 13 480) (Z : Scr X b L xs) (hin : lwIn i L) (hI : Inv u) (hgo : ∀ u, Inv u → V shs ad G X 1771 (lwL b ad i) [] u) : V shs ad G X 1076 (lwL b ad i) [] u := by
  obtain ⟨x, u1, u2, hf, hg, hI2⟩ := s_strength hI (xs (i + 1).toNatClampNeg) (xs (i + 2).toNatClampNeg)
  refine V_aload_n C 2 dL_law_1076 rfl rfl rfl ?_
  refine V_sarg C Z (k := 1) rfl rfl dL_law_1077 dL_law_1078 dL_law_1079 dL_law_1080 dL_law_1081 rfl hin.2.1 rfl ?_
  refine V_sarg C Z (k := 2) rfl rfl dL_law_1082 dL_law_1083 dL_law_1084 dL_law_1085 dL_law_1086 rfl hin.2.2.1 rfl ?_
  refine V_cVi C (b := 0) (As := [.int (xs (i + 1).toNatClampNeg), .int (xs (i + 2).toNatClampNeg)]) (st := []) cf9 rfl M_X9_strength (show Cond.methodLink "CarryFairLaw" 113 yX9_strength ∈ BW from bw 735 (by decide +kernel) (by decide +kernel)) ⟨by decide, by decide⟩ rfl rfl (Nat.le_of_ble_eq_true rfl) dL_law_1087 rfl (kX9_strength hf) ?_
  refine V_aload_n C 1 dL_law_1090 rfl rfl rfl ?_
  refine V_sarg C Z (k := 1) rfl rfl dL_law_1091 dL_law_1092 dL_law_1093 dL_law_1094 dL_law_1095 rfl hin.2.1 rfl ?_
  refine V_sarg C Z (k := 2) rfl rfl dL_law_1096 dL_law_1097 dL_law_1098 dL_law_1099 dL_law_1100 rfl hin.2.2.1 rfl ?_
  refine V_cVi C (b := 116) (As := [.int (xs (i + 1).toNatClampNeg), .int (xs (i + 2).toNatClampNeg)]) (st := [.int x]) cf10 rfl M_X10_strength (show Cond.methodLink "CarryFairLaw" 116 yX10_strength ∈ BW from bw 1458 (by decide +kernel) (by decide +kernel)) ⟨by decide, by decide⟩ rfl rfl (Nat.le_of_ble_eq_true rfl) dL_law_1101 rfl (kX10_strength hg) ?_
  exact V_icmp_eq C dL_law_1104 (tgt := 1771) rfl rfl (fun _ => hgo _ hI2) (fun z => absurd rfl z)
end LAW
