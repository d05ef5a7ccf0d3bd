/-! THE LAW: the cases -/
section QK
variable {p : Program} {l : Launch} {e : Env} {s : State} {m : MethodId} {below : List Frame} {meth : Method} {c : Code} {b L i : Nat} {xs : Nat → Int32} {dC : Nat → ClassId} {dI : Nat → Nat → Nat} {cA : Nat → ClassId} {ad1 ad2 : Nat → Nat} {I J : zI} {H : Heap} {locs : List Loc} {cells slots : Nat} {Q : State → Prop} {ls : Array Slot}
theorem qc_0 (cx : qC p s m c b L xs) (hl : lv_has ls 4 [(3, .int (nI i)), (0, .ref b), (1, .ref (ad1 0)), (2, .ref (ad2 0))]) (hi : i + 5 < L) (hL : L ≤ 384) (hroom : cells ≤ 600000 ∧ slots ≤ 7302250) (h : qH dC dI cA ad1 (zCs, zCr, I) ad2 (zMs, zMr, J) s H locs) (hR : rR I J)
    (kk : ∀ (I2 J2 : zI) (H2 : Heap) (locs2 : List Loc), qH dC dI cA ad1 (zCs, zCr, I2) ad2 (zMs, zMr, J2) s H2 locs2 → rR I2 J2 → W p l e room_1 s m #[Value.ref b] below meth c H2 locs2 cells slots Q (F0 m 1654 ls [])) : W p l e room_1 s m #[Value.ref b] below meth c H locs cells slots Q (F0 m 240 ls []) := by
  obtain ⟨r, I2, J2, e1, e2, hR2⟩ := sim_square hR (xs (i + 1))
  refine lv_aload_n cx.1 cx.2.1 dl_240.1 rfl (lv_at hl 2 rfl) ?_
  refine q_ld (k := 1) cx h.2.2.2.2 hl dl_241 dl_242 dl_243 dl_244 dl_245 (by decide) (by omega) hL ?_
  refine q_call (av := [.inl (xs (i + 1))]) (st := []) (x := r) (I2 := I2) cx h hl.1 dl_246 ca_0 qw_423 qw_424 qw_425 zCs_0 zcl_11 rfl (mt_fc_T_square e1) rfl ⟨by decide +kernel, by decide⟩ (Nat.le_of_ble_eq_true rfl) hroom (fun H1 locs1 h1 => ?_)
  refine lv_aload_n cx.1 cx.2.1 dl_249.1 rfl (lv_at hl 3 rfl) ?_
  refine q_ld (k := 1) cx h1.2.2.2.2 hl dl_250 dl_251 dl_252 dl_253 dl_254 (by decide) (by omega) hL ?_
  refine q_call2 (av := [.inl (xs (i + 1))]) (st := [.int r]) (x := r) (I2 := J2) cx h1 hl.1 dl_255 ca_140 qw_1132 qw_1133 qw_1134 zMs_0 zcl_12 rfl (mt_fm_square e2) rfl ⟨by decide +kernel, by decide⟩ (Nat.le_of_ble_eq_true rfl) hroom (fun H2 locs2 h2 => ?_)
  exact lv_icmp_eq cx.1 cx.2.1 dl_258.1 (tgt := 1654) (by decide) (fun _ => kk I2 J2 H2 locs2 h2 hR2) (fun hne => absurd rfl hne)
theorem qc_1 (cx : qC p s m c b L xs) (hl : lv_has ls 4 [(3, .int (nI i)), (0, .ref b), (1, .ref (ad1 0)), (2, .ref (ad2 0))]) (hi : i + 5 < L) (hL : L ≤ 384) (hroom : cells ≤ 600000 ∧ slots ≤ 7302250) (h : qH dC dI cA ad1 (zCs, zCr, I) ad2 (zMs, zMr, J) s H locs) (hR : rR I J)
    (kk : ∀ (I2 J2 : zI) (H2 : Heap) (locs2 : List Loc), qH dC dI cA ad1 (zCs, zCr, I2) ad2 (zMs, zMr, J2) s H2 locs2 → rR I2 J2 → W p l e room_1 s m #[Value.ref b] below meth c H2 locs2 cells slots Q (F0 m 1654 ls [])) : W p l e room_1 s m #[Value.ref b] below meth c H locs cells slots Q (F0 m 263 ls []) := by
  obtain ⟨r, I2, J2, e1, e2, hR2⟩ := sim_cost hR (xs (i + 1)) (xs (i + 2))
  refine lv_aload_n cx.1 cx.2.1 dl_263.1 rfl (lv_at hl 2 rfl) ?_
  refine q_ld (k := 1) cx h.2.2.2.2 hl dl_264 dl_265 dl_266 dl_267 dl_268 (by decide) (by omega) hL ?_
  refine q_ld (k := 2) cx h.2.2.2.2 hl dl_269 dl_270 dl_271 dl_272 dl_273 (by decide) (by omega) hL ?_
  refine q_call (av := [.inl (xs (i + 1)), .inl (xs (i + 2))]) (st := []) (x := r) (I2 := I2) cx h hl.1 dl_274 ca_3 qw_435 qw_436 qw_437 zCs_0 zcl_11 rfl (mt_fc_T_cost e1) rfl ⟨by decide +kernel, by decide⟩ (Nat.le_of_ble_eq_true rfl) hroom (fun H1 locs1 h1 => ?_)
  refine lv_aload_n cx.1 cx.2.1 dl_277.1 rfl (lv_at hl 3 rfl) ?_
  refine q_ld (k := 1) cx h1.2.2.2.2 hl dl_278 dl_279 dl_280 dl_281 dl_282 (by decide) (by omega) hL ?_
  refine q_ld (k := 2) cx h1.2.2.2.2 hl dl_283 dl_284 dl_285 dl_286 dl_287 (by decide) (by omega) hL ?_
  refine q_call2 (av := [.inl (xs (i + 1)), .inl (xs (i + 2))]) (st := [.int r]) (x := r) (I2 := J2) cx h1 hl.1 dl_288 ca_143 qw_1146 qw_1147 qw_1148 zMs_0 zcl_12 rfl (mt_fm_cost e2) rfl ⟨by decide +kernel, by decide⟩ (Nat.le_of_ble_eq_true rfl) hroom (fun H2 locs2 h2 => ?_)
  exact lv_icmp_eq cx.1 cx.2.1 dl_291.1 (tgt := 1654) (by decide) (fun _ => kk I2 J2 H2 locs2 h2 hR2) (fun hne => absurd rfl hne)
theorem qc_2 (cx : qC p s m c b L xs) (hl : lv_has ls 4 [(3, .int (nI i)), (0, .ref b), (1, .ref (ad1 0)), (2, .ref (ad2 0))]) (hi : i + 5 < L) (hL : L ≤ 384) (hroom : cells ≤ 600000 ∧ slots ≤ 7302250) (h : qH dC dI cA ad1 (zCs, zCr, I) ad2 (zMs, zMr, J) s H locs) (hR : rR I J)
    (kk : ∀ (I2 J2 : zI) (H2 : Heap) (locs2 : List Loc), qH dC dI cA ad1 (zCs, zCr, I2) ad2 (zMs, zMr, J2) s H2 locs2 → rR I2 J2 → W p l e room_1 s m #[Value.ref b] below meth c H2 locs2 cells slots Q (F0 m 1654 ls [])) : W p l e room_1 s m #[Value.ref b] below meth c H locs cells slots Q (F0 m 296 ls []) := by
  obtain ⟨r, I2, J2, e1, e2, hR2⟩ := sim_join hR (xs (i + 1)) (xs (i + 2)) (xs (i + 3))
  refine lv_aload_n cx.1 cx.2.1 dl_296.1 rfl (lv_at hl 2 rfl) ?_
  refine q_ld (k := 1) cx h.2.2.2.2 hl dl_297 dl_298 dl_299 dl_300 dl_301 (by decide) (by omega) hL ?_
  refine q_ld (k := 2) cx h.2.2.2.2 hl dl_302 dl_303 dl_304 dl_305 dl_306 (by decide) (by omega) hL ?_
  refine q_ld (k := 3) cx h.2.2.2.2 hl dl_307 dl_308 dl_309 dl_310 dl_311 (by decide) (by omega) hL ?_
  refine q_call (av := [.inl (xs (i + 1)), .inl (xs (i + 2)), .inl (xs (i + 3))]) (st := []) (x := r) (I2 := I2) cx h hl.1 dl_312 ca_5 qw_444 qw_445 qw_446 zCs_0 zcl_11 rfl (mt_fc_T_join e1) rfl ⟨by decide +kernel, by decide⟩ (Nat.le_of_ble_eq_true rfl) hroom (fun H1 locs1 h1 => ?_)
  refine lv_aload_n cx.1 cx.2.1 dl_315.1 rfl (lv_at hl 3 rfl) ?_
  refine q_ld (k := 1) cx h1.2.2.2.2 hl dl_316 dl_317 dl_318 dl_319 dl_320 (by decide) (by omega) hL ?_
  refine q_ld (k := 2) cx h1.2.2.2.2 hl dl_321 dl_322 dl_323 dl_324 dl_325 (by decide) (by omega) hL ?_
  refine q_ld (k := 3) cx h1.2.2.2.2 hl dl_326 dl_327 dl_328 dl_329 dl_330 (by decide) (by omega) hL ?_
  refine q_call2 (av := [.inl (xs (i + 1)), .inl (xs (i + 2)), .inl (xs (i + 3))]) (st := [.int r]) (x := r) (I2 := J2) cx h1 hl.1 dl_331 ca_146 qw_1158 qw_1159 qw_1160 zMs_0 zcl_12 rfl (mt_fm_join e2) rfl ⟨by decide +kernel, by decide⟩ (Nat.le_of_ble_eq_true rfl) hroom (fun H2 locs2 h2 => ?_)
  exact lv_icmp_eq cx.1 cx.2.1 dl_334.1 (tgt := 1654) (by decide) (fun _ => kk I2 J2 H2 locs2 h2 hR2) (fun hne => absurd rfl hne)
theorem qc_3 (cx : qC p s m c b L xs) (hl : lv_has ls 4 [(3, .int (nI i)), (0, .ref b), (1, .ref (ad1 0)), (2, .ref (ad2 0))]) (hi : i + 5 < L) (hL : L ≤ 384) (hroom : cells ≤ 600000 ∧ slots ≤ 7302250) (h : qH dC dI cA ad1 (zCs, zCr, I) ad2 (zMs, zMr, J) s H locs) (hR : rR I J)
    (kk : ∀ (I2 J2 : zI) (H2 : Heap) (locs2 : List Loc), qH dC dI cA ad1 (zCs, zCr, I2) ad2 (zMs, zMr, J2) s H2 locs2 → rR I2 J2 → W p l e room_1 s m #[Value.ref b] below meth c H2 locs2 cells slots Q (F0 m 1654 ls [])) : W p l e room_1 s m #[Value.ref b] below meth c H locs cells slots Q (F0 m 339 ls []) := by
  obtain ⟨r, I2, J2, e1, e2, hR2⟩ := sim_joinIs hR (xs (i + 1)) (xs (i + 2))
  refine lv_aload_n cx.1 cx.2.1 dl_339.1 rfl (lv_at hl 2 rfl) ?_
  refine q_ld (k := 1) cx h.2.2.2.2 hl dl_340 dl_341 dl_342 dl_343 dl_344 (by decide) (by omega) hL ?_
  refine q_ld (k := 2) cx h.2.2.2.2 hl dl_345 dl_346 dl_347 dl_348 dl_349 (by decide) (by omega) hL ?_
  refine q_call (av := [.inl (xs (i + 1)), .inl (xs (i + 2))]) (st := []) (x := r) (I2 := I2) cx h hl.1 dl_350 ca_9 qw_460 qw_461 qw_462 zCs_0 zcl_11 rfl (mt_fc_T_joinIs e1) rfl ⟨by decide +kernel, by decide⟩ (Nat.le_of_ble_eq_true rfl) hroom (fun H1 locs1 h1 => ?_)
  refine lv_aload_n cx.1 cx.2.1 dl_353.1 rfl (lv_at hl 3 rfl) ?_
  refine q_ld (k := 1) cx h1.2.2.2.2 hl dl_354 dl_355 dl_356 dl_357 dl_358 (by decide) (by omega) hL ?_
  refine q_ld (k := 2) cx h1.2.2.2.2 hl dl_359 dl_360 dl_361 dl_362 dl_363 (by decide) (by omega) hL ?_
  refine q_call2 (av := [.inl (xs (i + 1)), .inl (xs (i + 2))]) (st := [.int r]) (x := r) (I2 := J2) cx h1 hl.1 dl_364 ca_152 qw_1183 qw_1184 qw_1185 zMs_0 zcl_12 rfl (mt_fm_joinIs e2) rfl ⟨by decide +kernel, by decide⟩ (Nat.le_of_ble_eq_true rfl) hroom (fun H2 locs2 h2 => ?_)
  exact lv_icmp_eq cx.1 cx.2.1 dl_367.1 (tgt := 1654) (by decide) (fun _ => kk I2 J2 H2 locs2 h2 hR2) (fun hne => absurd rfl hne)
theorem qc_4 (cx : qC p s m c b L xs) (hl : lv_has ls 4 [(3, .int (nI i)), (0, .ref b), (1, .ref (ad1 0)), (2, .ref (ad2 0))]) (hi : i + 5 < L) (hL : L ≤ 384) (hroom : cells ≤ 600000 ∧ slots ≤ 7302250) (h : qH dC dI cA ad1 (zCs, zCr, I) ad2 (zMs, zMr, J) s H locs) (hR : rR I J)
    (kk : ∀ (I2 J2 : zI) (H2 : Heap) (locs2 : List Loc), qH dC dI cA ad1 (zCs, zCr, I2) ad2 (zMs, zMr, J2) s H2 locs2 → rR I2 J2 → W p l e room_1 s m #[Value.ref b] below meth c H2 locs2 cells slots Q (F0 m 1654 ls [])) : W p l e room_1 s m #[Value.ref b] below meth c H locs cells slots Q (F0 m 372 ls []) := by
  obtain ⟨r, I2, J2, e1, e2, hR2⟩ := sim_turn hR (xs (i + 1)) (xs (i + 2))
  refine lv_aload_n cx.1 cx.2.1 dl_372.1 rfl (lv_at hl 2 rfl) ?_
  refine q_ld (k := 1) cx h.2.2.2.2 hl dl_373 dl_374 dl_375 dl_376 dl_377 (by decide) (by omega) hL ?_
  refine q_ld (k := 2) cx h.2.2.2.2 hl dl_378 dl_379 dl_380 dl_381 dl_382 (by decide) (by omega) hL ?_
  refine q_call (av := [.inl (xs (i + 1)), .inl (xs (i + 2))]) (st := []) (x := r) (I2 := I2) cx h hl.1 dl_383 ca_11 qw_468 qw_469 qw_470 zCs_0 zcl_11 rfl (mt_fc_T_turn e1) rfl ⟨by decide +kernel, by decide⟩ (Nat.le_of_ble_eq_true rfl) hroom (fun H1 locs1 h1 => ?_)
  refine lv_aload_n cx.1 cx.2.1 dl_386.1 rfl (lv_at hl 3 rfl) ?_
  refine q_ld (k := 1) cx h1.2.2.2.2 hl dl_387 dl_388 dl_389 dl_390 dl_391 (by decide) (by omega) hL ?_
  refine q_ld (k := 2) cx h1.2.2.2.2 hl dl_392 dl_393 dl_394 dl_395 dl_396 (by decide) (by omega) hL ?_
  refine q_call2 (av := [.inl (xs (i + 1)), .inl (xs (i + 2))]) (st := [.int r]) (x := r) (I2 := J2) cx h1 hl.1 dl_397 ca_153 qw_1187 qw_1188 qw_1189 zMs_0 zcl_12 rfl (mt_fm_turn e2) rfl ⟨by decide +kernel, by decide⟩ (Nat.le_of_ble_eq_true rfl) hroom (fun H2 locs2 h2 => ?_)
  exact lv_icmp_eq cx.1 cx.2.1 dl_400.1 (tgt := 1654) (by decide) (fun _ => kk I2 J2 H2 locs2 h2 hR2) (fun hne => absurd rfl hne)
theorem qc_5 (cx : qC p s m c b L xs) (hl : lv_has ls 4 [(3, .int (nI i)), (0, .ref b), (1, .ref (ad1 0)), (2, .ref (ad2 0))]) (hi : i + 5 < L) (hL : L ≤ 384) (hroom : cells ≤ 600000 ∧ slots ≤ 7302250) (h : qH dC dI cA ad1 (zCs, zCr, I) ad2 (zMs, zMr, J) s H locs) (hR : rR I J)
    (kk : ∀ (I2 J2 : zI) (H2 : Heap) (locs2 : List Loc), qH dC dI cA ad1 (zCs, zCr, I2) ad2 (zMs, zMr, J2) s H2 locs2 → rR I2 J2 → W p l e room_1 s m #[Value.ref b] below meth c H2 locs2 cells slots Q (F0 m 1654 ls [])) : W p l e room_1 s m #[Value.ref b] below meth c H locs cells slots Q (F0 m 405 ls []) := by
  obtain ⟨r, I2, J2, e1, e2, hR2⟩ := sim_part hR
  refine lv_aload_n cx.1 cx.2.1 dl_405.1 rfl (lv_at hl 2 rfl) ?_
  refine q_call (av := []) (st := []) (x := r) (I2 := I2) cx h hl.1 dl_406 ca_12 qw_472 qw_473 qw_474 zCs_0 zcl_11 rfl (mt_fc_T_part e1) rfl ⟨by decide +kernel, by decide⟩ (Nat.le_of_ble_eq_true rfl) hroom (fun H1 locs1 h1 => ?_)
  refine lv_aload_n cx.1 cx.2.1 dl_409.1 rfl (lv_at hl 3 rfl) ?_
  refine q_call2 (av := []) (st := [.int r]) (x := r) (I2 := J2) cx h1 hl.1 dl_410 ca_154 qw_1191 qw_1192 qw_1193 zMs_0 zcl_12 rfl (mt_fm_part e2) rfl ⟨by decide +kernel, by decide⟩ (Nat.le_of_ble_eq_true rfl) hroom (fun H2 locs2 h2 => ?_)
  exact lv_icmp_eq cx.1 cx.2.1 dl_413.1 (tgt := 1654) (by decide) (fun _ => kk I2 J2 H2 locs2 h2 hR2) (fun hne => absurd rfl hne)
theorem qc_6 (cx : qC p s m c b L xs) (hl : lv_has ls 4 [(3, .int (nI i)), (0, .ref b), (1, .ref (ad1 0)), (2, .ref (ad2 0))]) (hi : i + 5 < L) (hL : L ≤ 384) (hroom : cells ≤ 600000 ∧ slots ≤ 7302250) (h : qH dC dI cA ad1 (zCs, zCr, I) ad2 (zMs, zMr, J) s H locs) (hR : rR I J)
    (kk : ∀ (I2 J2 : zI) (H2 : Heap) (locs2 : List Loc), qH dC dI cA ad1 (zCs, zCr, I2) ad2 (zMs, zMr, J2) s H2 locs2 → rR I2 J2 → W p l e room_1 s m #[Value.ref b] below meth c H2 locs2 cells slots Q (F0 m 1654 ls [])) : W p l e room_1 s m #[Value.ref b] below meth c H locs cells slots Q (F0 m 418 ls []) := by
  obtain ⟨r, I2, J2, e1, e2, hR2⟩ := sim_across hR (xs (i + 1))
  refine lv_aload_n cx.1 cx.2.1 dl_418.1 rfl (lv_at hl 2 rfl) ?_
  refine q_ld (k := 1) cx h.2.2.2.2 hl dl_419 dl_420 dl_421 dl_422 dl_423 (by decide) (by omega) hL ?_
  refine q_call (av := [.inl (xs (i + 1))]) (st := []) (x := r) (I2 := I2) cx h hl.1 dl_424 ca_14 qw_480 qw_481 qw_482 zCs_0 zcl_11 rfl (mt_fc_T_across e1) rfl ⟨by decide +kernel, by decide⟩ (Nat.le_of_ble_eq_true rfl) hroom (fun H1 locs1 h1 => ?_)
  refine lv_aload_n cx.1 cx.2.1 dl_427.1 rfl (lv_at hl 3 rfl) ?_
  refine q_ld (k := 1) cx h1.2.2.2.2 hl dl_428 dl_429 dl_430 dl_431 dl_432 (by decide) (by omega) hL ?_
  refine q_call2 (av := [.inl (xs (i + 1))]) (st := [.int r]) (x := r) (I2 := J2) cx h1 hl.1 dl_433 ca_155 qw_1195 qw_1196 qw_1197 zMs_0 zcl_12 rfl (mt_fm_across e2) rfl ⟨by decide +kernel, by decide⟩ (Nat.le_of_ble_eq_true rfl) hroom (fun H2 locs2 h2 => ?_)
  exact lv_icmp_eq cx.1 cx.2.1 dl_436.1 (tgt := 1654) (by decide) (fun _ => kk I2 J2 H2 locs2 h2 hR2) (fun hne => absurd rfl hne)
theorem qc_7 (cx : qC p s m c b L xs) (hl : lv_has ls 4 [(3, .int (nI i)), (0, .ref b), (1, .ref (ad1 0)), (2, .ref (ad2 0))]) (hi : i + 5 < L) (hL : L ≤ 384) (hroom : cells ≤ 600000 ∧ slots ≤ 7302250) (h : qH dC dI cA ad1 (zCs, zCr, I) ad2 (zMs, zMr, J) s H locs) (hR : rR I J)
    (kk : ∀ (I2 J2 : zI) (H2 : Heap) (locs2 : List Loc), qH dC dI cA ad1 (zCs, zCr, I2) ad2 (zMs, zMr, J2) s H2 locs2 → rR I2 J2 → W p l e room_1 s m #[Value.ref b] below meth c H2 locs2 cells slots Q (F0 m 1654 ls [])) : W p l e room_1 s m #[Value.ref b] below meth c H locs cells slots Q (F0 m 441 ls []) := by
  obtain ⟨r, I2, J2, e1, e2, hR2⟩ := sim_land hR (xs (i + 1))
  refine lv_aload_n cx.1 cx.2.1 dl_441.1 rfl (lv_at hl 2 rfl) ?_
  refine q_ld (k := 1) cx h.2.2.2.2 hl dl_442 dl_443 dl_444 dl_445 dl_446 (by decide) (by omega) hL ?_
  refine q_call (av := [.inl (xs (i + 1))]) (st := []) (x := r) (I2 := I2) cx h hl.1 dl_447 ca_16 qw_489 qw_490 qw_491 zCs_0 zcl_11 rfl (mt_fc_T_land e1) rfl ⟨by decide +kernel, by decide⟩ (Nat.le_of_ble_eq_true rfl) hroom (fun H1 locs1 h1 => ?_)
  refine lv_aload_n cx.1 cx.2.1 dl_450.1 rfl (lv_at hl 3 rfl) ?_
  refine q_ld (k := 1) cx h1.2.2.2.2 hl dl_451 dl_452 dl_453 dl_454 dl_455 (by decide) (by omega) hL ?_
  refine q_call2 (av := [.inl (xs (i + 1))]) (st := [.int r]) (x := r) (I2 := J2) cx h1 hl.1 dl_456 ca_157 qw_1204 qw_1205 qw_1206 zMs_0 zcl_12 rfl (mt_fm_land e2) rfl ⟨by decide +kernel, by decide⟩ (Nat.le_of_ble_eq_true rfl) hroom (fun H2 locs2 h2 => ?_)
  exact lv_icmp_eq cx.1 cx.2.1 dl_459.1 (tgt := 1654) (by decide) (fun _ => kk I2 J2 H2 locs2 h2 hR2) (fun hne => absurd rfl hne)
theorem qc_8 (cx : qC p s m c b L xs) (hl : lv_has ls 4 [(3, .int (nI i)), (0, .ref b), (1, .ref (ad1 0)), (2, .ref (ad2 0))]) (hi : i + 5 < L) (hL : L ≤ 384) (hroom : cells ≤ 600000 ∧ slots ≤ 7302250) (h : qH dC dI cA ad1 (zCs, zCr, I) ad2 (zMs, zMr, J) s H locs) (hR : rR I J)
    (kk : ∀ (I2 J2 : zI) (H2 : Heap) (locs2 : List Loc), qH dC dI cA ad1 (zCs, zCr, I2) ad2 (zMs, zMr, J2) s H2 locs2 → rR I2 J2 → W p l e room_1 s m #[Value.ref b] below meth c H2 locs2 cells slots Q (F0 m 1654 ls [])) : W p l e room_1 s m #[Value.ref b] below meth c H locs cells slots Q (F0 m 464 ls []) := by
  obtain ⟨r, I2, J2, e1, e2, hR2⟩ := sim_plain hR
  refine lv_aload_n cx.1 cx.2.1 dl_464.1 rfl (lv_at hl 2 rfl) ?_
  refine q_call (av := []) (st := []) (x := r) (I2 := I2) cx h hl.1 dl_465 ca_30 qw_542 qw_543 qw_544 zCs_0 zcl_11 rfl (mt_fc_T_plain e1) rfl ⟨by decide +kernel, by decide⟩ (Nat.le_of_ble_eq_true rfl) hroom (fun H1 locs1 h1 => ?_)
  refine lv_aload_n cx.1 cx.2.1 dl_468.1 rfl (lv_at hl 3 rfl) ?_
  refine q_call2 (av := []) (st := [.int r]) (x := r) (I2 := J2) cx h1 hl.1 dl_469 ca_168 qw_1248 qw_1249 qw_1250 zMs_0 zcl_12 rfl (mt_fm_plain e2) rfl ⟨by decide +kernel, by decide⟩ (Nat.le_of_ble_eq_true rfl) hroom (fun H2 locs2 h2 => ?_)
  exact lv_icmp_eq cx.1 cx.2.1 dl_472.1 (tgt := 1654) (by decide) (fun _ => kk I2 J2 H2 locs2 h2 hR2) (fun hne => absurd rfl hne)
theorem qc_9 (cx : qC p s m c b L xs) (hl : lv_has ls 4 [(3, .int (nI i)), (0, .ref b), (1, .ref (ad1 0)), (2, .ref (ad2 0))]) (hi : i + 5 < L) (hL : L ≤ 384) (hroom : cells ≤ 600000 ∧ slots ≤ 7302250) (h : qH dC dI cA ad1 (zCs, zCr, I) ad2 (zMs, zMr, J) s H locs) (hR : rR I J)
    (kk : ∀ (I2 J2 : zI) (H2 : Heap) (locs2 : List Loc), qH dC dI cA ad1 (zCs, zCr, I2) ad2 (zMs, zMr, J2) s H2 locs2 → rR I2 J2 → W p l e room_1 s m #[Value.ref b] below meth c H2 locs2 cells slots Q (F0 m 1654 ls [])) : W p l e room_1 s m #[Value.ref b] below meth c H locs cells slots Q (F0 m 477 ls []) := by
  obtain ⟨r, I2, J2, e1, e2, hR2⟩ := sim_feed hR (((Int32.toInt64 (xs (i + 1))) <<< (Int32.toInt64 32 &&& 63)) ||| ((Int32.toInt64 (xs (i + 2))) &&& 4294967295)) (xs (i + 3))
  refine lv_aload_n cx.1 cx.2.1 dl_477.1 rfl (lv_at hl 2 rfl) ?_
  refine q_ld (k := 1) cx h.2.2.2.2 hl dl_478 dl_479 dl_480 dl_481 dl_482 (by decide) (by omega) hL ?_
  refine lv_i2l cx.1 cx.2.1 dl_483.1 rfl ?_
  refine lv_bipush cx.1 cx.2.1 dl_484.1 (v := 32) (by decide) ?_
  refine lv_lshl cx.1 cx.2.1 dl_486.1 rfl ?_
  refine q_ld (k := 2) cx h.2.2.2.2 hl dl_487 dl_488 dl_489 dl_490 dl_491 (by decide) (by omega) hL ?_
  refine lv_i2l cx.1 cx.2.1 dl_492.1 rfl ?_
  refine lv_ldc2 cx.1 cx.2.1 cx.2.2.2.1 (cx.2.2.2.2.1 _ qw_1615) dl_493.1 ?_
  refine lv_land cx.1 cx.2.1 dl_496.1 ?_
  refine lv_lor cx.1 cx.2.1 dl_497.1 ?_
  refine q_ld (k := 3) cx h.2.2.2.2 hl dl_498 dl_499 dl_500 dl_501 dl_502 (by decide) (by omega) hL ?_
  refine q_call (av := [.inr (.inl (((Int32.toInt64 (xs (i + 1))) <<< (Int32.toInt64 32 &&& 63)) ||| ((Int32.toInt64 (xs (i + 2))) &&& 4294967295))), .inl (xs (i + 3))]) (st := []) (x := r) (I2 := I2) cx h hl.1 dl_503 ca_32 qw_551 qw_552 qw_553 zCs_0 zcl_11 rfl (mt_fc_T_feed e1) rfl ⟨by decide +kernel, by decide⟩ (Nat.le_of_ble_eq_true rfl) hroom (fun H1 locs1 h1 => ?_)
  refine lv_aload_n cx.1 cx.2.1 dl_506.1 rfl (lv_at hl 3 rfl) ?_
  refine q_ld (k := 1) cx h1.2.2.2.2 hl dl_507 dl_508 dl_509 dl_510 dl_511 (by decide) (by omega) hL ?_
  refine lv_i2l cx.1 cx.2.1 dl_512.1 rfl ?_
  refine lv_bipush cx.1 cx.2.1 dl_513.1 (v := 32) (by decide) ?_
  refine lv_lshl cx.1 cx.2.1 dl_515.1 rfl ?_
  refine q_ld (k := 2) cx h1.2.2.2.2 hl dl_516 dl_517 dl_518 dl_519 dl_520 (by decide) (by omega) hL ?_
  refine lv_i2l cx.1 cx.2.1 dl_521.1 rfl ?_
  refine lv_ldc2 cx.1 cx.2.1 cx.2.2.2.1 (cx.2.2.2.2.1 _ qw_1615) dl_522.1 ?_
  refine lv_land cx.1 cx.2.1 dl_525.1 ?_
  refine lv_lor cx.1 cx.2.1 dl_526.1 ?_
  refine q_ld (k := 3) cx h1.2.2.2.2 hl dl_527 dl_528 dl_529 dl_530 dl_531 (by decide) (by omega) hL ?_
  refine q_call2 (av := [.inr (.inl (((Int32.toInt64 (xs (i + 1))) <<< (Int32.toInt64 32 &&& 63)) ||| ((Int32.toInt64 (xs (i + 2))) &&& 4294967295))), .inl (xs (i + 3))]) (st := [.int r]) (x := r) (I2 := J2) cx h1 hl.1 dl_532 ca_169 qw_1252 qw_1253 qw_1254 zMs_0 zcl_12 rfl (mt_fm_feed e2) rfl ⟨by decide +kernel, by decide⟩ (Nat.le_of_ble_eq_true rfl) hroom (fun H2 locs2 h2 => ?_)
  exact lv_icmp_eq cx.1 cx.2.1 dl_535.1 (tgt := 1654) (by decide) (fun _ => kk I2 J2 H2 locs2 h2 hR2) (fun hne => absurd rfl hne)
theorem qc_10 (cx : qC p s m c b L xs) (hl : lv_has ls 4 [(3, .int (nI i)), (0, .ref b), (1, .ref (ad1 0)), (2, .ref (ad2 0))]) (hi : i + 5 < L) (hL : L ≤ 384) (hroom : cells ≤ 600000 ∧ slots ≤ 7302250) (h : qH dC dI cA ad1 (zCs, zCr, I) ad2 (zMs, zMr, J) s H locs) (hR : rR I J)
    (kk : ∀ (I2 J2 : zI) (H2 : Heap) (locs2 : List Loc), qH dC dI cA ad1 (zCs, zCr, I2) ad2 (zMs, zMr, J2) s H2 locs2 → rR I2 J2 → W p l e room_1 s m #[Value.ref b] below meth c H2 locs2 cells slots Q (F0 m 1654 ls [])) : W p l e room_1 s m #[Value.ref b] below meth c H locs cells slots Q (F0 m 540 ls []) := by
  obtain ⟨r, I2, J2, e1, e2, hR2⟩ := sim_text hR (xs (i + 1))
  refine lv_aload_n cx.1 cx.2.1 dl_540.1 rfl (lv_at hl 2 rfl) ?_
  refine q_ld (k := 1) cx h.2.2.2.2 hl dl_541 dl_542 dl_543 dl_544 dl_545 (by decide) (by omega) hL ?_
  refine q_call (av := [.inl (xs (i + 1))]) (st := []) (x := r) (I2 := I2) cx h hl.1 dl_546 ca_33 qw_555 qw_556 qw_557 zCs_0 zcl_11 rfl (mt_fc_T_text e1) rfl ⟨by decide +kernel, by decide⟩ (Nat.le_of_ble_eq_true rfl) hroom (fun H1 locs1 h1 => ?_)
  refine lv_aload_n cx.1 cx.2.1 dl_549.1 rfl (lv_at hl 3 rfl) ?_
  refine q_ld (k := 1) cx h1.2.2.2.2 hl dl_550 dl_551 dl_552 dl_553 dl_554 (by decide) (by omega) hL ?_
  refine q_call2 (av := [.inl (xs (i + 1))]) (st := [.int r]) (x := r) (I2 := J2) cx h1 hl.1 dl_555 ca_170 qw_1257 qw_1258 qw_1259 zMs_0 zcl_12 rfl (mt_fm_text e2) rfl ⟨by decide +kernel, by decide⟩ (Nat.le_of_ble_eq_true rfl) hroom (fun H2 locs2 h2 => ?_)
  exact lv_icmp_eq cx.1 cx.2.1 dl_558.1 (tgt := 1654) (by decide) (fun _ => kk I2 J2 H2 locs2 h2 hR2) (fun hne => absurd rfl hne)
theorem qc_11 (cx : qC p s m c b L xs) (hl : lv_has ls 4 [(3, .int (nI i)), (0, .ref b), (1, .ref (ad1 0)), (2, .ref (ad2 0))]) (hi : i + 5 < L) (hL : L ≤ 384) (hroom : cells ≤ 600000 ∧ slots ≤ 7302250) (h : qH dC dI cA ad1 (zCs, zCr, I) ad2 (zMs, zMr, J) s H locs) (hR : rR I J)
    (kk : ∀ (I2 J2 : zI) (H2 : Heap) (locs2 : List Loc), qH dC dI cA ad1 (zCs, zCr, I2) ad2 (zMs, zMr, J2) s H2 locs2 → rR I2 J2 → W p l e room_1 s m #[Value.ref b] below meth c H2 locs2 cells slots Q (F0 m 1654 ls [])) : W p l e room_1 s m #[Value.ref b] below meth c H locs cells slots Q (F0 m 563 ls []) := by
  obtain ⟨r, I2, J2, e1, e2, hR2⟩ := sim_untell hR (xs (i + 1))
  refine lv_aload_n cx.1 cx.2.1 dl_563.1 rfl (lv_at hl 2 rfl) ?_
  refine q_ld (k := 1) cx h.2.2.2.2 hl dl_564 dl_565 dl_566 dl_567 dl_568 (by decide) (by omega) hL ?_
  refine q_call (av := [.inl (xs (i + 1))]) (st := []) (x := r) (I2 := I2) cx h hl.1 dl_569 ca_48 qw_623 qw_624 qw_625 zCs_0 zcl_11 rfl (mt_fc_T_untell e1) rfl ⟨by decide +kernel, by decide⟩ (Nat.le_of_ble_eq_true rfl) hroom (fun H1 locs1 h1 => ?_)
  refine lv_aload_n cx.1 cx.2.1 dl_572.1 rfl (lv_at hl 3 rfl) ?_
  refine q_ld (k := 1) cx h1.2.2.2.2 hl dl_573 dl_574 dl_575 dl_576 dl_577 (by decide) (by omega) hL ?_
  refine q_call2 (av := [.inl (xs (i + 1))]) (st := [.int r]) (x := r) (I2 := J2) cx h1 hl.1 dl_578 ca_188 qw_1349 qw_1350 qw_1351 zMs_0 zcl_12 rfl (mt_fm_untell e2) rfl ⟨by decide +kernel, by decide⟩ (Nat.le_of_ble_eq_true rfl) hroom (fun H2 locs2 h2 => ?_)
  exact lv_icmp_eq cx.1 cx.2.1 dl_581.1 (tgt := 1654) (by decide) (fun _ => kk I2 J2 H2 locs2 h2 hR2) (fun hne => absurd rfl hne)
theorem qc_12 (cx : qC p s m c b L xs) (hl : lv_has ls 4 [(3, .int (nI i)), (0, .ref b), (1, .ref (ad1 0)), (2, .ref (ad2 0))]) (hi : i + 5 < L) (hL : L ≤ 384) (hroom : cells ≤ 600000 ∧ slots ≤ 7302250) (h : qH dC dI cA ad1 (zCs, zCr, I) ad2 (zMs, zMr, J) s H locs) (hR : rR I J)
    (kk : ∀ (I2 J2 : zI) (H2 : Heap) (locs2 : List Loc), qH dC dI cA ad1 (zCs, zCr, I2) ad2 (zMs, zMr, J2) s H2 locs2 → rR I2 J2 → W p l e room_1 s m #[Value.ref b] below meth c H2 locs2 cells slots Q (F0 m 1654 ls [])) : W p l e room_1 s m #[Value.ref b] below meth c H locs cells slots Q (F0 m 586 ls []) := by
  obtain ⟨r, I2, J2, e1, e2, hR2⟩ := sim_soonest hR (xs (i + 1)) (xs (i + 2))
  refine lv_aload_n cx.1 cx.2.1 dl_586.1 rfl (lv_at hl 2 rfl) ?_
  refine q_ld (k := 1) cx h.2.2.2.2 hl dl_587 dl_588 dl_589 dl_590 dl_591 (by decide) (by omega) hL ?_
  refine q_ld (k := 2) cx h.2.2.2.2 hl dl_592 dl_593 dl_594 dl_595 dl_596 (by decide) (by omega) hL ?_
  refine q_call (av := [.inl (xs (i + 1)), .inl (xs (i + 2))]) (st := []) (x := r) (I2 := I2) cx h hl.1 dl_597 ca_49 qw_627 qw_628 qw_629 zCs_0 zcl_11 rfl (mt_fc_T_soonest e1) rfl ⟨by decide +kernel, by decide⟩ (Nat.le_of_ble_eq_true rfl) hroom (fun H1 locs1 h1 => ?_)
  refine lv_aload_n cx.1 cx.2.1 dl_600.1 rfl (lv_at hl 3 rfl) ?_
  refine q_ld (k := 1) cx h1.2.2.2.2 hl dl_601 dl_602 dl_603 dl_604 dl_605 (by decide) (by omega) hL ?_
  refine q_ld (k := 2) cx h1.2.2.2.2 hl dl_606 dl_607 dl_608 dl_609 dl_610 (by decide) (by omega) hL ?_
  refine q_call2 (av := [.inl (xs (i + 1)), .inl (xs (i + 2))]) (st := [.int r]) (x := r) (I2 := J2) cx h1 hl.1 dl_611 ca_189 qw_1353 qw_1354 qw_1355 zMs_0 zcl_12 rfl (mt_fm_soonest e2) rfl ⟨by decide +kernel, by decide⟩ (Nat.le_of_ble_eq_true rfl) hroom (fun H2 locs2 h2 => ?_)
  exact lv_icmp_eq cx.1 cx.2.1 dl_614.1 (tgt := 1654) (by decide) (fun _ => kk I2 J2 H2 locs2 h2 hR2) (fun hne => absurd rfl hne)
theorem qc_13 (cx : qC p s m c b L xs) (hl : lv_has ls 4 [(3, .int (nI i)), (0, .ref b), (1, .ref (ad1 0)), (2, .ref (ad2 0))]) (hi : i + 5 < L) (hL : L ≤ 384) (hroom : cells ≤ 600000 ∧ slots ≤ 7302250) (h : qH dC dI cA ad1 (zCs, zCr, I) ad2 (zMs, zMr, J) s H locs) (hR : rR I J)
    (kk : ∀ (I2 J2 : zI) (H2 : Heap) (locs2 : List Loc), qH dC dI cA ad1 (zCs, zCr, I2) ad2 (zMs, zMr, J2) s H2 locs2 → rR I2 J2 → W p l e room_1 s m #[Value.ref b] below meth c H2 locs2 cells slots Q (F0 m 1654 ls [])) : W p l e room_1 s m #[Value.ref b] below meth c H locs cells slots Q (F0 m 619 ls []) := by
  obtain ⟨r, I2, J2, e1, e2, hR2⟩ := sim_reached hR (xs (i + 1))
  refine lv_aload_n cx.1 cx.2.1 dl_619.1 rfl (lv_at hl 2 rfl) ?_
  refine q_ld (k := 1) cx h.2.2.2.2 hl dl_620 dl_621 dl_622 dl_623 dl_624 (by decide) (by omega) hL ?_
  refine q_call (av := [.inl (xs (i + 1))]) (st := []) (x := r) (I2 := I2) cx h hl.1 dl_625 ca_62 qw_686 qw_687 qw_688 zCs_0 zcl_11 rfl (mt_fc_T_reached e1) rfl ⟨by decide +kernel, by decide⟩ (Nat.le_of_ble_eq_true rfl) hroom (fun H1 locs1 h1 => ?_)
  refine lv_aload_n cx.1 cx.2.1 dl_628.1 rfl (lv_at hl 3 rfl) ?_
  refine q_ld (k := 1) cx h1.2.2.2.2 hl dl_629 dl_630 dl_631 dl_632 dl_633 (by decide) (by omega) hL ?_
  refine q_call2 (av := [.inl (xs (i + 1))]) (st := [.int r]) (x := r) (I2 := J2) cx h1 hl.1 dl_634 ca_198 qw_1388 qw_1389 qw_1390 zMs_0 zcl_12 rfl (mt_fm_reached e2) rfl ⟨by decide +kernel, by decide⟩ (Nat.le_of_ble_eq_true rfl) hroom (fun H2 locs2 h2 => ?_)
  exact lv_icmp_eq cx.1 cx.2.1 dl_637.1 (tgt := 1654) (by decide) (fun _ => kk I2 J2 H2 locs2 h2 hR2) (fun hne => absurd rfl hne)
theorem qc_14 (cx : qC p s m c b L xs) (hl : lv_has ls 4 [(3, .int (nI i)), (0, .ref b), (1, .ref (ad1 0)), (2, .ref (ad2 0))]) (hi : i + 5 < L) (hL : L ≤ 384) (hroom : cells ≤ 600000 ∧ slots ≤ 7302250) (h : qH dC dI cA ad1 (zCs, zCr, I) ad2 (zMs, zMr, J) s H locs) (hR : rR I J)
    (kk : ∀ (I2 J2 : zI) (H2 : Heap) (locs2 : List Loc), qH dC dI cA ad1 (zCs, zCr, I2) ad2 (zMs, zMr, J2) s H2 locs2 → rR I2 J2 → W p l e room_1 s m #[Value.ref b] below meth c H2 locs2 cells slots Q (F0 m 1654 ls [])) : W p l e room_1 s m #[Value.ref b] below meth c H locs cells slots Q (F0 m 642 ls []) := by
  obtain ⟨r, I2, J2, e1, e2, hR2⟩ := sim_first hR (xs (i + 1)) (xs (i + 2))
  refine lv_aload_n cx.1 cx.2.1 dl_642.1 rfl (lv_at hl 2 rfl) ?_
  refine q_ld (k := 1) cx h.2.2.2.2 hl dl_643 dl_644 dl_645 dl_646 dl_647 (by decide) (by omega) hL ?_
  refine q_ld (k := 2) cx h.2.2.2.2 hl dl_648 dl_649 dl_650 dl_651 dl_652 (by decide) (by omega) hL ?_
  refine q_call (av := [.inl (xs (i + 1)), .inl (xs (i + 2))]) (st := []) (x := r) (I2 := I2) cx h hl.1 dl_653 ca_63 qw_690 qw_691 qw_692 zCs_0 zcl_11 rfl (mt_fc_T_first e1) rfl ⟨by decide +kernel, by decide⟩ (Nat.le_of_ble_eq_true rfl) hroom (fun H1 locs1 h1 => ?_)
  refine lv_aload_n cx.1 cx.2.1 dl_656.1 rfl (lv_at hl 3 rfl) ?_
  refine q_ld (k := 1) cx h1.2.2.2.2 hl dl_657 dl_658 dl_659 dl_660 dl_661 (by decide) (by omega) hL ?_
  refine q_ld (k := 2) cx h1.2.2.2.2 hl dl_662 dl_663 dl_664 dl_665 dl_666 (by decide) (by omega) hL ?_
  refine q_call2 (av := [.inl (xs (i + 1)), .inl (xs (i + 2))]) (st := [.int r]) (x := r) (I2 := J2) cx h1 hl.1 dl_667 ca_199 qw_1392 qw_1393 qw_1394 zMs_0 zcl_12 rfl (mt_fm_first e2) rfl ⟨by decide +kernel, by decide⟩ (Nat.le_of_ble_eq_true rfl) hroom (fun H2 locs2 h2 => ?_)
  exact lv_icmp_eq cx.1 cx.2.1 dl_670.1 (tgt := 1654) (by decide) (fun _ => kk I2 J2 H2 locs2 h2 hR2) (fun hne => absurd rfl hne)
theorem qc_15 (cx : qC p s m c b L xs) (hl : lv_has ls 4 [(3, .int (nI i)), (0, .ref b), (1, .ref (ad1 0)), (2, .ref (ad2 0))]) (hi : i + 5 < L) (hL : L ≤ 384) (hroom : cells ≤ 600000 ∧ slots ≤ 7302250) (h : qH dC dI cA ad1 (zCs, zCr, I) ad2 (zMs, zMr, J) s H locs) (hR : rR I J)
    (kk : ∀ (I2 J2 : zI) (H2 : Heap) (locs2 : List Loc), qH dC dI cA ad1 (zCs, zCr, I2) ad2 (zMs, zMr, J2) s H2 locs2 → rR I2 J2 → W p l e room_1 s m #[Value.ref b] below meth c H2 locs2 cells slots Q (F0 m 1654 ls [])) : W p l e room_1 s m #[Value.ref b] below meth c H locs cells slots Q (F0 m 675 ls []) := by
  obtain ⟨r, I2, J2, e1, e2, hR2⟩ := sim_walk hR (xs (i + 1)) (xs (i + 2)) (xs (i + 3))
  refine lv_aload_n cx.1 cx.2.1 dl_675.1 rfl (lv_at hl 2 rfl) ?_
  refine q_ld (k := 1) cx h.2.2.2.2 hl dl_676 dl_677 dl_678 dl_679 dl_680 (by decide) (by omega) hL ?_
  refine q_ld (k := 2) cx h.2.2.2.2 hl dl_681 dl_682 dl_683 dl_684 dl_685 (by decide) (by omega) hL ?_
  refine q_ld (k := 3) cx h.2.2.2.2 hl dl_686 dl_687 dl_688 dl_689 dl_690 (by decide) (by omega) hL ?_
  refine q_call (av := [.inl (xs (i + 1)), .inl (xs (i + 2)), .inl (xs (i + 3))]) (st := []) (x := r) (I2 := I2) cx h hl.1 dl_691 ca_64 qw_694 qw_695 qw_696 zCs_0 zcl_11 rfl (mt_fc_T_walk e1) rfl ⟨by decide +kernel, by decide⟩ (Nat.le_of_ble_eq_true rfl) hroom (fun H1 locs1 h1 => ?_)
  refine lv_aload_n cx.1 cx.2.1 dl_694.1 rfl (lv_at hl 3 rfl) ?_
  refine q_ld (k := 1) cx h1.2.2.2.2 hl dl_695 dl_696 dl_697 dl_698 dl_699 (by decide) (by omega) hL ?_
  refine q_ld (k := 2) cx h1.2.2.2.2 hl dl_700 dl_701 dl_702 dl_703 dl_704 (by decide) (by omega) hL ?_
  refine q_ld (k := 3) cx h1.2.2.2.2 hl dl_705 dl_706 dl_707 dl_708 dl_709 (by decide) (by omega) hL ?_
  refine q_call2 (av := [.inl (xs (i + 1)), .inl (xs (i + 2)), .inl (xs (i + 3))]) (st := [.int r]) (x := r) (I2 := J2) cx h1 hl.1 dl_710 ca_201 qw_1400 qw_1401 qw_1402 zMs_0 zcl_12 rfl (mt_fm_walk e2) rfl ⟨by decide +kernel, by decide⟩ (Nat.le_of_ble_eq_true rfl) hroom (fun H2 locs2 h2 => ?_)
  exact lv_icmp_eq cx.1 cx.2.1 dl_713.1 (tgt := 1654) (by decide) (fun _ => kk I2 J2 H2 locs2 h2 hR2) (fun hne => absurd rfl hne)
theorem qc_16 (cx : qC p s m c b L xs) (hl : lv_has ls 4 [(3, .int (nI i)), (0, .ref b), (1, .ref (ad1 0)), (2, .ref (ad2 0))]) (hi : i + 5 < L) (hL : L ≤ 384) (hroom : cells ≤ 600000 ∧ slots ≤ 7302250) (h : qH dC dI cA ad1 (zCs, zCr, I) ad2 (zMs, zMr, J) s H locs) (hR : rR I J)
    (kk : ∀ (I2 J2 : zI) (H2 : Heap) (locs2 : List Loc), qH dC dI cA ad1 (zCs, zCr, I2) ad2 (zMs, zMr, J2) s H2 locs2 → rR I2 J2 → W p l e room_1 s m #[Value.ref b] below meth c H2 locs2 cells slots Q (F0 m 1654 ls [])) : W p l e room_1 s m #[Value.ref b] below meth c H locs cells slots Q (F0 m 718 ls []) := by
  obtain ⟨r, I2, J2, e1, e2, hR2⟩ := sim_walkIs hR (xs (i + 1)) (xs (i + 2))
  refine lv_aload_n cx.1 cx.2.1 dl_718.1 rfl (lv_at hl 2 rfl) ?_
  refine q_ld (k := 1) cx h.2.2.2.2 hl dl_719 dl_720 dl_721 dl_722 dl_723 (by decide) (by omega) hL ?_
  refine q_ld (k := 2) cx h.2.2.2.2 hl dl_724 dl_725 dl_726 dl_727 dl_728 (by decide) (by omega) hL ?_
  refine q_call (av := [.inl (xs (i + 1)), .inl (xs (i + 2))]) (st := []) (x := r) (I2 := I2) cx h hl.1 dl_729 ca_67 qw_707 qw_708 qw_709 zCs_0 zcl_11 rfl (mt_fc_T_walkIs e1) rfl ⟨by decide +kernel, by decide⟩ (Nat.le_of_ble_eq_true rfl) hroom (fun H1 locs1 h1 => ?_)
  refine lv_aload_n cx.1 cx.2.1 dl_732.1 rfl (lv_at hl 3 rfl) ?_
  refine q_ld (k := 1) cx h1.2.2.2.2 hl dl_733 dl_734 dl_735 dl_736 dl_737 (by decide) (by omega) hL ?_
  refine q_ld (k := 2) cx h1.2.2.2.2 hl dl_738 dl_739 dl_740 dl_741 dl_742 (by decide) (by omega) hL ?_
  refine q_call2 (av := [.inl (xs (i + 1)), .inl (xs (i + 2))]) (st := [.int r]) (x := r) (I2 := J2) cx h1 hl.1 dl_743 ca_202 qw_1404 qw_1405 qw_1406 zMs_0 zcl_12 rfl (mt_fm_walkIs e2) rfl ⟨by decide +kernel, by decide⟩ (Nat.le_of_ble_eq_true rfl) hroom (fun H2 locs2 h2 => ?_)
  exact lv_icmp_eq cx.1 cx.2.1 dl_746.1 (tgt := 1654) (by decide) (fun _ => kk I2 J2 H2 locs2 h2 hR2) (fun hne => absurd rfl hne)
theorem qc_17 (cx : qC p s m c b L xs) (hl : lv_has ls 4 [(3, .int (nI i)), (0, .ref b), (1, .ref (ad1 0)), (2, .ref (ad2 0))]) (hi : i + 5 < L) (hL : L ≤ 384) (hroom : cells ≤ 600000 ∧ slots ≤ 7302250) (h : qH dC dI cA ad1 (zCs, zCr, I) ad2 (zMs, zMr, J) s H locs) (hR : rR I J)
    (kk : ∀ (I2 J2 : zI) (H2 : Heap) (locs2 : List Loc), qH dC dI cA ad1 (zCs, zCr, I2) ad2 (zMs, zMr, J2) s H2 locs2 → rR I2 J2 → W p l e room_1 s m #[Value.ref b] below meth c H2 locs2 cells slots Q (F0 m 1654 ls [])) : W p l e room_1 s m #[Value.ref b] below meth c H locs cells slots Q (F0 m 751 ls []) := by
  obtain ⟨r, I2, J2, e1, e2, hR2⟩ := sim_as hR (xs (i + 1)) (xs (i + 2))
  refine lv_aload_n cx.1 cx.2.1 dl_751.1 rfl (lv_at hl 2 rfl) ?_
  refine q_ld (k := 1) cx h.2.2.2.2 hl dl_752 dl_753 dl_754 dl_755 dl_756 (by decide) (by omega) hL ?_
  refine q_ld (k := 2) cx h.2.2.2.2 hl dl_757 dl_758 dl_759 dl_760 dl_761 (by decide) (by omega) hL ?_
  refine q_call (av := [.inl (xs (i + 1)), .inl (xs (i + 2))]) (st := []) (x := r) (I2 := I2) cx h hl.1 dl_762 ca_74 qw_738 qw_739 qw_740 zCs_0 zcl_11 rfl (mt_fc_T_as e1) rfl ⟨by decide +kernel, by decide⟩ (Nat.le_of_ble_eq_true rfl) hroom (fun H1 locs1 h1 => ?_)
  refine lv_aload_n cx.1 cx.2.1 dl_765.1 rfl (lv_at hl 3 rfl) ?_
  refine q_ld (k := 1) cx h1.2.2.2.2 hl dl_766 dl_767 dl_768 dl_769 dl_770 (by decide) (by omega) hL ?_
  refine q_ld (k := 2) cx h1.2.2.2.2 hl dl_771 dl_772 dl_773 dl_774 dl_775 (by decide) (by omega) hL ?_
  refine q_call2 (av := [.inl (xs (i + 1)), .inl (xs (i + 2))]) (st := [.int r]) (x := r) (I2 := J2) cx h1 hl.1 dl_776 ca_206 qw_1420 qw_1421 qw_1422 zMs_0 zcl_12 rfl (mt_fm_as e2) rfl ⟨by decide +kernel, by decide⟩ (Nat.le_of_ble_eq_true rfl) hroom (fun H2 locs2 h2 => ?_)
  exact lv_icmp_eq cx.1 cx.2.1 dl_779.1 (tgt := 1654) (by decide) (fun _ => kk I2 J2 H2 locs2 h2 hR2) (fun hne => absurd rfl hne)
theorem qc_18 (cx : qC p s m c b L xs) (hl : lv_has ls 4 [(3, .int (nI i)), (0, .ref b), (1, .ref (ad1 0)), (2, .ref (ad2 0))]) (hi : i + 5 < L) (hL : L ≤ 384) (hroom : cells ≤ 600000 ∧ slots ≤ 7302250) (h : qH dC dI cA ad1 (zCs, zCr, I) ad2 (zMs, zMr, J) s H locs) (hR : rR I J)
    (kk : ∀ (I2 J2 : zI) (H2 : Heap) (locs2 : List Loc), qH dC dI cA ad1 (zCs, zCr, I2) ad2 (zMs, zMr, J2) s H2 locs2 → rR I2 J2 → W p l e room_1 s m #[Value.ref b] below meth c H2 locs2 cells slots Q (F0 m 1654 ls [])) : W p l e room_1 s m #[Value.ref b] below meth c H locs cells slots Q (F0 m 784 ls []) := by
  obtain ⟨r, I2, J2, e1, e2, hR2⟩ := sim_set hR (xs (i + 1)) (xs (i + 2)) (xs (i + 3))
  refine lv_aload_n cx.1 cx.2.1 dl_784.1 rfl (lv_at hl 2 rfl) ?_
  refine q_ld (k := 1) cx h.2.2.2.2 hl dl_785 dl_786 dl_787 dl_788 dl_789 (by decide) (by omega) hL ?_
  refine q_ld (k := 2) cx h.2.2.2.2 hl dl_790 dl_791 dl_792 dl_793 dl_794 (by decide) (by omega) hL ?_
  refine q_ld (k := 3) cx h.2.2.2.2 hl dl_795 dl_796 dl_797 dl_798 dl_799 (by decide) (by omega) hL ?_
  refine q_call (av := [.inl (xs (i + 1)), .inl (xs (i + 2)), .inl (xs (i + 3))]) (st := []) (x := r) (I2 := I2) cx h hl.1 dl_800 ca_76 qw_747 qw_748 qw_749 zCs_0 zcl_11 rfl (mt_fc_T_set e1) rfl ⟨by decide +kernel, by decide⟩ (Nat.le_of_ble_eq_true rfl) hroom (fun H1 locs1 h1 => ?_)
  refine lv_aload_n cx.1 cx.2.1 dl_803.1 rfl (lv_at hl 3 rfl) ?_
  refine q_ld (k := 1) cx h1.2.2.2.2 hl dl_804 dl_805 dl_806 dl_807 dl_808 (by decide) (by omega) hL ?_
  refine q_ld (k := 2) cx h1.2.2.2.2 hl dl_809 dl_810 dl_811 dl_812 dl_813 (by decide) (by omega) hL ?_
  refine q_ld (k := 3) cx h1.2.2.2.2 hl dl_814 dl_815 dl_816 dl_817 dl_818 (by decide) (by omega) hL ?_
  refine q_call2 (av := [.inl (xs (i + 1)), .inl (xs (i + 2)), .inl (xs (i + 3))]) (st := [.int r]) (x := r) (I2 := J2) cx h1 hl.1 dl_819 ca_208 qw_1428 qw_1429 qw_1430 zMs_0 zcl_12 rfl (mt_fm_set e2) rfl ⟨by decide +kernel, by decide⟩ (Nat.le_of_ble_eq_true rfl) hroom (fun H2 locs2 h2 => ?_)
  exact lv_icmp_eq cx.1 cx.2.1 dl_822.1 (tgt := 1654) (by decide) (fun _ => kk I2 J2 H2 locs2 h2 hR2) (fun hne => absurd rfl hne)
theorem qc_19 (cx : qC p s m c b L xs) (hl : lv_has ls 4 [(3, .int (nI i)), (0, .ref b), (1, .ref (ad1 0)), (2, .ref (ad2 0))]) (hi : i + 5 < L) (hL : L ≤ 384) (hroom : cells ≤ 600000 ∧ slots ≤ 7302250) (h : qH dC dI cA ad1 (zCs, zCr, I) ad2 (zMs, zMr, J) s H locs) (hR : rR I J)
    (kk : ∀ (I2 J2 : zI) (H2 : Heap) (locs2 : List Loc), qH dC dI cA ad1 (zCs, zCr, I2) ad2 (zMs, zMr, J2) s H2 locs2 → rR I2 J2 → W p l e room_1 s m #[Value.ref b] below meth c H2 locs2 cells slots Q (F0 m 1654 ls [])) : W p l e room_1 s m #[Value.ref b] below meth c H locs cells slots Q (F0 m 827 ls []) := by
  obtain ⟨r, I2, J2, e1, e2, hR2⟩ := sim_gone hR (xs (i + 1)) (xs (i + 2)) (xs (i + 3))
  refine lv_aload_n cx.1 cx.2.1 dl_827.1 rfl (lv_at hl 2 rfl) ?_
  refine q_ld (k := 1) cx h.2.2.2.2 hl dl_828 dl_829 dl_830 dl_831 dl_832 (by decide) (by omega) hL ?_
  refine q_ld (k := 2) cx h.2.2.2.2 hl dl_833 dl_834 dl_835 dl_836 dl_837 (by decide) (by omega) hL ?_
  refine q_ld (k := 3) cx h.2.2.2.2 hl dl_838 dl_839 dl_840 dl_841 dl_842 (by decide) (by omega) hL ?_
  refine q_call (av := [.inl (xs (i + 1)), .inl (xs (i + 2)), .inl (xs (i + 3))]) (st := []) (x := r) (I2 := I2) cx h hl.1 dl_843 ca_77 qw_751 qw_752 qw_753 zCs_0 zcl_11 rfl (mt_fc_T_gone e1) rfl ⟨by decide +kernel, by decide⟩ (Nat.le_of_ble_eq_true rfl) hroom (fun H1 locs1 h1 => ?_)
  refine lv_aload_n cx.1 cx.2.1 dl_846.1 rfl (lv_at hl 3 rfl) ?_
  refine q_ld (k := 1) cx h1.2.2.2.2 hl dl_847 dl_848 dl_849 dl_850 dl_851 (by decide) (by omega) hL ?_
  refine q_ld (k := 2) cx h1.2.2.2.2 hl dl_852 dl_853 dl_854 dl_855 dl_856 (by decide) (by omega) hL ?_
  refine q_ld (k := 3) cx h1.2.2.2.2 hl dl_857 dl_858 dl_859 dl_860 dl_861 (by decide) (by omega) hL ?_
  refine q_call2 (av := [.inl (xs (i + 1)), .inl (xs (i + 2)), .inl (xs (i + 3))]) (st := [.int r]) (x := r) (I2 := J2) cx h1 hl.1 dl_862 ca_209 qw_1432 qw_1433 qw_1434 zMs_0 zcl_12 rfl (mt_fm_gone e2) rfl ⟨by decide +kernel, by decide⟩ (Nat.le_of_ble_eq_true rfl) hroom (fun H2 locs2 h2 => ?_)
  exact lv_icmp_eq cx.1 cx.2.1 dl_865.1 (tgt := 1654) (by decide) (fun _ => kk I2 J2 H2 locs2 h2 hR2) (fun hne => absurd rfl hne)
theorem qc_20 (cx : qC p s m c b L xs) (hl : lv_has ls 4 [(3, .int (nI i)), (0, .ref b), (1, .ref (ad1 0)), (2, .ref (ad2 0))]) (hi : i + 5 < L) (hL : L ≤ 384) (hroom : cells ≤ 600000 ∧ slots ≤ 7302250) (h : qH dC dI cA ad1 (zCs, zCr, I) ad2 (zMs, zMr, J) s H locs) (hR : rR I J)
    (kk : ∀ (I2 J2 : zI) (H2 : Heap) (locs2 : List Loc), qH dC dI cA ad1 (zCs, zCr, I2) ad2 (zMs, zMr, J2) s H2 locs2 → rR I2 J2 → W p l e room_1 s m #[Value.ref b] below meth c H2 locs2 cells slots Q (F0 m 1654 ls [])) : W p l e room_1 s m #[Value.ref b] below meth c H locs cells slots Q (F0 m 870 ls []) := by
  obtain ⟨r, I2, J2, e1, e2, hR2⟩ := sim_stops hR (xs (i + 1))
  refine lv_aload_n cx.1 cx.2.1 dl_870.1 rfl (lv_at hl 2 rfl) ?_
  refine q_ld (k := 1) cx h.2.2.2.2 hl dl_871 dl_872 dl_873 dl_874 dl_875 (by decide) (by omega) hL ?_
  refine q_call (av := [.inl (xs (i + 1))]) (st := []) (x := r) (I2 := I2) cx h hl.1 dl_876 ca_79 qw_762 qw_763 qw_764 zCs_0 zcl_11 rfl (mt_fc_T_stops e1) rfl ⟨by decide +kernel, by decide⟩ (Nat.le_of_ble_eq_true rfl) hroom (fun H1 locs1 h1 => ?_)
  refine lv_aload_n cx.1 cx.2.1 dl_879.1 rfl (lv_at hl 3 rfl) ?_
  refine q_ld (k := 1) cx h1.2.2.2.2 hl dl_880 dl_881 dl_882 dl_883 dl_884 (by decide) (by omega) hL ?_
  refine q_call2 (av := [.inl (xs (i + 1))]) (st := [.int r]) (x := r) (I2 := J2) cx h1 hl.1 dl_885 ca_210 qw_1436 qw_1437 qw_1438 zMs_0 zcl_12 rfl (mt_fm_stops e2) rfl ⟨by decide +kernel, by decide⟩ (Nat.le_of_ble_eq_true rfl) hroom (fun H2 locs2 h2 => ?_)
  exact lv_icmp_eq cx.1 cx.2.1 dl_888.1 (tgt := 1654) (by decide) (fun _ => kk I2 J2 H2 locs2 h2 hR2) (fun hne => absurd rfl hne)
theorem qc_21 (cx : qC p s m c b L xs) (hl : lv_has ls 4 [(3, .int (nI i)), (0, .ref b), (1, .ref (ad1 0)), (2, .ref (ad2 0))]) (hi : i + 5 < L) (hL : L ≤ 384) (hroom : cells ≤ 600000 ∧ slots ≤ 7302250) (h : qH dC dI cA ad1 (zCs, zCr, I) ad2 (zMs, zMr, J) s H locs) (hR : rR I J)
    (kk : ∀ (I2 J2 : zI) (H2 : Heap) (locs2 : List Loc), qH dC dI cA ad1 (zCs, zCr, I2) ad2 (zMs, zMr, J2) s H2 locs2 → rR I2 J2 → W p l e room_1 s m #[Value.ref b] below meth c H2 locs2 cells slots Q (F0 m 1654 ls [])) : W p l e room_1 s m #[Value.ref b] below meth c H locs cells slots Q (F0 m 893 ls []) := by
  obtain ⟨r, I2, J2, e1, e2, hR2⟩ := sim_person hR (xs (i + 1))
  refine lv_aload_n cx.1 cx.2.1 dl_893.1 rfl (lv_at hl 2 rfl) ?_
  refine q_ld (k := 1) cx h.2.2.2.2 hl dl_894 dl_895 dl_896 dl_897 dl_898 (by decide) (by omega) hL ?_
  refine q_call (av := [.inl (xs (i + 1))]) (st := []) (x := r) (I2 := I2) cx h hl.1 dl_899 ca_80 qw_766 qw_767 qw_768 zCs_0 zcl_11 rfl (mt_fc_T_person e1) rfl ⟨by decide +kernel, by decide⟩ (Nat.le_of_ble_eq_true rfl) hroom (fun H1 locs1 h1 => ?_)
  refine lv_aload_n cx.1 cx.2.1 dl_902.1 rfl (lv_at hl 3 rfl) ?_
  refine q_ld (k := 1) cx h1.2.2.2.2 hl dl_903 dl_904 dl_905 dl_906 dl_907 (by decide) (by omega) hL ?_
  refine q_call2 (av := [.inl (xs (i + 1))]) (st := [.int r]) (x := r) (I2 := J2) cx h1 hl.1 dl_908 ca_211 qw_1440 qw_1441 qw_1442 zMs_0 zcl_12 rfl (mt_fm_person e2) rfl ⟨by decide +kernel, by decide⟩ (Nat.le_of_ble_eq_true rfl) hroom (fun H2 locs2 h2 => ?_)
  exact lv_icmp_eq cx.1 cx.2.1 dl_911.1 (tgt := 1654) (by decide) (fun _ => kk I2 J2 H2 locs2 h2 hR2) (fun hne => absurd rfl hne)
theorem qc_22 (cx : qC p s m c b L xs) (hl : lv_has ls 4 [(3, .int (nI i)), (0, .ref b), (1, .ref (ad1 0)), (2, .ref (ad2 0))]) (hi : i + 5 < L) (hL : L ≤ 384) (hroom : cells ≤ 600000 ∧ slots ≤ 7302250) (h : qH dC dI cA ad1 (zCs, zCr, I) ad2 (zMs, zMr, J) s H locs) (hR : rR I J)
    (kk : ∀ (I2 J2 : zI) (H2 : Heap) (locs2 : List Loc), qH dC dI cA ad1 (zCs, zCr, I2) ad2 (zMs, zMr, J2) s H2 locs2 → rR I2 J2 → W p l e room_1 s m #[Value.ref b] below meth c H2 locs2 cells slots Q (F0 m 1654 ls [])) : W p l e room_1 s m #[Value.ref b] below meth c H locs cells slots Q (F0 m 916 ls []) := by
  obtain ⟨r, I2, J2, e1, e2, hR2⟩ := sim_personIs hR (xs (i + 1)) (xs (i + 2))
  refine lv_aload_n cx.1 cx.2.1 dl_916.1 rfl (lv_at hl 2 rfl) ?_
  refine q_ld (k := 1) cx h.2.2.2.2 hl dl_917 dl_918 dl_919 dl_920 dl_921 (by decide) (by omega) hL ?_
  refine q_ld (k := 2) cx h.2.2.2.2 hl dl_922 dl_923 dl_924 dl_925 dl_926 (by decide) (by omega) hL ?_
  refine q_call (av := [.inl (xs (i + 1)), .inl (xs (i + 2))]) (st := []) (x := r) (I2 := I2) cx h hl.1 dl_927 ca_81 qw_770 qw_771 qw_772 zCs_0 zcl_11 rfl (mt_fc_T_personIs e1) rfl ⟨by decide +kernel, by decide⟩ (Nat.le_of_ble_eq_true rfl) hroom (fun H1 locs1 h1 => ?_)
  refine lv_aload_n cx.1 cx.2.1 dl_930.1 rfl (lv_at hl 3 rfl) ?_
  refine q_ld (k := 1) cx h1.2.2.2.2 hl dl_931 dl_932 dl_933 dl_934 dl_935 (by decide) (by omega) hL ?_
  refine q_ld (k := 2) cx h1.2.2.2.2 hl dl_936 dl_937 dl_938 dl_939 dl_940 (by decide) (by omega) hL ?_
  refine q_call2 (av := [.inl (xs (i + 1)), .inl (xs (i + 2))]) (st := [.int r]) (x := r) (I2 := J2) cx h1 hl.1 dl_941 ca_212 qw_1444 qw_1445 qw_1446 zMs_0 zcl_12 rfl (mt_fm_personIs e2) rfl ⟨by decide +kernel, by decide⟩ (Nat.le_of_ble_eq_true rfl) hroom (fun H2 locs2 h2 => ?_)
  exact lv_icmp_eq cx.1 cx.2.1 dl_944.1 (tgt := 1654) (by decide) (fun _ => kk I2 J2 H2 locs2 h2 hR2) (fun hne => absurd rfl hne)
theorem qc_23 (cx : qC p s m c b L xs) (hl : lv_has ls 4 [(3, .int (nI i)), (0, .ref b), (1, .ref (ad1 0)), (2, .ref (ad2 0))]) (hi : i + 5 < L) (hL : L ≤ 384) (hroom : cells ≤ 600000 ∧ slots ≤ 7302250) (h : qH dC dI cA ad1 (zCs, zCr, I) ad2 (zMs, zMr, J) s H locs) (hR : rR I J)
    (kk : ∀ (I2 J2 : zI) (H2 : Heap) (locs2 : List Loc), qH dC dI cA ad1 (zCs, zCr, I2) ad2 (zMs, zMr, J2) s H2 locs2 → rR I2 J2 → W p l e room_1 s m #[Value.ref b] below meth c H2 locs2 cells slots Q (F0 m 1654 ls [])) : W p l e room_1 s m #[Value.ref b] below meth c H locs cells slots Q (F0 m 949 ls []) := by
  obtain ⟨r, I2, J2, e1, e2, hR2⟩ := sim_cross hR (xs (i + 1)) (xs (i + 2))
  refine lv_aload_n cx.1 cx.2.1 dl_949.1 rfl (lv_at hl 2 rfl) ?_
  refine q_ld (k := 1) cx h.2.2.2.2 hl dl_950 dl_951 dl_952 dl_953 dl_954 (by decide) (by omega) hL ?_
  refine q_ld (k := 2) cx h.2.2.2.2 hl dl_955 dl_956 dl_957 dl_958 dl_959 (by decide) (by omega) hL ?_
  refine q_call (av := [.inl (xs (i + 1)), .inl (xs (i + 2))]) (st := []) (x := r) (I2 := I2) cx h hl.1 dl_960 ca_83 qw_779 qw_780 qw_781 zCs_0 zcl_11 rfl (mt_fc_T_cross e1) rfl ⟨by decide +kernel, by decide⟩ (Nat.le_of_ble_eq_true rfl) hroom (fun H1 locs1 h1 => ?_)
  refine lv_aload_n cx.1 cx.2.1 dl_963.1 rfl (lv_at hl 3 rfl) ?_
  refine q_ld (k := 1) cx h1.2.2.2.2 hl dl_964 dl_965 dl_966 dl_967 dl_968 (by decide) (by omega) hL ?_
  refine q_ld (k := 2) cx h1.2.2.2.2 hl dl_969 dl_970 dl_971 dl_972 dl_973 (by decide) (by omega) hL ?_
  refine q_call2 (av := [.inl (xs (i + 1)), .inl (xs (i + 2))]) (st := [.int r]) (x := r) (I2 := J2) cx h1 hl.1 dl_974 ca_213 qw_1448 qw_1449 qw_1450 zMs_0 zcl_12 rfl (mt_fm_cross e2) rfl ⟨by decide +kernel, by decide⟩ (Nat.le_of_ble_eq_true rfl) hroom (fun H2 locs2 h2 => ?_)
  exact lv_icmp_eq cx.1 cx.2.1 dl_977.1 (tgt := 1654) (by decide) (fun _ => kk I2 J2 H2 locs2 h2 hR2) (fun hne => absurd rfl hne)
theorem qc_24 (cx : qC p s m c b L xs) (hl : lv_has ls 4 [(3, .int (nI i)), (0, .ref b), (1, .ref (ad1 0)), (2, .ref (ad2 0))]) (hi : i + 5 < L) (hL : L ≤ 384) (hroom : cells ≤ 600000 ∧ slots ≤ 7302250) (h : qH dC dI cA ad1 (zCs, zCr, I) ad2 (zMs, zMr, J) s H locs) (hR : rR I J)
    (kk : ∀ (I2 J2 : zI) (H2 : Heap) (locs2 : List Loc), qH dC dI cA ad1 (zCs, zCr, I2) ad2 (zMs, zMr, J2) s H2 locs2 → rR I2 J2 → W p l e room_1 s m #[Value.ref b] below meth c H2 locs2 cells slots Q (F0 m 1654 ls [])) : W p l e room_1 s m #[Value.ref b] below meth c H locs cells slots Q (F0 m 982 ls []) := by
  obtain ⟨r, I2, J2, e1, e2, hR2⟩ := sim_stroll hR (xs (i + 1)) (xs (i + 2))
  refine lv_aload_n cx.1 cx.2.1 dl_982.1 rfl (lv_at hl 2 rfl) ?_
  refine q_ld (k := 1) cx h.2.2.2.2 hl dl_983 dl_984 dl_985 dl_986 dl_987 (by decide) (by omega) hL ?_
  refine q_ld (k := 2) cx h.2.2.2.2 hl dl_988 dl_989 dl_990 dl_991 dl_992 (by decide) (by omega) hL ?_
  refine q_call (av := [.inl (xs (i + 1)), .inl (xs (i + 2))]) (st := []) (x := r) (I2 := I2) cx h hl.1 dl_993 ca_85 qw_790 qw_791 qw_792 zCs_0 zcl_11 rfl (mt_fc_T_stroll e1) rfl ⟨by decide +kernel, by decide⟩ (Nat.le_of_ble_eq_true rfl) hroom (fun H1 locs1 h1 => ?_)
  refine lv_aload_n cx.1 cx.2.1 dl_996.1 rfl (lv_at hl 3 rfl) ?_
  refine q_ld (k := 1) cx h1.2.2.2.2 hl dl_997 dl_998 dl_999 dl_1000 dl_1001 (by decide) (by omega) hL ?_
  refine q_ld (k := 2) cx h1.2.2.2.2 hl dl_1002 dl_1003 dl_1004 dl_1005 dl_1006 (by decide) (by omega) hL ?_
  refine q_call2 (av := [.inl (xs (i + 1)), .inl (xs (i + 2))]) (st := [.int r]) (x := r) (I2 := J2) cx h1 hl.1 dl_1007 ca_216 qw_1461 qw_1462 qw_1463 zMs_0 zcl_12 rfl (mt_fm_stroll e2) rfl ⟨by decide +kernel, by decide⟩ (Nat.le_of_ble_eq_true rfl) hroom (fun H2 locs2 h2 => ?_)
  exact lv_icmp_eq cx.1 cx.2.1 dl_1010.1 (tgt := 1654) (by decide) (fun _ => kk I2 J2 H2 locs2 h2 hR2) (fun hne => absurd rfl hne)
theorem qc_25 (cx : qC p s m c b L xs) (hl : lv_has ls 4 [(3, .int (nI i)), (0, .ref b), (1, .ref (ad1 0)), (2, .ref (ad2 0))]) (hi : i + 5 < L) (hL : L ≤ 384) (hroom : cells ≤ 600000 ∧ slots ≤ 7302250) (h : qH dC dI cA ad1 (zCs, zCr, I) ad2 (zMs, zMr, J) s H locs) (hR : rR I J)
    (kk : ∀ (I2 J2 : zI) (H2 : Heap) (locs2 : List Loc), qH dC dI cA ad1 (zCs, zCr, I2) ad2 (zMs, zMr, J2) s H2 locs2 → rR I2 J2 → W p l e room_1 s m #[Value.ref b] below meth c H2 locs2 cells slots Q (F0 m 1654 ls [])) : W p l e room_1 s m #[Value.ref b] below meth c H locs cells slots Q (F0 m 1015 ls []) := by
  obtain ⟨r, I2, J2, e1, e2, hR2⟩ := sim_meet hR (xs (i + 1)) (xs (i + 2)) (xs (i + 3))
  refine lv_aload_n cx.1 cx.2.1 dl_1015.1 rfl (lv_at hl 2 rfl) ?_
  refine q_ld (k := 1) cx h.2.2.2.2 hl dl_1016 dl_1017 dl_1018 dl_1019 dl_1020 (by decide) (by omega) hL ?_
  refine q_ld (k := 2) cx h.2.2.2.2 hl dl_1021 dl_1022 dl_1023 dl_1024 dl_1025 (by decide) (by omega) hL ?_
  refine q_ld (k := 3) cx h.2.2.2.2 hl dl_1026 dl_1027 dl_1028 dl_1029 dl_1030 (by decide) (by omega) hL ?_
  refine q_call (av := [.inl (xs (i + 1)), .inl (xs (i + 2)), .inl (xs (i + 3))]) (st := []) (x := r) (I2 := I2) cx h hl.1 dl_1031 ca_87 qw_799 qw_800 qw_801 zCs_0 zcl_11 rfl (mt_fc_T_meet e1) rfl ⟨by decide +kernel, by decide⟩ (Nat.le_of_ble_eq_true rfl) hroom (fun H1 locs1 h1 => ?_)
  refine lv_aload_n cx.1 cx.2.1 dl_1034.1 rfl (lv_at hl 3 rfl) ?_
  refine q_ld (k := 1) cx h1.2.2.2.2 hl dl_1035 dl_1036 dl_1037 dl_1038 dl_1039 (by decide) (by omega) hL ?_
  refine q_ld (k := 2) cx h1.2.2.2.2 hl dl_1040 dl_1041 dl_1042 dl_1043 dl_1044 (by decide) (by omega) hL ?_
  refine q_ld (k := 3) cx h1.2.2.2.2 hl dl_1045 dl_1046 dl_1047 dl_1048 dl_1049 (by decide) (by omega) hL ?_
  refine q_call2 (av := [.inl (xs (i + 1)), .inl (xs (i + 2)), .inl (xs (i + 3))]) (st := [.int r]) (x := r) (I2 := J2) cx h1 hl.1 dl_1050 ca_218 qw_1470 qw_1471 qw_1472 zMs_0 zcl_12 rfl (mt_fm_meet e2) rfl ⟨by decide +kernel, by decide⟩ (Nat.le_of_ble_eq_true rfl) hroom (fun H2 locs2 h2 => ?_)
  exact lv_icmp_eq cx.1 cx.2.1 dl_1053.1 (tgt := 1654) (by decide) (fun _ => kk I2 J2 H2 locs2 h2 hR2) (fun hne => absurd rfl hne)
theorem qc_26 (cx : qC p s m c b L xs) (hl : lv_has ls 4 [(3, .int (nI i)), (0, .ref b), (1, .ref (ad1 0)), (2, .ref (ad2 0))]) (hi : i + 5 < L) (hL : L ≤ 384) (hroom : cells ≤ 600000 ∧ slots ≤ 7302250) (h : qH dC dI cA ad1 (zCs, zCr, I) ad2 (zMs, zMr, J) s H locs) (hR : rR I J)
    (kk : ∀ (I2 J2 : zI) (H2 : Heap) (locs2 : List Loc), qH dC dI cA ad1 (zCs, zCr, I2) ad2 (zMs, zMr, J2) s H2 locs2 → rR I2 J2 → W p l e room_1 s m #[Value.ref b] below meth c H2 locs2 cells slots Q (F0 m 1654 ls [])) : W p l e room_1 s m #[Value.ref b] below meth c H locs cells slots Q (F0 m 1058 ls []) := by
  obtain ⟨r, I2, J2, e1, e2, hR2⟩ := sim_thing hR (xs (i + 1)) (xs (i + 2)) (xs (i + 3))
  refine lv_aload_n cx.1 cx.2.1 dl_1058.1 rfl (lv_at hl 2 rfl) ?_
  refine q_ld (k := 1) cx h.2.2.2.2 hl dl_1059 dl_1060 dl_1061 dl_1062 dl_1063 (by decide) (by omega) hL ?_
  refine q_ld (k := 2) cx h.2.2.2.2 hl dl_1064 dl_1065 dl_1066 dl_1067 dl_1068 (by decide) (by omega) hL ?_
  refine q_ld (k := 3) cx h.2.2.2.2 hl dl_1069 dl_1070 dl_1071 dl_1072 dl_1073 (by decide) (by omega) hL ?_
  refine q_call (av := [.inl (xs (i + 1)), .inl (xs (i + 2)), .inl (xs (i + 3))]) (st := []) (x := r) (I2 := I2) cx h hl.1 dl_1074 ca_89 qw_807 qw_808 qw_809 zCs_0 zcl_11 rfl (mt_fc_T_thing e1) rfl ⟨by decide +kernel, by decide⟩ (Nat.le_of_ble_eq_true rfl) hroom (fun H1 locs1 h1 => ?_)
  refine lv_aload_n cx.1 cx.2.1 dl_1077.1 rfl (lv_at hl 3 rfl) ?_
  refine q_ld (k := 1) cx h1.2.2.2.2 hl dl_1078 dl_1079 dl_1080 dl_1081 dl_1082 (by decide) (by omega) hL ?_
  refine q_ld (k := 2) cx h1.2.2.2.2 hl dl_1083 dl_1084 dl_1085 dl_1086 dl_1087 (by decide) (by omega) hL ?_
  refine q_ld (k := 3) cx h1.2.2.2.2 hl dl_1088 dl_1089 dl_1090 dl_1091 dl_1092 (by decide) (by omega) hL ?_
  refine q_call2 (av := [.inl (xs (i + 1)), .inl (xs (i + 2)), .inl (xs (i + 3))]) (st := [.int r]) (x := r) (I2 := J2) cx h1 hl.1 dl_1093 ca_219 qw_1474 qw_1475 qw_1476 zMs_0 zcl_12 rfl (mt_fm_thing e2) rfl ⟨by decide +kernel, by decide⟩ (Nat.le_of_ble_eq_true rfl) hroom (fun H2 locs2 h2 => ?_)
  exact lv_icmp_eq cx.1 cx.2.1 dl_1096.1 (tgt := 1654) (by decide) (fun _ => kk I2 J2 H2 locs2 h2 hR2) (fun hne => absurd rfl hne)
theorem qc_27 (cx : qC p s m c b L xs) (hl : lv_has ls 4 [(3, .int (nI i)), (0, .ref b), (1, .ref (ad1 0)), (2, .ref (ad2 0))]) (hi : i + 5 < L) (hL : L ≤ 384) (hroom : cells ≤ 600000 ∧ slots ≤ 7302250) (h : qH dC dI cA ad1 (zCs, zCr, I) ad2 (zMs, zMr, J) s H locs) (hR : rR I J)
    (kk : ∀ (I2 J2 : zI) (H2 : Heap) (locs2 : List Loc), qH dC dI cA ad1 (zCs, zCr, I2) ad2 (zMs, zMr, J2) s H2 locs2 → rR I2 J2 → W p l e room_1 s m #[Value.ref b] below meth c H2 locs2 cells slots Q (F0 m 1654 ls [])) : W p l e room_1 s m #[Value.ref b] below meth c H locs cells slots Q (F0 m 1101 ls []) := by
  obtain ⟨r, I2, J2, e1, e2, hR2⟩ := sim_thingIs hR (xs (i + 1)) (xs (i + 2))
  refine lv_aload_n cx.1 cx.2.1 dl_1101.1 rfl (lv_at hl 2 rfl) ?_
  refine q_ld (k := 1) cx h.2.2.2.2 hl dl_1102 dl_1103 dl_1104 dl_1105 dl_1106 (by decide) (by omega) hL ?_
  refine q_ld (k := 2) cx h.2.2.2.2 hl dl_1107 dl_1108 dl_1109 dl_1110 dl_1111 (by decide) (by omega) hL ?_
  refine q_call (av := [.inl (xs (i + 1)), .inl (xs (i + 2))]) (st := []) (x := r) (I2 := I2) cx h hl.1 dl_1112 ca_91 qw_815 qw_816 qw_817 zCs_0 zcl_11 rfl (mt_fc_T_thingIs e1) rfl ⟨by decide +kernel, by decide⟩ (Nat.le_of_ble_eq_true rfl) hroom (fun H1 locs1 h1 => ?_)
  refine lv_aload_n cx.1 cx.2.1 dl_1115.1 rfl (lv_at hl 3 rfl) ?_
  refine q_ld (k := 1) cx h1.2.2.2.2 hl dl_1116 dl_1117 dl_1118 dl_1119 dl_1120 (by decide) (by omega) hL ?_
  refine q_ld (k := 2) cx h1.2.2.2.2 hl dl_1121 dl_1122 dl_1123 dl_1124 dl_1125 (by decide) (by omega) hL ?_
  refine q_call2 (av := [.inl (xs (i + 1)), .inl (xs (i + 2))]) (st := [.int r]) (x := r) (I2 := J2) cx h1 hl.1 dl_1126 ca_220 qw_1478 qw_1479 qw_1480 zMs_0 zcl_12 rfl (mt_fm_thingIs e2) rfl ⟨by decide +kernel, by decide⟩ (Nat.le_of_ble_eq_true rfl) hroom (fun H2 locs2 h2 => ?_)
  exact lv_icmp_eq cx.1 cx.2.1 dl_1129.1 (tgt := 1654) (by decide) (fun _ => kk I2 J2 H2 locs2 h2 hR2) (fun hne => absurd rfl hne)
theorem qc_28 (cx : qC p s m c b L xs) (hl : lv_has ls 4 [(3, .int (nI i)), (0, .ref b), (1, .ref (ad1 0)), (2, .ref (ad2 0))]) (hi : i + 5 < L) (hL : L ≤ 384) (hroom : cells ≤ 600000 ∧ slots ≤ 7302250) (h : qH dC dI cA ad1 (zCs, zCr, I) ad2 (zMs, zMr, J) s H locs) (hR : rR I J)
    (kk : ∀ (I2 J2 : zI) (H2 : Heap) (locs2 : List Loc), qH dC dI cA ad1 (zCs, zCr, I2) ad2 (zMs, zMr, J2) s H2 locs2 → rR I2 J2 → W p l e room_1 s m #[Value.ref b] below meth c H2 locs2 cells slots Q (F0 m 1654 ls [])) : W p l e room_1 s m #[Value.ref b] below meth c H locs cells slots Q (F0 m 1134 ls []) := by
  obtain ⟨r, I2, J2, e1, e2, hR2⟩ := sim_bring hR (xs (i + 1))
  refine lv_aload_n cx.1 cx.2.1 dl_1134.1 rfl (lv_at hl 2 rfl) ?_
  refine q_ld (k := 1) cx h.2.2.2.2 hl dl_1135 dl_1136 dl_1137 dl_1138 dl_1139 (by decide) (by omega) hL ?_
  refine q_call (av := [.inl (xs (i + 1))]) (st := []) (x := r) (I2 := I2) cx h hl.1 dl_1140 ca_94 qw_827 qw_828 qw_829 zCs_0 zcl_11 rfl (mt_fc_T_bring e1) rfl ⟨by decide +kernel, by decide⟩ (Nat.le_of_ble_eq_true rfl) hroom (fun H1 locs1 h1 => ?_)
  refine lv_aload_n cx.1 cx.2.1 dl_1143.1 rfl (lv_at hl 3 rfl) ?_
  refine q_ld (k := 1) cx h1.2.2.2.2 hl dl_1144 dl_1145 dl_1146 dl_1147 dl_1148 (by decide) (by omega) hL ?_
  refine q_call2 (av := [.inl (xs (i + 1))]) (st := [.int r]) (x := r) (I2 := J2) cx h1 hl.1 dl_1149 ca_223 qw_1490 qw_1491 qw_1492 zMs_0 zcl_12 rfl (mt_fm_bring e2) rfl ⟨by decide +kernel, by decide⟩ (Nat.le_of_ble_eq_true rfl) hroom (fun H2 locs2 h2 => ?_)
  exact lv_icmp_eq cx.1 cx.2.1 dl_1152.1 (tgt := 1654) (by decide) (fun _ => kk I2 J2 H2 locs2 h2 hR2) (fun hne => absurd rfl hne)
theorem qc_29 (cx : qC p s m c b L xs) (hl : lv_has ls 4 [(3, .int (nI i)), (0, .ref b), (1, .ref (ad1 0)), (2, .ref (ad2 0))]) (hi : i + 5 < L) (hL : L ≤ 384) (hroom : cells ≤ 600000 ∧ slots ≤ 7302250) (h : qH dC dI cA ad1 (zCs, zCr, I) ad2 (zMs, zMr, J) s H locs) (hR : rR I J)
    (kk : ∀ (I2 J2 : zI) (H2 : Heap) (locs2 : List Loc), qH dC dI cA ad1 (zCs, zCr, I2) ad2 (zMs, zMr, J2) s H2 locs2 → rR I2 J2 → W p l e room_1 s m #[Value.ref b] below meth c H2 locs2 cells slots Q (F0 m 1654 ls [])) : W p l e room_1 s m #[Value.ref b] below meth c H locs cells slots Q (F0 m 1157 ls []) := by
  obtain ⟨r, I2, J2, e1, e2, hR2⟩ := sim_doubt hR (xs (i + 1))
  refine lv_aload_n cx.1 cx.2.1 dl_1157.1 rfl (lv_at hl 2 rfl) ?_
  refine q_ld (k := 1) cx h.2.2.2.2 hl dl_1158 dl_1159 dl_1160 dl_1161 dl_1162 (by decide) (by omega) hL ?_
  refine q_call (av := [.inl (xs (i + 1))]) (st := []) (x := r) (I2 := I2) cx h hl.1 dl_1163 ca_96 qw_835 qw_836 qw_837 zCs_0 zcl_11 rfl (mt_fc_T_doubt e1) rfl ⟨by decide +kernel, by decide⟩ (Nat.le_of_ble_eq_true rfl) hroom (fun H1 locs1 h1 => ?_)
  refine lv_aload_n cx.1 cx.2.1 dl_1166.1 rfl (lv_at hl 3 rfl) ?_
  refine q_ld (k := 1) cx h1.2.2.2.2 hl dl_1167 dl_1168 dl_1169 dl_1170 dl_1171 (by decide) (by omega) hL ?_
  refine q_call2 (av := [.inl (xs (i + 1))]) (st := [.int r]) (x := r) (I2 := J2) cx h1 hl.1 dl_1172 ca_224 qw_1494 qw_1495 qw_1496 zMs_0 zcl_12 rfl (mt_fm_doubt e2) rfl ⟨by decide +kernel, by decide⟩ (Nat.le_of_ble_eq_true rfl) hroom (fun H2 locs2 h2 => ?_)
  exact lv_icmp_eq cx.1 cx.2.1 dl_1175.1 (tgt := 1654) (by decide) (fun _ => kk I2 J2 H2 locs2 h2 hR2) (fun hne => absurd rfl hne)
theorem qc_30 (cx : qC p s m c b L xs) (hl : lv_has ls 4 [(3, .int (nI i)), (0, .ref b), (1, .ref (ad1 0)), (2, .ref (ad2 0))]) (hi : i + 5 < L) (hL : L ≤ 384) (hroom : cells ≤ 600000 ∧ slots ≤ 7302250) (h : qH dC dI cA ad1 (zCs, zCr, I) ad2 (zMs, zMr, J) s H locs) (hR : rR I J)
    (kk : ∀ (I2 J2 : zI) (H2 : Heap) (locs2 : List Loc), qH dC dI cA ad1 (zCs, zCr, I2) ad2 (zMs, zMr, J2) s H2 locs2 → rR I2 J2 → W p l e room_1 s m #[Value.ref b] below meth c H2 locs2 cells slots Q (F0 m 1654 ls [])) : W p l e room_1 s m #[Value.ref b] below meth c H locs cells slots Q (F0 m 1180 ls []) := by
  obtain ⟨r, I2, J2, e1, e2, hR2⟩ := sim_fact hR (xs (i + 1)) (xs (i + 2))
  refine lv_aload_n cx.1 cx.2.1 dl_1180.1 rfl (lv_at hl 2 rfl) ?_
  refine q_ld (k := 1) cx h.2.2.2.2 hl dl_1181 dl_1182 dl_1183 dl_1184 dl_1185 (by decide) (by omega) hL ?_
  refine q_ld (k := 2) cx h.2.2.2.2 hl dl_1186 dl_1187 dl_1188 dl_1189 dl_1190 (by decide) (by omega) hL ?_
  refine q_call (av := [.inl (xs (i + 1)), .inl (xs (i + 2))]) (st := []) (x := r) (I2 := I2) cx h hl.1 dl_1191 ca_97 qw_840 qw_841 qw_842 zCs_0 zcl_11 rfl (mt_fc_T_fact e1) rfl ⟨by decide +kernel, by decide⟩ (Nat.le_of_ble_eq_true rfl) hroom (fun H1 locs1 h1 => ?_)
  refine lv_aload_n cx.1 cx.2.1 dl_1194.1 rfl (lv_at hl 3 rfl) ?_
  refine q_ld (k := 1) cx h1.2.2.2.2 hl dl_1195 dl_1196 dl_1197 dl_1198 dl_1199 (by decide) (by omega) hL ?_
  refine q_ld (k := 2) cx h1.2.2.2.2 hl dl_1200 dl_1201 dl_1202 dl_1203 dl_1204 (by decide) (by omega) hL ?_
  refine q_call2 (av := [.inl (xs (i + 1)), .inl (xs (i + 2))]) (st := [.int r]) (x := r) (I2 := J2) cx h1 hl.1 dl_1205 ca_226 qw_1501 qw_1502 qw_1503 zMs_0 zcl_12 rfl (mt_fm_fact e2) rfl ⟨by decide +kernel, by decide⟩ (Nat.le_of_ble_eq_true rfl) hroom (fun H2 locs2 h2 => ?_)
  exact lv_icmp_eq cx.1 cx.2.1 dl_1208.1 (tgt := 1654) (by decide) (fun _ => kk I2 J2 H2 locs2 h2 hR2) (fun hne => absurd rfl hne)
theorem qc_31 (cx : qC p s m c b L xs) (hl : lv_has ls 4 [(3, .int (nI i)), (0, .ref b), (1, .ref (ad1 0)), (2, .ref (ad2 0))]) (hi : i + 5 < L) (hL : L ≤ 384) (hroom : cells ≤ 600000 ∧ slots ≤ 7302250) (h : qH dC dI cA ad1 (zCs, zCr, I) ad2 (zMs, zMr, J) s H locs) (hR : rR I J)
    (kk : ∀ (I2 J2 : zI) (H2 : Heap) (locs2 : List Loc), qH dC dI cA ad1 (zCs, zCr, I2) ad2 (zMs, zMr, J2) s H2 locs2 → rR I2 J2 → W p l e room_1 s m #[Value.ref b] below meth c H2 locs2 cells slots Q (F0 m 1654 ls [])) : W p l e room_1 s m #[Value.ref b] below meth c H locs cells slots Q (F0 m 1213 ls []) := by
  obtain ⟨r, I2, J2, e1, e2, hR2⟩ := sim_forget hR
  refine lv_aload_n cx.1 cx.2.1 dl_1213.1 rfl (lv_at hl 2 rfl) ?_
  refine q_call (av := []) (st := []) (x := r) (I2 := I2) cx h hl.1 dl_1214 ca_98 qw_844 qw_845 qw_846 zCs_0 zcl_11 rfl (mt_fc_T_forget e1) rfl ⟨by decide +kernel, by decide⟩ (Nat.le_of_ble_eq_true rfl) hroom (fun H1 locs1 h1 => ?_)
  refine lv_aload_n cx.1 cx.2.1 dl_1217.1 rfl (lv_at hl 3 rfl) ?_
  refine q_call2 (av := []) (st := [.int r]) (x := r) (I2 := J2) cx h1 hl.1 dl_1218 ca_227 qw_1505 qw_1506 qw_1507 zMs_0 zcl_12 rfl (mt_fm_forget e2) rfl ⟨by decide +kernel, by decide⟩ (Nat.le_of_ble_eq_true rfl) hroom (fun H2 locs2 h2 => ?_)
  exact lv_icmp_eq cx.1 cx.2.1 dl_1221.1 (tgt := 1654) (by decide) (fun _ => kk I2 J2 H2 locs2 h2 hR2) (fun hne => absurd rfl hne)
theorem qc_32 (cx : qC p s m c b L xs) (hl : lv_has ls 4 [(3, .int (nI i)), (0, .ref b), (1, .ref (ad1 0)), (2, .ref (ad2 0))]) (hi : i + 5 < L) (hL : L ≤ 384) (hroom : cells ≤ 600000 ∧ slots ≤ 7302250) (h : qH dC dI cA ad1 (zCs, zCr, I) ad2 (zMs, zMr, J) s H locs) (hR : rR I J)
    (kk : ∀ (I2 J2 : zI) (H2 : Heap) (locs2 : List Loc), qH dC dI cA ad1 (zCs, zCr, I2) ad2 (zMs, zMr, J2) s H2 locs2 → rR I2 J2 → W p l e room_1 s m #[Value.ref b] below meth c H2 locs2 cells slots Q (F0 m 1654 ls [])) : W p l e room_1 s m #[Value.ref b] below meth c H locs cells slots Q (F0 m 1226 ls []) := by
  obtain ⟨r, I2, J2, e1, e2, hR2⟩ := sim_agree hR
  refine lv_aload_n cx.1 cx.2.1 dl_1226.1 rfl (lv_at hl 2 rfl) ?_
  refine q_call (av := []) (st := []) (x := r) (I2 := I2) cx h hl.1 dl_1227 ca_99 qw_848 qw_849 qw_850 zCs_0 zcl_11 rfl (mt_fc_T_agree e1) rfl ⟨by decide +kernel, by decide⟩ (Nat.le_of_ble_eq_true rfl) hroom (fun H1 locs1 h1 => ?_)
  refine lv_aload_n cx.1 cx.2.1 dl_1230.1 rfl (lv_at hl 3 rfl) ?_
  refine q_call2 (av := []) (st := [.int r]) (x := r) (I2 := J2) cx h1 hl.1 dl_1231 ca_228 qw_1509 qw_1510 qw_1511 zMs_0 zcl_12 rfl (mt_fm_agree e2) rfl ⟨by decide +kernel, by decide⟩ (Nat.le_of_ble_eq_true rfl) hroom (fun H2 locs2 h2 => ?_)
  exact lv_icmp_eq cx.1 cx.2.1 dl_1234.1 (tgt := 1654) (by decide) (fun _ => kk I2 J2 H2 locs2 h2 hR2) (fun hne => absurd rfl hne)
theorem qc_33 (cx : qC p s m c b L xs) (hl : lv_has ls 4 [(3, .int (nI i)), (0, .ref b), (1, .ref (ad1 0)), (2, .ref (ad2 0))]) (hi : i + 5 < L) (hL : L ≤ 384) (hroom : cells ≤ 600000 ∧ slots ≤ 7302250) (h : qH dC dI cA ad1 (zCs, zCr, I) ad2 (zMs, zMr, J) s H locs) (hR : rR I J)
    (kk : ∀ (I2 J2 : zI) (H2 : Heap) (locs2 : List Loc), qH dC dI cA ad1 (zCs, zCr, I2) ad2 (zMs, zMr, J2) s H2 locs2 → rR I2 J2 → W p l e room_1 s m #[Value.ref b] below meth c H2 locs2 cells slots Q (F0 m 1654 ls [])) : W p l e room_1 s m #[Value.ref b] below meth c H locs cells slots Q (F0 m 1239 ls []) := by
  obtain ⟨r, I2, J2, e1, e2, hR2⟩ := sim_known hR (xs (i + 1))
  refine lv_aload_n cx.1 cx.2.1 dl_1239.1 rfl (lv_at hl 2 rfl) ?_
  refine q_ld (k := 1) cx h.2.2.2.2 hl dl_1240 dl_1241 dl_1242 dl_1243 dl_1244 (by decide) (by omega) hL ?_
  refine q_call (av := [.inl (xs (i + 1))]) (st := []) (x := r) (I2 := I2) cx h hl.1 dl_1245 ca_107 qw_882 qw_883 qw_884 zCs_0 zcl_11 rfl (mt_fc_T_known e1) rfl ⟨by decide +kernel, by decide⟩ (Nat.le_of_ble_eq_true rfl) hroom (fun H1 locs1 h1 => ?_)
  refine lv_aload_n cx.1 cx.2.1 dl_1248.1 rfl (lv_at hl 3 rfl) ?_
  refine q_ld (k := 1) cx h1.2.2.2.2 hl dl_1249 dl_1250 dl_1251 dl_1252 dl_1253 (by decide) (by omega) hL ?_
  refine q_call2 (av := [.inl (xs (i + 1))]) (st := [.int r]) (x := r) (I2 := J2) cx h1 hl.1 dl_1254 ca_233 qw_1529 qw_1530 qw_1531 zMs_0 zcl_12 rfl (mt_fm_known e2) rfl ⟨by decide +kernel, by decide⟩ (Nat.le_of_ble_eq_true rfl) hroom (fun H2 locs2 h2 => ?_)
  exact lv_icmp_eq cx.1 cx.2.1 dl_1257.1 (tgt := 1654) (by decide) (fun _ => kk I2 J2 H2 locs2 h2 hR2) (fun hne => absurd rfl hne)
theorem qc_34 (cx : qC p s m c b L xs) (hl : lv_has ls 4 [(3, .int (nI i)), (0, .ref b), (1, .ref (ad1 0)), (2, .ref (ad2 0))]) (hi : i + 5 < L) (hL : L ≤ 384) (hroom : cells ≤ 600000 ∧ slots ≤ 7302250) (h : qH dC dI cA ad1 (zCs, zCr, I) ad2 (zMs, zMr, J) s H locs) (hR : rR I J)
    (kk : ∀ (I2 J2 : zI) (H2 : Heap) (locs2 : List Loc), qH dC dI cA ad1 (zCs, zCr, I2) ad2 (zMs, zMr, J2) s H2 locs2 → rR I2 J2 → W p l e room_1 s m #[Value.ref b] below meth c H2 locs2 cells slots Q (F0 m 1654 ls [])) : W p l e room_1 s m #[Value.ref b] below meth c H locs cells slots Q (F0 m 1262 ls []) := by
  obtain ⟨r, I2, J2, e1, e2, hR2⟩ := sim_test hR
  refine lv_aload_n cx.1 cx.2.1 dl_1262.1 rfl (lv_at hl 2 rfl) ?_
  refine q_call (av := []) (st := []) (x := r) (I2 := I2) cx h hl.1 dl_1263 ca_108 qw_886 qw_887 qw_888 zCs_0 zcl_11 rfl (mt_fc_T_test e1) rfl ⟨by decide +kernel, by decide⟩ (Nat.le_of_ble_eq_true rfl) hroom (fun H1 locs1 h1 => ?_)
  refine lv_aload_n cx.1 cx.2.1 dl_1266.1 rfl (lv_at hl 3 rfl) ?_
  refine q_call2 (av := []) (st := [.int r]) (x := r) (I2 := J2) cx h1 hl.1 dl_1267 ca_234 qw_1533 qw_1534 qw_1535 zMs_0 zcl_12 rfl (mt_fm_test e2) rfl ⟨by decide +kernel, by decide⟩ (Nat.le_of_ble_eq_true rfl) hroom (fun H2 locs2 h2 => ?_)
  exact lv_icmp_eq cx.1 cx.2.1 dl_1270.1 (tgt := 1654) (by decide) (fun _ => kk I2 J2 H2 locs2 h2 hR2) (fun hne => absurd rfl hne)
theorem qc_35 (cx : qC p s m c b L xs) (hl : lv_has ls 4 [(3, .int (nI i)), (0, .ref b), (1, .ref (ad1 0)), (2, .ref (ad2 0))]) (hi : i + 5 < L) (hL : L ≤ 384) (hroom : cells ≤ 600000 ∧ slots ≤ 7302250) (h : qH dC dI cA ad1 (zCs, zCr, I) ad2 (zMs, zMr, J) s H locs) (hR : rR I J)
    (kk : ∀ (I2 J2 : zI) (H2 : Heap) (locs2 : List Loc), qH dC dI cA ad1 (zCs, zCr, I2) ad2 (zMs, zMr, J2) s H2 locs2 → rR I2 J2 → W p l e room_1 s m #[Value.ref b] below meth c H2 locs2 cells slots Q (F0 m 1654 ls [])) : W p l e room_1 s m #[Value.ref b] below meth c H locs cells slots Q (F0 m 1275 ls []) := by
  obtain ⟨r, I2, J2, e1, e2, hR2⟩ := sim_seed hR (xs (i + 1))
  refine lv_aload_n cx.1 cx.2.1 dl_1275.1 rfl (lv_at hl 2 rfl) ?_
  refine q_ld (k := 1) cx h.2.2.2.2 hl dl_1276 dl_1277 dl_1278 dl_1279 dl_1280 (by decide) (by omega) hL ?_
  refine q_call (av := [.inl (xs (i + 1))]) (st := []) (x := r) (I2 := I2) cx h hl.1 dl_1281 ca_110 qw_895 qw_896 qw_897 zCs_0 zcl_11 rfl (mt_fc_T_seed e1) rfl ⟨by decide +kernel, by decide⟩ (Nat.le_of_ble_eq_true rfl) hroom (fun H1 locs1 h1 => ?_)
  refine lv_aload_n cx.1 cx.2.1 dl_1284.1 rfl (lv_at hl 3 rfl) ?_
  refine q_ld (k := 1) cx h1.2.2.2.2 hl dl_1285 dl_1286 dl_1287 dl_1288 dl_1289 (by decide) (by omega) hL ?_
  refine q_call2 (av := [.inl (xs (i + 1))]) (st := [.int r]) (x := r) (I2 := J2) cx h1 hl.1 dl_1290 ca_235 qw_1537 qw_1538 qw_1539 zMs_0 zcl_12 rfl (mt_fm_seed e2) rfl ⟨by decide +kernel, by decide⟩ (Nat.le_of_ble_eq_true rfl) hroom (fun H2 locs2 h2 => ?_)
  exact lv_icmp_eq cx.1 cx.2.1 dl_1293.1 (tgt := 1654) (by decide) (fun _ => kk I2 J2 H2 locs2 h2 hR2) (fun hne => absurd rfl hne)
theorem qc_36 (cx : qC p s m c b L xs) (hl : lv_has ls 4 [(3, .int (nI i)), (0, .ref b), (1, .ref (ad1 0)), (2, .ref (ad2 0))]) (hi : i + 5 < L) (hL : L ≤ 384) (hroom : cells ≤ 600000 ∧ slots ≤ 7302250) (h : qH dC dI cA ad1 (zCs, zCr, I) ad2 (zMs, zMr, J) s H locs) (hR : rR I J)
    (kk : ∀ (I2 J2 : zI) (H2 : Heap) (locs2 : List Loc), qH dC dI cA ad1 (zCs, zCr, I2) ad2 (zMs, zMr, J2) s H2 locs2 → rR I2 J2 → W p l e room_1 s m #[Value.ref b] below meth c H2 locs2 cells slots Q (F0 m 1654 ls [])) : W p l e room_1 s m #[Value.ref b] below meth c H locs cells slots Q (F0 m 1298 ls []) := by
  obtain ⟨r, I2, J2, e1, e2, hR2⟩ := sim_voice hR (xs (i + 1)) (xs (i + 2)) (xs (i + 3))
  refine lv_aload_n cx.1 cx.2.1 dl_1298.1 rfl (lv_at hl 2 rfl) ?_
  refine q_ld (k := 1) cx h.2.2.2.2 hl dl_1299 dl_1300 dl_1301 dl_1302 dl_1303 (by decide) (by omega) hL ?_
  refine q_ld (k := 2) cx h.2.2.2.2 hl dl_1304 dl_1305 dl_1306 dl_1307 dl_1308 (by decide) (by omega) hL ?_
  refine q_ld (k := 3) cx h.2.2.2.2 hl dl_1309 dl_1310 dl_1311 dl_1312 dl_1313 (by decide) (by omega) hL ?_
  refine q_call (av := [.inl (xs (i + 1)), .inl (xs (i + 2)), .inl (xs (i + 3))]) (st := []) (x := r) (I2 := I2) cx h hl.1 dl_1314 ca_111 qw_899 qw_900 qw_901 zCs_0 zcl_11 rfl (mt_fc_T_voice e1) rfl ⟨by decide +kernel, by decide⟩ (Nat.le_of_ble_eq_true rfl) hroom (fun H1 locs1 h1 => ?_)
  refine lv_aload_n cx.1 cx.2.1 dl_1317.1 rfl (lv_at hl 3 rfl) ?_
  refine q_ld (k := 1) cx h1.2.2.2.2 hl dl_1318 dl_1319 dl_1320 dl_1321 dl_1322 (by decide) (by omega) hL ?_
  refine q_ld (k := 2) cx h1.2.2.2.2 hl dl_1323 dl_1324 dl_1325 dl_1326 dl_1327 (by decide) (by omega) hL ?_
  refine q_ld (k := 3) cx h1.2.2.2.2 hl dl_1328 dl_1329 dl_1330 dl_1331 dl_1332 (by decide) (by omega) hL ?_
  refine q_call2 (av := [.inl (xs (i + 1)), .inl (xs (i + 2)), .inl (xs (i + 3))]) (st := [.int r]) (x := r) (I2 := J2) cx h1 hl.1 dl_1333 ca_236 qw_1541 qw_1542 qw_1543 zMs_0 zcl_12 rfl (mt_fm_voice e2) rfl ⟨by decide +kernel, by decide⟩ (Nat.le_of_ble_eq_true rfl) hroom (fun H2 locs2 h2 => ?_)
  exact lv_icmp_eq cx.1 cx.2.1 dl_1336.1 (tgt := 1654) (by decide) (fun _ => kk I2 J2 H2 locs2 h2 hR2) (fun hne => absurd rfl hne)
theorem qc_37 (cx : qC p s m c b L xs) (hl : lv_has ls 4 [(3, .int (nI i)), (0, .ref b), (1, .ref (ad1 0)), (2, .ref (ad2 0))]) (hi : i + 5 < L) (hL : L ≤ 384) (hroom : cells ≤ 600000 ∧ slots ≤ 7302250) (h : qH dC dI cA ad1 (zCs, zCr, I) ad2 (zMs, zMr, J) s H locs) (hR : rR I J)
    (kk : ∀ (I2 J2 : zI) (H2 : Heap) (locs2 : List Loc), qH dC dI cA ad1 (zCs, zCr, I2) ad2 (zMs, zMr, J2) s H2 locs2 → rR I2 J2 → W p l e room_1 s m #[Value.ref b] below meth c H2 locs2 cells slots Q (F0 m 1654 ls [])) : W p l e room_1 s m #[Value.ref b] below meth c H locs cells slots Q (F0 m 1341 ls []) := by
  obtain ⟨r, I2, J2, e1, e2, hR2⟩ := sim_body hR (xs (i + 1))
  refine lv_aload_n cx.1 cx.2.1 dl_1341.1 rfl (lv_at hl 2 rfl) ?_
  refine q_ld (k := 1) cx h.2.2.2.2 hl dl_1342 dl_1343 dl_1344 dl_1345 dl_1346 (by decide) (by omega) hL ?_
  refine q_call (av := [.inl (xs (i + 1))]) (st := []) (x := r) (I2 := I2) cx h hl.1 dl_1347 ca_119 qw_935 qw_936 qw_937 zCs_0 zcl_11 rfl (mt_fc_T_body e1) rfl ⟨by decide +kernel, by decide⟩ (Nat.le_of_ble_eq_true rfl) hroom (fun H1 locs1 h1 => ?_)
  refine lv_aload_n cx.1 cx.2.1 dl_1350.1 rfl (lv_at hl 3 rfl) ?_
  refine q_ld (k := 1) cx h1.2.2.2.2 hl dl_1351 dl_1352 dl_1353 dl_1354 dl_1355 (by decide) (by omega) hL ?_
  refine q_call2 (av := [.inl (xs (i + 1))]) (st := [.int r]) (x := r) (I2 := J2) cx h1 hl.1 dl_1356 ca_242 qw_1565 qw_1566 qw_1567 zMs_0 zcl_12 rfl (mt_fm_body_2 e2) rfl ⟨by decide +kernel, by decide⟩ (Nat.le_of_ble_eq_true rfl) hroom (fun H2 locs2 h2 => ?_)
  exact lv_icmp_eq cx.1 cx.2.1 dl_1359.1 (tgt := 1654) (by decide) (fun _ => kk I2 J2 H2 locs2 h2 hR2) (fun hne => absurd rfl hne)
theorem qc_38 (cx : qC p s m c b L xs) (hl : lv_has ls 4 [(3, .int (nI i)), (0, .ref b), (1, .ref (ad1 0)), (2, .ref (ad2 0))]) (hi : i + 5 < L) (hL : L ≤ 384) (hroom : cells ≤ 600000 ∧ slots ≤ 7302250) (h : qH dC dI cA ad1 (zCs, zCr, I) ad2 (zMs, zMr, J) s H locs) (hR : rR I J)
    (kk : ∀ (I2 J2 : zI) (H2 : Heap) (locs2 : List Loc), qH dC dI cA ad1 (zCs, zCr, I2) ad2 (zMs, zMr, J2) s H2 locs2 → rR I2 J2 → W p l e room_1 s m #[Value.ref b] below meth c H2 locs2 cells slots Q (F0 m 1654 ls [])) : W p l e room_1 s m #[Value.ref b] below meth c H locs cells slots Q (F0 m 1364 ls []) := by
  obtain ⟨r, I2, J2, e1, e2, hR2⟩ := sim_sheet hR (xs (i + 1)) (xs (i + 2)) (xs (i + 3))
  refine lv_aload_n cx.1 cx.2.1 dl_1364.1 rfl (lv_at hl 2 rfl) ?_
  refine q_ld (k := 1) cx h.2.2.2.2 hl dl_1365 dl_1366 dl_1367 dl_1368 dl_1369 (by decide) (by omega) hL ?_
  refine q_ld (k := 2) cx h.2.2.2.2 hl dl_1370 dl_1371 dl_1372 dl_1373 dl_1374 (by decide) (by omega) hL ?_
  refine q_ld (k := 3) cx h.2.2.2.2 hl dl_1375 dl_1376 dl_1377 dl_1378 dl_1379 (by decide) (by omega) hL ?_
  refine q_call (av := [.inl (xs (i + 1)), .inl (xs (i + 2)), .inl (xs (i + 3))]) (st := []) (x := r) (I2 := I2) cx h hl.1 dl_1380 ca_120 qw_939 qw_940 qw_941 zCs_0 zcl_11 rfl (mt_fc_T_sheet e1) rfl ⟨by decide +kernel, by decide⟩ (Nat.le_of_ble_eq_true rfl) hroom (fun H1 locs1 h1 => ?_)
  refine lv_aload_n cx.1 cx.2.1 dl_1383.1 rfl (lv_at hl 3 rfl) ?_
  refine q_ld (k := 1) cx h1.2.2.2.2 hl dl_1384 dl_1385 dl_1386 dl_1387 dl_1388 (by decide) (by omega) hL ?_
  refine q_ld (k := 2) cx h1.2.2.2.2 hl dl_1389 dl_1390 dl_1391 dl_1392 dl_1393 (by decide) (by omega) hL ?_
  refine q_ld (k := 3) cx h1.2.2.2.2 hl dl_1394 dl_1395 dl_1396 dl_1397 dl_1398 (by decide) (by omega) hL ?_
  refine q_call2 (av := [.inl (xs (i + 1)), .inl (xs (i + 2)), .inl (xs (i + 3))]) (st := [.int r]) (x := r) (I2 := J2) cx h1 hl.1 dl_1399 ca_243 qw_1569 qw_1570 qw_1571 zMs_0 zcl_12 rfl (mt_fm_sheet e2) rfl ⟨by decide +kernel, by decide⟩ (Nat.le_of_ble_eq_true rfl) hroom (fun H2 locs2 h2 => ?_)
  exact lv_icmp_eq cx.1 cx.2.1 dl_1402.1 (tgt := 1654) (by decide) (fun _ => kk I2 J2 H2 locs2 h2 hR2) (fun hne => absurd rfl hne)
theorem qc_39 (cx : qC p s m c b L xs) (hl : lv_has ls 4 [(3, .int (nI i)), (0, .ref b), (1, .ref (ad1 0)), (2, .ref (ad2 0))]) (hi : i + 5 < L) (hL : L ≤ 384) (hroom : cells ≤ 600000 ∧ slots ≤ 7302250) (h : qH dC dI cA ad1 (zCs, zCr, I) ad2 (zMs, zMr, J) s H locs) (hR : rR I J)
    (kk : ∀ (I2 J2 : zI) (H2 : Heap) (locs2 : List Loc), qH dC dI cA ad1 (zCs, zCr, I2) ad2 (zMs, zMr, J2) s H2 locs2 → rR I2 J2 → W p l e room_1 s m #[Value.ref b] below meth c H2 locs2 cells slots Q (F0 m 1654 ls [])) : W p l e room_1 s m #[Value.ref b] below meth c H locs cells slots Q (F0 m 1407 ls []) := by
  obtain ⟨r, I2, J2, e1, e2, hR2⟩ := sim_put hR (xs (i + 1)) (xs (i + 2)) (xs (i + 3))
  refine lv_aload_n cx.1 cx.2.1 dl_1407.1 rfl (lv_at hl 2 rfl) ?_
  refine q_ld (k := 1) cx h.2.2.2.2 hl dl_1408 dl_1409 dl_1410 dl_1411 dl_1412 (by decide) (by omega) hL ?_
  refine q_ld (k := 2) cx h.2.2.2.2 hl dl_1413 dl_1414 dl_1415 dl_1416 dl_1417 (by decide) (by omega) hL ?_
  refine q_ld (k := 3) cx h.2.2.2.2 hl dl_1418 dl_1419 dl_1420 dl_1421 dl_1422 (by decide) (by omega) hL ?_
  refine q_call (av := [.inl (xs (i + 1)), .inl (xs (i + 2)), .inl (xs (i + 3))]) (st := []) (x := r) (I2 := I2) cx h hl.1 dl_1423 ca_122 qw_947 qw_948 qw_949 zCs_0 zcl_11 rfl (mt_fc_T_put e1) rfl ⟨by decide +kernel, by decide⟩ (Nat.le_of_ble_eq_true rfl) hroom (fun H1 locs1 h1 => ?_)
  refine lv_aload_n cx.1 cx.2.1 dl_1426.1 rfl (lv_at hl 3 rfl) ?_
  refine q_ld (k := 1) cx h1.2.2.2.2 hl dl_1427 dl_1428 dl_1429 dl_1430 dl_1431 (by decide) (by omega) hL ?_
  refine q_ld (k := 2) cx h1.2.2.2.2 hl dl_1432 dl_1433 dl_1434 dl_1435 dl_1436 (by decide) (by omega) hL ?_
  refine q_ld (k := 3) cx h1.2.2.2.2 hl dl_1437 dl_1438 dl_1439 dl_1440 dl_1441 (by decide) (by omega) hL ?_
  refine q_call2 (av := [.inl (xs (i + 1)), .inl (xs (i + 2)), .inl (xs (i + 3))]) (st := [.int r]) (x := r) (I2 := J2) cx h1 hl.1 dl_1442 ca_245 qw_1576 qw_1577 qw_1578 zMs_0 zcl_12 rfl (mt_fm_put e2) rfl ⟨by decide +kernel, by decide⟩ (Nat.le_of_ble_eq_true rfl) hroom (fun H2 locs2 h2 => ?_)
  exact lv_icmp_eq cx.1 cx.2.1 dl_1445.1 (tgt := 1654) (by decide) (fun _ => kk I2 J2 H2 locs2 h2 hR2) (fun hne => absurd rfl hne)
theorem qc_40 (cx : qC p s m c b L xs) (hl : lv_has ls 4 [(3, .int (nI i)), (0, .ref b), (1, .ref (ad1 0)), (2, .ref (ad2 0))]) (hi : i + 5 < L) (hL : L ≤ 384) (hroom : cells ≤ 600000 ∧ slots ≤ 7302250) (h : qH dC dI cA ad1 (zCs, zCr, I) ad2 (zMs, zMr, J) s H locs) (hR : rR I J)
    (kk : ∀ (I2 J2 : zI) (H2 : Heap) (locs2 : List Loc), qH dC dI cA ad1 (zCs, zCr, I2) ad2 (zMs, zMr, J2) s H2 locs2 → rR I2 J2 → W p l e room_1 s m #[Value.ref b] below meth c H2 locs2 cells slots Q (F0 m 1654 ls [])) : W p l e room_1 s m #[Value.ref b] below meth c H locs cells slots Q (F0 m 1450 ls []) := by
  obtain ⟨r, I2, J2, e1, e2, hR2⟩ := sim_move hR (xs (i + 1)) (xs (i + 2)) (xs (i + 3)) (xs (i + 4)) (xs (i + 5))
  refine lv_aload_n cx.1 cx.2.1 dl_1450.1 rfl (lv_at hl 2 rfl) ?_
  refine q_ld (k := 1) cx h.2.2.2.2 hl dl_1451 dl_1452 dl_1453 dl_1454 dl_1455 (by decide) (by omega) hL ?_
  refine q_ld (k := 2) cx h.2.2.2.2 hl dl_1456 dl_1457 dl_1458 dl_1459 dl_1460 (by decide) (by omega) hL ?_
  refine q_ld (k := 3) cx h.2.2.2.2 hl dl_1461 dl_1462 dl_1463 dl_1464 dl_1465 (by decide) (by omega) hL ?_
  refine q_ld (k := 4) cx h.2.2.2.2 hl dl_1466 dl_1467 dl_1468 dl_1469 dl_1470 (by decide) (by omega) hL ?_
  refine q_ld (k := 5) cx h.2.2.2.2 hl dl_1471 dl_1472 dl_1473 dl_1474 dl_1475 (by decide) (by omega) hL ?_
  refine q_call (av := [.inl (xs (i + 1)), .inl (xs (i + 2)), .inl (xs (i + 3)), .inl (xs (i + 4)), .inl (xs (i + 5))]) (st := []) (x := r) (I2 := I2) cx h hl.1 dl_1476 ca_124 qw_954 qw_955 qw_956 zCs_0 zcl_11 rfl (mt_fc_T_move e1) rfl ⟨by decide +kernel, by decide⟩ (Nat.le_of_ble_eq_true rfl) hroom (fun H1 locs1 h1 => ?_)
  refine lv_aload_n cx.1 cx.2.1 dl_1479.1 rfl (lv_at hl 3 rfl) ?_
  refine q_ld (k := 1) cx h1.2.2.2.2 hl dl_1480 dl_1481 dl_1482 dl_1483 dl_1484 (by decide) (by omega) hL ?_
  refine q_ld (k := 2) cx h1.2.2.2.2 hl dl_1485 dl_1486 dl_1487 dl_1488 dl_1489 (by decide) (by omega) hL ?_
  refine q_ld (k := 3) cx h1.2.2.2.2 hl dl_1490 dl_1491 dl_1492 dl_1493 dl_1494 (by decide) (by omega) hL ?_
  refine q_ld (k := 4) cx h1.2.2.2.2 hl dl_1495 dl_1496 dl_1497 dl_1498 dl_1499 (by decide) (by omega) hL ?_
  refine q_ld (k := 5) cx h1.2.2.2.2 hl dl_1500 dl_1501 dl_1502 dl_1503 dl_1504 (by decide) (by omega) hL ?_
  refine q_call2 (av := [.inl (xs (i + 1)), .inl (xs (i + 2)), .inl (xs (i + 3)), .inl (xs (i + 4)), .inl (xs (i + 5))]) (st := [.int r]) (x := r) (I2 := J2) cx h1 hl.1 dl_1505 ca_246 qw_1580 qw_1581 qw_1582 zMs_0 zcl_12 rfl (mt_fm_move e2) rfl ⟨by decide +kernel, by decide⟩ (Nat.le_of_ble_eq_true rfl) hroom (fun H2 locs2 h2 => ?_)
  exact lv_icmp_eq cx.1 cx.2.1 dl_1508.1 (tgt := 1654) (by decide) (fun _ => kk I2 J2 H2 locs2 h2 hR2) (fun hne => absurd rfl hne)
theorem qc_41 (cx : qC p s m c b L xs) (hl : lv_has ls 4 [(3, .int (nI i)), (0, .ref b), (1, .ref (ad1 0)), (2, .ref (ad2 0))]) (hi : i + 5 < L) (hL : L ≤ 384) (hroom : cells ≤ 600000 ∧ slots ≤ 7302250) (h : qH dC dI cA ad1 (zCs, zCr, I) ad2 (zMs, zMr, J) s H locs) (hR : rR I J)
    (kk : ∀ (I2 J2 : zI) (H2 : Heap) (locs2 : List Loc), qH dC dI cA ad1 (zCs, zCr, I2) ad2 (zMs, zMr, J2) s H2 locs2 → rR I2 J2 → W p l e room_1 s m #[Value.ref b] below meth c H2 locs2 cells slots Q (F0 m 1654 ls [])) : W p l e room_1 s m #[Value.ref b] below meth c H locs cells slots Q (F0 m 1513 ls []) := by
  obtain ⟨r, I2, J2, e1, e2, hR2⟩ := sim_joins hR (xs (i + 1))
  refine lv_aload_n cx.1 cx.2.1 dl_1513.1 rfl (lv_at hl 2 rfl) ?_
  refine q_ld (k := 1) cx h.2.2.2.2 hl dl_1514 dl_1515 dl_1516 dl_1517 dl_1518 (by decide) (by omega) hL ?_
  refine q_call (av := [.inl (xs (i + 1))]) (st := []) (x := r) (I2 := I2) cx h hl.1 dl_1519 ca_126 qw_963 qw_964 qw_965 zCs_0 zcl_11 rfl (mt_fc_T_joins e1) rfl ⟨by decide +kernel, by decide⟩ (Nat.le_of_ble_eq_true rfl) hroom (fun H1 locs1 h1 => ?_)
  refine lv_aload_n cx.1 cx.2.1 dl_1522.1 rfl (lv_at hl 3 rfl) ?_
  refine q_ld (k := 1) cx h1.2.2.2.2 hl dl_1523 dl_1524 dl_1525 dl_1526 dl_1527 (by decide) (by omega) hL ?_
  refine q_call2 (av := [.inl (xs (i + 1))]) (st := [.int r]) (x := r) (I2 := J2) cx h1 hl.1 dl_1528 ca_247 qw_1584 qw_1585 qw_1586 zMs_0 zcl_12 rfl (mt_fm_joins e2) rfl ⟨by decide +kernel, by decide⟩ (Nat.le_of_ble_eq_true rfl) hroom (fun H2 locs2 h2 => ?_)
  exact lv_icmp_eq cx.1 cx.2.1 dl_1531.1 (tgt := 1654) (by decide) (fun _ => kk I2 J2 H2 locs2 h2 hR2) (fun hne => absurd rfl hne)
theorem qc_42 (cx : qC p s m c b L xs) (hl : lv_has ls 4 [(3, .int (nI i)), (0, .ref b), (1, .ref (ad1 0)), (2, .ref (ad2 0))]) (hi : i + 5 < L) (hL : L ≤ 384) (hroom : cells ≤ 600000 ∧ slots ≤ 7302250) (h : qH dC dI cA ad1 (zCs, zCr, I) ad2 (zMs, zMr, J) s H locs) (hR : rR I J)
    (kk : ∀ (I2 J2 : zI) (H2 : Heap) (locs2 : List Loc), qH dC dI cA ad1 (zCs, zCr, I2) ad2 (zMs, zMr, J2) s H2 locs2 → rR I2 J2 → W p l e room_1 s m #[Value.ref b] below meth c H2 locs2 cells slots Q (F0 m 1654 ls [])) : W p l e room_1 s m #[Value.ref b] below meth c H locs cells slots Q (F0 m 1536 ls []) := by
  obtain ⟨r, I2, J2, e1, e2, hR2⟩ := sim_image hR
  refine lv_aload_n cx.1 cx.2.1 dl_1536.1 rfl (lv_at hl 2 rfl) ?_
  refine q_call (av := []) (st := []) (x := r) (I2 := I2) cx h hl.1 dl_1537 ca_127 qw_967 qw_968 qw_969 zCs_0 zcl_11 rfl (mt_fc_T_image e1) rfl ⟨by decide +kernel, by decide⟩ (Nat.le_of_ble_eq_true rfl) hroom (fun H1 locs1 h1 => ?_)
  refine lv_aload_n cx.1 cx.2.1 dl_1540.1 rfl (lv_at hl 3 rfl) ?_
  refine q_call2 (av := []) (st := [.int r]) (x := r) (I2 := J2) cx h1 hl.1 dl_1541 ca_248 qw_1588 qw_1589 qw_1590 zMs_0 zcl_12 rfl (mt_fm_image e2) rfl ⟨by decide +kernel, by decide⟩ (Nat.le_of_ble_eq_true rfl) hroom (fun H2 locs2 h2 => ?_)
  exact lv_icmp_eq cx.1 cx.2.1 dl_1544.1 (tgt := 1654) (by decide) (fun _ => kk I2 J2 H2 locs2 h2 hR2) (fun hne => absurd rfl hne)
theorem qc_43 (cx : qC p s m c b L xs) (hl : lv_has ls 4 [(3, .int (nI i)), (0, .ref b), (1, .ref (ad1 0)), (2, .ref (ad2 0))]) (hi : i + 5 < L) (hL : L ≤ 384) (hroom : cells ≤ 600000 ∧ slots ≤ 7302250) (h : qH dC dI cA ad1 (zCs, zCr, I) ad2 (zMs, zMr, J) s H locs) (hR : rR I J)
    (kk : ∀ (I2 J2 : zI) (H2 : Heap) (locs2 : List Loc), qH dC dI cA ad1 (zCs, zCr, I2) ad2 (zMs, zMr, J2) s H2 locs2 → rR I2 J2 → W p l e room_1 s m #[Value.ref b] below meth c H2 locs2 cells slots Q (F0 m 1654 ls [])) : W p l e room_1 s m #[Value.ref b] below meth c H locs cells slots Q (F0 m 1549 ls []) := by
  obtain ⟨r, I2, J2, e1, e2, hR2⟩ := sim_restore hR
  refine lv_aload_n cx.1 cx.2.1 dl_1549.1 rfl (lv_at hl 2 rfl) ?_
  refine q_call (av := []) (st := []) (x := r) (I2 := I2) cx h hl.1 dl_1550 ca_134 qw_1000 qw_1001 qw_1002 zCs_0 zcl_11 rfl (mt_fc_T_restore e1) rfl ⟨by decide +kernel, by decide⟩ (Nat.le_of_ble_eq_true rfl) hroom (fun H1 locs1 h1 => ?_)
  refine lv_aload_n cx.1 cx.2.1 dl_1553.1 rfl (lv_at hl 3 rfl) ?_
  refine q_call2 (av := []) (st := [.int r]) (x := r) (I2 := J2) cx h1 hl.1 dl_1554 ca_250 qw_1595 qw_1596 qw_1597 zMs_0 zcl_12 rfl (mt_fm_restore e2) rfl ⟨by decide +kernel, by decide⟩ (Nat.le_of_ble_eq_true rfl) hroom (fun H2 locs2 h2 => ?_)
  exact lv_icmp_eq cx.1 cx.2.1 dl_1557.1 (tgt := 1654) (by decide) (fun _ => kk I2 J2 H2 locs2 h2 hR2) (fun hne => absurd rfl hne)
theorem qc_44 (cx : qC p s m c b L xs) (hl : lv_has ls 4 [(3, .int (nI i)), (0, .ref b), (1, .ref (ad1 0)), (2, .ref (ad2 0))]) (hi : i + 5 < L) (hL : L ≤ 384) (hroom : cells ≤ 600000 ∧ slots ≤ 7302250) (h : qH dC dI cA ad1 (zCs, zCr, I) ad2 (zMs, zMr, J) s H locs) (hR : rR I J)
    (kk : ∀ (I2 J2 : zI) (H2 : Heap) (locs2 : List Loc), qH dC dI cA ad1 (zCs, zCr, I2) ad2 (zMs, zMr, J2) s H2 locs2 → rR I2 J2 → W p l e room_1 s m #[Value.ref b] below meth c H2 locs2 cells slots Q (F0 m 1654 ls [])) : W p l e room_1 s m #[Value.ref b] below meth c H locs cells slots Q (F0 m 1562 ls []) := by
  obtain ⟨r, I2, J2, e1, e2, hR2⟩ := sim_tell hR (xs (i + 1))
  refine lv_aload_n cx.1 cx.2.1 dl_1562.1 rfl (lv_at hl 2 rfl) ?_
  refine q_ld (k := 1) cx h.2.2.2.2 hl dl_1563 dl_1564 dl_1565 dl_1566 dl_1567 (by decide) (by omega) hL ?_
  refine q_call (av := [.inl (xs (i + 1))]) (st := []) (x := r) (I2 := I2) cx h hl.1 dl_1568 ca_135 qw_1004 qw_1005 qw_1006 zCs_0 zcl_11 rfl (mt_fc_T_tell e1) rfl ⟨by decide +kernel, by decide⟩ (Nat.le_of_ble_eq_true rfl) hroom (fun H1 locs1 h1 => ?_)
  refine lv_aload_n cx.1 cx.2.1 dl_1571.1 rfl (lv_at hl 3 rfl) ?_
  refine q_ld (k := 1) cx h1.2.2.2.2 hl dl_1572 dl_1573 dl_1574 dl_1575 dl_1576 (by decide) (by omega) hL ?_
  refine q_call2 (av := [.inl (xs (i + 1))]) (st := [.int r]) (x := r) (I2 := J2) cx h1 hl.1 dl_1577 ca_251 qw_1599 qw_1600 qw_1601 zMs_0 zcl_12 rfl (mt_fm_tell e2) rfl ⟨by decide +kernel, by decide⟩ (Nat.le_of_ble_eq_true rfl) hroom (fun H2 locs2 h2 => ?_)
  exact lv_icmp_eq cx.1 cx.2.1 dl_1580.1 (tgt := 1654) (by decide) (fun _ => kk I2 J2 H2 locs2 h2 hR2) (fun hne => absurd rfl hne)
theorem qc_45 (cx : qC p s m c b L xs) (hl : lv_has ls 4 [(3, .int (nI i)), (0, .ref b), (1, .ref (ad1 0)), (2, .ref (ad2 0))]) (hi : i + 5 < L) (hL : L ≤ 384) (hroom : cells ≤ 600000 ∧ slots ≤ 7302250) (h : qH dC dI cA ad1 (zCs, zCr, I) ad2 (zMs, zMr, J) s H locs) (hR : rR I J)
    (kk : ∀ (I2 J2 : zI) (H2 : Heap) (locs2 : List Loc), qH dC dI cA ad1 (zCs, zCr, I2) ad2 (zMs, zMr, J2) s H2 locs2 → rR I2 J2 → W p l e room_1 s m #[Value.ref b] below meth c H2 locs2 cells slots Q (F0 m 1654 ls [])) : W p l e room_1 s m #[Value.ref b] below meth c H locs cells slots Q (F0 m 1585 ls []) := by
  obtain ⟨r, I2, J2, e1, e2, hR2⟩ := sim_check hR (xs (i + 1))
  refine lv_aload_n cx.1 cx.2.1 dl_1585.1 rfl (lv_at hl 2 rfl) ?_
  refine q_ld (k := 1) cx h.2.2.2.2 hl dl_1586 dl_1587 dl_1588 dl_1589 dl_1590 (by decide) (by omega) hL ?_
  refine q_call (av := [.inl (xs (i + 1))]) (st := []) (x := r) (I2 := I2) cx h hl.1 dl_1591 ca_136 qw_1008 qw_1009 qw_1010 zCs_0 zcl_11 rfl (mt_fc_T_check e1) rfl ⟨by decide +kernel, by decide⟩ (Nat.le_of_ble_eq_true rfl) hroom (fun H1 locs1 h1 => ?_)
  refine lv_aload_n cx.1 cx.2.1 dl_1594.1 rfl (lv_at hl 3 rfl) ?_
  refine q_ld (k := 1) cx h1.2.2.2.2 hl dl_1595 dl_1596 dl_1597 dl_1598 dl_1599 (by decide) (by omega) hL ?_
  refine q_call2 (av := [.inl (xs (i + 1))]) (st := [.int r]) (x := r) (I2 := J2) cx h1 hl.1 dl_1600 ca_252 qw_1603 qw_1604 qw_1605 zMs_0 zcl_12 rfl (mt_fm_check e2) rfl ⟨by decide +kernel, by decide⟩ (Nat.le_of_ble_eq_true rfl) hroom (fun H2 locs2 h2 => ?_)
  exact lv_icmp_eq cx.1 cx.2.1 dl_1603.1 (tgt := 1654) (by decide) (fun _ => kk I2 J2 H2 locs2 h2 hR2) (fun hne => absurd rfl hne)
theorem qc_46 (cx : qC p s m c b L xs) (hl : lv_has ls 4 [(3, .int (nI i)), (0, .ref b), (1, .ref (ad1 0)), (2, .ref (ad2 0))]) (hi : i + 5 < L) (hL : L ≤ 384) (hroom : cells ≤ 600000 ∧ slots ≤ 7302250) (h : qH dC dI cA ad1 (zCs, zCr, I) ad2 (zMs, zMr, J) s H locs) (hR : rR I J)
    (kk : ∀ (I2 J2 : zI) (H2 : Heap) (locs2 : List Loc), qH dC dI cA ad1 (zCs, zCr, I2) ad2 (zMs, zMr, J2) s H2 locs2 → rR I2 J2 → W p l e room_1 s m #[Value.ref b] below meth c H2 locs2 cells slots Q (F0 m 1654 ls [])) : W p l e room_1 s m #[Value.ref b] below meth c H locs cells slots Q (F0 m 1608 ls []) := by
  obtain ⟨r, I2, J2, e1, e2, hR2⟩ := sim_count hR (xs (i + 1))
  refine lv_aload_n cx.1 cx.2.1 dl_1608.1 rfl (lv_at hl 2 rfl) ?_
  refine q_ld (k := 1) cx h.2.2.2.2 hl dl_1609 dl_1610 dl_1611 dl_1612 dl_1613 (by decide) (by omega) hL ?_
  refine q_call (av := [.inl (xs (i + 1))]) (st := []) (x := r) (I2 := I2) cx h hl.1 dl_1614 ca_138 qw_1016 qw_1017 qw_1018 zCs_0 zcl_11 rfl (mt_fc_T_count e1) rfl ⟨by decide +kernel, by decide⟩ (Nat.le_of_ble_eq_true rfl) hroom (fun H1 locs1 h1 => ?_)
  refine lv_aload_n cx.1 cx.2.1 dl_1617.1 rfl (lv_at hl 3 rfl) ?_
  refine q_ld (k := 1) cx h1.2.2.2.2 hl dl_1618 dl_1619 dl_1620 dl_1621 dl_1622 (by decide) (by omega) hL ?_
  refine q_call2 (av := [.inl (xs (i + 1))]) (st := [.int r]) (x := r) (I2 := J2) cx h1 hl.1 dl_1623 ca_253 qw_1607 qw_1608 qw_1609 zMs_0 zcl_12 rfl (mt_fm_count e2) rfl ⟨by decide +kernel, by decide⟩ (Nat.le_of_ble_eq_true rfl) hroom (fun H2 locs2 h2 => ?_)
  exact lv_icmp_eq cx.1 cx.2.1 dl_1626.1 (tgt := 1654) (by decide) (fun _ => kk I2 J2 H2 locs2 h2 hR2) (fun hne => absurd rfl hne)
theorem qc_47 (cx : qC p s m c b L xs) (hl : lv_has ls 4 [(3, .int (nI i)), (0, .ref b), (1, .ref (ad1 0)), (2, .ref (ad2 0))]) (hi : i + 5 < L) (hL : L ≤ 384) (hroom : cells ≤ 600000 ∧ slots ≤ 7302250) (h : qH dC dI cA ad1 (zCs, zCr, I) ad2 (zMs, zMr, J) s H locs) (hR : rR I J)
    (kk : ∀ (I2 J2 : zI) (H2 : Heap) (locs2 : List Loc), qH dC dI cA ad1 (zCs, zCr, I2) ad2 (zMs, zMr, J2) s H2 locs2 → rR I2 J2 → W p l e room_1 s m #[Value.ref b] below meth c H2 locs2 cells slots Q (F0 m 1654 ls [])) : W p l e room_1 s m #[Value.ref b] below meth c H locs cells slots Q (F0 m 1631 ls []) := by
  obtain ⟨r, I2, J2, e1, e2, hR2⟩ := sim_told hR (xs (i + 1))
  refine lv_aload_n cx.1 cx.2.1 dl_1631.1 rfl (lv_at hl 2 rfl) ?_
  refine q_ld (k := 1) cx h.2.2.2.2 hl dl_1632 dl_1633 dl_1634 dl_1635 dl_1636 (by decide) (by omega) hL ?_
  refine q_call (av := [.inl (xs (i + 1))]) (st := []) (x := r) (I2 := I2) cx h hl.1 dl_1637 ca_139 qw_1020 qw_1021 qw_1022 zCs_0 zcl_11 rfl (mt_fc_T_told e1) rfl ⟨by decide +kernel, by decide⟩ (Nat.le_of_ble_eq_true rfl) hroom (fun H1 locs1 h1 => ?_)
  refine lv_aload_n cx.1 cx.2.1 dl_1640.1 rfl (lv_at hl 3 rfl) ?_
  refine q_ld (k := 1) cx h1.2.2.2.2 hl dl_1641 dl_1642 dl_1643 dl_1644 dl_1645 (by decide) (by omega) hL ?_
  refine q_call2 (av := [.inl (xs (i + 1))]) (st := [.int r]) (x := r) (I2 := J2) cx h1 hl.1 dl_1646 ca_254 qw_1611 qw_1612 qw_1613 zMs_0 zcl_12 rfl (mt_fm_told e2) rfl ⟨by decide +kernel, by decide⟩ (Nat.le_of_ble_eq_true rfl) hroom (fun H2 locs2 h2 => ?_)
  exact lv_icmp_eq cx.1 cx.2.1 dl_1649.1 (tgt := 1654) (by decide) (fun _ => kk I2 J2 H2 locs2 h2 hR2) (fun hne => absurd rfl hne)
end QK
