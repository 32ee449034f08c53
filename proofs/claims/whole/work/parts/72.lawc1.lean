section LAWC2
variable {p : Program} {l : Launch} {e : Env} {s : State} {m : MethodId} {below : List Frame} {meth : Method} {c : Code} {H : Heap} {locs : List Loc} {cells slots : Nat} {Q : State → Prop} {ls : Array Slot} {G : am_G} {b L : Nat} {xs : Nat → Int32} {i : Nat} {M : am_M}
theorem lw_c2 (C : lCx p s m c b L xs G) (hcs : cells ≤ 600000 ∧ slots ≤ 7302250) (hi : i + 6 ≤ L) (hJ : J M) (hW : am_W G M H) (hS : va_S (lA s) s.heap H locs) (hl : lv_has ls 4 (lLv G b i))
    (kk : ∀ (M1 : am_M) (H1 : Heap) (locs1 : List Loc), J M1 → am_W G M1 H1 → va_S (lA s) s.heap H1 locs1 → W p l e room_1 s m #[Value.ref b] below meth c H1 locs1 cells slots Q (F0 m 1383 ls [])) : W p l e room_1 s m #[Value.ref b] below meth c H locs cells slots Q (F0 m 252 ls []) := by
  have hx := C.1
  have hb := C.2.1
  refine lv_aload_n hx hb dL_law_252 rfl (lv_at hl 2 rfl) ?_
  refine lw_arg (pc := 253) C 1 (by decide) (by decide) hi hS hl dL_law_253 dL_law_254 dL_law_255 dL_law_256 dL_law_257 ?_
  refine lw_call (pc := 258) (rest := []) (C := RX11) C snd_11_undo 0 1 [aI (xs (i + 1)).toInt] [.int (xs (i + 1))] (by decide) (ci := 11) rfl rfl dL_law_258 (in_g (i := 449) (by decide +kernel) (by decide +kernel)) (in_g (i := 450) (by decide +kernel) (by decide +kernel)) (in_g (i := 451) (by decide +kernel) (by decide +kernel)) (in_g (i := 65) (by decide +kernel) (by decide +kernel)) (in_g (i := 452) (by decide +kernel) (by decide +kernel)) (by decide +kernel) ⟨rfl, rfl⟩ rfl hl.1 (Nat.zero_le _) hcs hW hS (by exact ⟨rfl, trivial⟩) (lc_undo hJ) (fun r1 M1 w1 H locs hq1 hv1 hW hS => ?_)
  have hcat1 : (([w1] : List Value).map fun v => v.category).sum ≤ 8 := by rw [List.map_cons, List.map_nil, List.sum_cons, List.sum_nil]; have := cat_le w1; omega
  refine lv_aload_n hx hb dL_law_261 rfl (lv_at hl 1 rfl) ?_
  refine lw_arg (pc := 262) C 1 (by decide) (by decide) hi hS hl dL_law_262 dL_law_263 dL_law_264 dL_law_265 dL_law_266 ?_
  refine lw_call (pc := 267) (rest := [w1]) (C := RX12) C snd_12_undo 44 1 [aI (xs (i + 1)).toInt] [.int (xs (i + 1))] (by decide) (ci := 12) rfl rfl dL_law_267 (in_g (i := 1112) (by decide +kernel) (by decide +kernel)) (in_g (i := 1113) (by decide +kernel) (by decide +kernel)) (in_g (i := 1114) (by decide +kernel) (by decide +kernel)) (in_g (i := 78) (by decide +kernel) (by decide +kernel)) (in_g (i := 1115) (by decide +kernel) (by decide +kernel)) (by decide +kernel) ⟨rfl, rfl⟩ rfl hl.1 hcat1 hcs hW hS (by exact ⟨rfl, trivial⟩) (hq1) (fun r2 M2 w2 H locs hq2 hv2 hW hS => ?_)
  obtain ⟨⟨v, e1, e2⟩, hJ2⟩ := hq2
  subst e1
  subst e2
  obtain ⟨x, rfl, h1⟩ := rv_i hv1
  obtain ⟨y, rfl, h2⟩ := rv_i hv2
  obtain rfl : x = y := Int32.toInt_inj.mp (h1.trans h2.symm)
  exact lv_icmp_eq (tgt := 1383) hx hb dL_law_270 (by decide) (fun _ => kk M2 H locs hJ2 hW hS) (fun h => absurd rfl h)
theorem lw_c3 (C : lCx p s m c b L xs G) (hcs : cells ≤ 600000 ∧ slots ≤ 7302250) (hi : i + 6 ≤ L) (hJ : J M) (hW : am_W G M H) (hS : va_S (lA s) s.heap H locs) (hl : lv_has ls 4 (lLv G b i))
    (kk : ∀ (M1 : am_M) (H1 : Heap) (locs1 : List Loc), J M1 → am_W G M1 H1 → va_S (lA s) s.heap H1 locs1 → W p l e room_1 s m #[Value.ref b] below meth c H1 locs1 cells slots Q (F0 m 1383 ls [])) : W p l e room_1 s m #[Value.ref b] below meth c H locs cells slots Q (F0 m 275 ls []) := by
  have hx := C.1
  have hb := C.2.1
  refine lv_aload_n hx hb dL_law_275 rfl (lv_at hl 2 rfl) ?_
  refine lw_arg (pc := 276) C 1 (by decide) (by decide) hi hS hl dL_law_276 dL_law_277 dL_law_278 dL_law_279 dL_law_280 ?_
  refine lw_call (pc := 281) (rest := []) (C := RX11) C snd_11_fault 0 1 [aI (xs (i + 1)).toInt] [.int (xs (i + 1))] (by decide) (ci := 11) rfl rfl dL_law_281 (in_g (i := 453) (by decide +kernel) (by decide +kernel)) (in_g (i := 454) (by decide +kernel) (by decide +kernel)) (in_g (i := 455) (by decide +kernel) (by decide +kernel)) (in_g (i := 65) (by decide +kernel) (by decide +kernel)) (in_g (i := 456) (by decide +kernel) (by decide +kernel)) (by decide +kernel) ⟨rfl, rfl⟩ rfl hl.1 (Nat.zero_le _) hcs hW hS (by exact ⟨rfl, trivial⟩) (lc_fault hJ) (fun r1 M1 w1 H locs hq1 hv1 hW hS => ?_)
  have hcat1 : (([w1] : List Value).map fun v => v.category).sum ≤ 8 := by rw [List.map_cons, List.map_nil, List.sum_cons, List.sum_nil]; have := cat_le w1; omega
  refine lv_aload_n hx hb dL_law_284 rfl (lv_at hl 1 rfl) ?_
  refine lw_arg (pc := 285) C 1 (by decide) (by decide) hi hS hl dL_law_285 dL_law_286 dL_law_287 dL_law_288 dL_law_289 ?_
  refine lw_call (pc := 290) (rest := [w1]) (C := RX12) C snd_12_fault 44 1 [aI (xs (i + 1)).toInt] [.int (xs (i + 1))] (by decide) (ci := 12) rfl rfl dL_law_290 (in_g (i := 1116) (by decide +kernel) (by decide +kernel)) (in_g (i := 1117) (by decide +kernel) (by decide +kernel)) (in_g (i := 1118) (by decide +kernel) (by decide +kernel)) (in_g (i := 78) (by decide +kernel) (by decide +kernel)) (in_g (i := 1119) (by decide +kernel) (by decide +kernel)) (by decide +kernel) ⟨rfl, rfl⟩ rfl hl.1 hcat1 hcs hW hS (by exact ⟨rfl, trivial⟩) (hq1) (fun r2 M2 w2 H locs hq2 hv2 hW hS => ?_)
  obtain ⟨⟨v, e1, e2⟩, hJ2⟩ := hq2
  subst e1
  subst e2
  obtain ⟨x, rfl, h1⟩ := rv_i hv1
  obtain ⟨y, rfl, h2⟩ := rv_i hv2
  obtain rfl : x = y := Int32.toInt_inj.mp (h1.trans h2.symm)
  exact lv_icmp_eq (tgt := 1383) hx hb dL_law_293 (by decide) (fun _ => kk M2 H locs hJ2 hW hS) (fun h => absurd rfl h)
theorem lw_c4 (C : lCx p s m c b L xs G) (hcs : cells ≤ 600000 ∧ slots ≤ 7302250) (hi : i + 6 ≤ L) (hJ : J M) (hW : am_W G M H) (hS : va_S (lA s) s.heap H locs) (hl : lv_has ls 4 (lLv G b i))
    (kk : ∀ (M1 : am_M) (H1 : Heap) (locs1 : List Loc), J M1 → am_W G M1 H1 → va_S (lA s) s.heap H1 locs1 → W p l e room_1 s m #[Value.ref b] below meth c H1 locs1 cells slots Q (F0 m 1383 ls [])) : W p l e room_1 s m #[Value.ref b] below meth c H locs cells slots Q (F0 m 298 ls []) := by
  have hx := C.1
  have hb := C.2.1
  refine lv_aload_n hx hb dL_law_298 rfl (lv_at hl 2 rfl) ?_
  refine lw_arg (pc := 299) C 1 (by decide) (by decide) hi hS hl dL_law_299 dL_law_300 dL_law_301 dL_law_302 dL_law_303 ?_
  refine lw_arg (pc := 304) C 2 (by decide) (by decide) hi hS hl dL_law_304 dL_law_305 dL_law_306 dL_law_307 dL_law_308 ?_
  refine lw_call (pc := 309) (rest := []) (C := RX11) C snd_11_set 0 2 [aI (xs (i + 1)).toInt, aI (xs (i + 2)).toInt] [.int (xs (i + 1)), .int (xs (i + 2))] (by decide) (ci := 11) rfl rfl dL_law_309 (in_g (i := 457) (by decide +kernel) (by decide +kernel)) (in_g (i := 458) (by decide +kernel) (by decide +kernel)) (in_g (i := 459) (by decide +kernel) (by decide +kernel)) (in_g (i := 65) (by decide +kernel) (by decide +kernel)) (in_g (i := 460) (by decide +kernel) (by decide +kernel)) (by decide +kernel) ⟨rfl, rfl⟩ rfl hl.1 (Nat.zero_le _) hcs hW hS (by exact ⟨rfl, rfl, trivial⟩) (lc_set hJ) (fun r1 M1 w1 H locs hq1 hv1 hW hS => ?_)
  have hcat1 : (([w1] : List Value).map fun v => v.category).sum ≤ 8 := by rw [List.map_cons, List.map_nil, List.sum_cons, List.sum_nil]; have := cat_le w1; omega
  refine lv_aload_n hx hb dL_law_312 rfl (lv_at hl 1 rfl) ?_
  refine lw_arg (pc := 313) C 1 (by decide) (by decide) hi hS hl dL_law_313 dL_law_314 dL_law_315 dL_law_316 dL_law_317 ?_
  refine lw_arg (pc := 318) C 2 (by decide) (by decide) hi hS hl dL_law_318 dL_law_319 dL_law_320 dL_law_321 dL_law_322 ?_
  refine lw_call (pc := 323) (rest := [w1]) (C := RX12) C snd_12_set 44 2 [aI (xs (i + 1)).toInt, aI (xs (i + 2)).toInt] [.int (xs (i + 1)), .int (xs (i + 2))] (by decide) (ci := 12) rfl rfl dL_law_323 (in_g (i := 1153) (by decide +kernel) (by decide +kernel)) (in_g (i := 1154) (by decide +kernel) (by decide +kernel)) (in_g (i := 1155) (by decide +kernel) (by decide +kernel)) (in_g (i := 78) (by decide +kernel) (by decide +kernel)) (in_g (i := 1156) (by decide +kernel) (by decide +kernel)) (by decide +kernel) ⟨rfl, rfl⟩ rfl hl.1 hcat1 hcs hW hS (by exact ⟨rfl, rfl, trivial⟩) (hq1) (fun r2 M2 w2 H locs hq2 hv2 hW hS => ?_)
  obtain ⟨⟨v, e1, e2⟩, hJ2⟩ := hq2
  subst e1
  subst e2
  obtain ⟨x, rfl, h1⟩ := rv_i hv1
  obtain ⟨y, rfl, h2⟩ := rv_i hv2
  obtain rfl : x = y := Int32.toInt_inj.mp (h1.trans h2.symm)
  exact lv_icmp_eq (tgt := 1383) hx hb dL_law_326 (by decide) (fun _ => kk M2 H locs hJ2 hW hS) (fun h => absurd rfl h)
theorem lw_c5 (C : lCx p s m c b L xs G) (hcs : cells ≤ 600000 ∧ slots ≤ 7302250) (hi : i + 6 ≤ L) (hJ : J M) (hW : am_W G M H) (hS : va_S (lA s) s.heap H locs) (hl : lv_has ls 4 (lLv G b i))
    (kk : ∀ (M1 : am_M) (H1 : Heap) (locs1 : List Loc), J M1 → am_W G M1 H1 → va_S (lA s) s.heap H1 locs1 → W p l e room_1 s m #[Value.ref b] below meth c H1 locs1 cells slots Q (F0 m 1383 ls [])) : W p l e room_1 s m #[Value.ref b] below meth c H locs cells slots Q (F0 m 331 ls []) := by
  have hx := C.1
  have hb := C.2.1
  refine lv_aload_n hx hb dL_law_331 rfl (lv_at hl 2 rfl) ?_
  refine lw_arg (pc := 332) C 1 (by decide) (by decide) hi hS hl dL_law_332 dL_law_333 dL_law_334 dL_law_335 dL_law_336 ?_
  refine lw_arg (pc := 337) C 2 (by decide) (by decide) hi hS hl dL_law_337 dL_law_338 dL_law_339 dL_law_340 dL_law_341 ?_
  refine lw_arg (pc := 342) C 3 (by decide) (by decide) hi hS hl dL_law_342 dL_law_343 dL_law_344 dL_law_345 dL_law_346 ?_
  refine lw_call (pc := 347) (rest := []) (C := RX11) C snd_11_grip 0 3 [aI (xs (i + 1)).toInt, aI (xs (i + 2)).toInt, aI (xs (i + 3)).toInt] [.int (xs (i + 1)), .int (xs (i + 2)), .int (xs (i + 3))] (by decide) (ci := 11) rfl rfl dL_law_347 (in_g (i := 461) (by decide +kernel) (by decide +kernel)) (in_g (i := 462) (by decide +kernel) (by decide +kernel)) (in_g (i := 463) (by decide +kernel) (by decide +kernel)) (in_g (i := 65) (by decide +kernel) (by decide +kernel)) (in_g (i := 464) (by decide +kernel) (by decide +kernel)) (by decide +kernel) ⟨rfl, rfl⟩ rfl hl.1 (Nat.zero_le _) hcs hW hS (by exact ⟨rfl, rfl, rfl, trivial⟩) (lc_grip hJ) (fun r1 M1 w1 H locs hq1 hv1 hW hS => ?_)
  have hcat1 : (([w1] : List Value).map fun v => v.category).sum ≤ 8 := by rw [List.map_cons, List.map_nil, List.sum_cons, List.sum_nil]; have := cat_le w1; omega
  refine lv_aload_n hx hb dL_law_350 rfl (lv_at hl 1 rfl) ?_
  refine lw_arg (pc := 351) C 1 (by decide) (by decide) hi hS hl dL_law_351 dL_law_352 dL_law_353 dL_law_354 dL_law_355 ?_
  refine lw_arg (pc := 356) C 2 (by decide) (by decide) hi hS hl dL_law_356 dL_law_357 dL_law_358 dL_law_359 dL_law_360 ?_
  refine lw_arg (pc := 361) C 3 (by decide) (by decide) hi hS hl dL_law_361 dL_law_362 dL_law_363 dL_law_364 dL_law_365 ?_
  refine lw_call (pc := 366) (rest := [w1]) (C := RX12) C snd_12_grip 44 3 [aI (xs (i + 1)).toInt, aI (xs (i + 2)).toInt, aI (xs (i + 3)).toInt] [.int (xs (i + 1)), .int (xs (i + 2)), .int (xs (i + 3))] (by decide) (ci := 12) rfl rfl dL_law_366 (in_g (i := 1158) (by decide +kernel) (by decide +kernel)) (in_g (i := 1159) (by decide +kernel) (by decide +kernel)) (in_g (i := 1160) (by decide +kernel) (by decide +kernel)) (in_g (i := 78) (by decide +kernel) (by decide +kernel)) (in_g (i := 1161) (by decide +kernel) (by decide +kernel)) (by decide +kernel) ⟨rfl, rfl⟩ rfl hl.1 hcat1 hcs hW hS (by exact ⟨rfl, rfl, rfl, trivial⟩) (hq1) (fun r2 M2 w2 H locs hq2 hv2 hW hS => ?_)
  obtain ⟨⟨v, e1, e2⟩, hJ2⟩ := hq2
  subst e1
  subst e2
  obtain ⟨x, rfl, h1⟩ := rv_i hv1
  obtain ⟨y, rfl, h2⟩ := rv_i hv2
  obtain rfl : x = y := Int32.toInt_inj.mp (h1.trans h2.symm)
  exact lv_icmp_eq (tgt := 1383) hx hb dL_law_369 (by decide) (fun _ => kk M2 H locs hJ2 hW hS) (fun h => absurd rfl h)
theorem lw_c6 (C : lCx p s m c b L xs G) (hcs : cells ≤ 600000 ∧ slots ≤ 7302250) (hi : i + 6 ≤ L) (hJ : J M) (hW : am_W G M H) (hS : va_S (lA s) s.heap H locs) (hl : lv_has ls 4 (lLv G b i))
    (kk : ∀ (M1 : am_M) (H1 : Heap) (locs1 : List Loc), J M1 → am_W G M1 H1 → va_S (lA s) s.heap H1 locs1 → W p l e room_1 s m #[Value.ref b] below meth c H1 locs1 cells slots Q (F0 m 1383 ls [])) : W p l e room_1 s m #[Value.ref b] below meth c H locs cells slots Q (F0 m 374 ls []) := by
  have hx := C.1
  have hb := C.2.1
  refine lv_aload_n hx hb dL_law_374 rfl (lv_at hl 2 rfl) ?_
  refine lw_arg (pc := 375) C 1 (by decide) (by decide) hi hS hl dL_law_375 dL_law_376 dL_law_377 dL_law_378 dL_law_379 ?_
  refine lw_arg (pc := 380) C 2 (by decide) (by decide) hi hS hl dL_law_380 dL_law_381 dL_law_382 dL_law_383 dL_law_384 ?_
  refine lw_arg (pc := 385) C 3 (by decide) (by decide) hi hS hl dL_law_385 dL_law_386 dL_law_387 dL_law_388 dL_law_389 ?_
  refine lw_call (pc := 390) (rest := []) (C := RX11) C snd_11_person 0 3 [aI (xs (i + 1)).toInt, aI (xs (i + 2)).toInt, aI (xs (i + 3)).toInt] [.int (xs (i + 1)), .int (xs (i + 2)), .int (xs (i + 3))] (by decide) (ci := 11) rfl rfl dL_law_390 (in_g (i := 477) (by decide +kernel) (by decide +kernel)) (in_g (i := 478) (by decide +kernel) (by decide +kernel)) (in_g (i := 479) (by decide +kernel) (by decide +kernel)) (in_g (i := 65) (by decide +kernel) (by decide +kernel)) (in_g (i := 480) (by decide +kernel) (by decide +kernel)) (by decide +kernel) ⟨rfl, rfl⟩ rfl hl.1 (Nat.zero_le _) hcs hW hS (by exact ⟨rfl, rfl, rfl, trivial⟩) (lc_person hJ) (fun r1 M1 w1 H locs hq1 hv1 hW hS => ?_)
  have hcat1 : (([w1] : List Value).map fun v => v.category).sum ≤ 8 := by rw [List.map_cons, List.map_nil, List.sum_cons, List.sum_nil]; have := cat_le w1; omega
  refine lv_aload_n hx hb dL_law_393 rfl (lv_at hl 1 rfl) ?_
  refine lw_arg (pc := 394) C 1 (by decide) (by decide) hi hS hl dL_law_394 dL_law_395 dL_law_396 dL_law_397 dL_law_398 ?_
  refine lw_arg (pc := 399) C 2 (by decide) (by decide) hi hS hl dL_law_399 dL_law_400 dL_law_401 dL_law_402 dL_law_403 ?_
  refine lw_arg (pc := 404) C 3 (by decide) (by decide) hi hS hl dL_law_404 dL_law_405 dL_law_406 dL_law_407 dL_law_408 ?_
  refine lw_call (pc := 409) (rest := [w1]) (C := RX12) C snd_12_person 44 3 [aI (xs (i + 1)).toInt, aI (xs (i + 2)).toInt, aI (xs (i + 3)).toInt] [.int (xs (i + 1)), .int (xs (i + 2)), .int (xs (i + 3))] (by decide) (ci := 12) rfl rfl dL_law_409 (in_g (i := 1166) (by decide +kernel) (by decide +kernel)) (in_g (i := 1167) (by decide +kernel) (by decide +kernel)) (in_g (i := 1168) (by decide +kernel) (by decide +kernel)) (in_g (i := 78) (by decide +kernel) (by decide +kernel)) (in_g (i := 1169) (by decide +kernel) (by decide +kernel)) (by decide +kernel) ⟨rfl, rfl⟩ rfl hl.1 hcat1 hcs hW hS (by exact ⟨rfl, rfl, rfl, trivial⟩) (hq1) (fun r2 M2 w2 H locs hq2 hv2 hW hS => ?_)
  obtain ⟨⟨v, e1, e2⟩, hJ2⟩ := hq2
  subst e1
  subst e2
  obtain ⟨x, rfl, h1⟩ := rv_i hv1
  obtain ⟨y, rfl, h2⟩ := rv_i hv2
  obtain rfl : x = y := Int32.toInt_inj.mp (h1.trans h2.symm)
  exact lv_icmp_eq (tgt := 1383) hx hb dL_law_412 (by decide) (fun _ => kk M2 H locs hJ2 hW hS) (fun h => absurd rfl h)
theorem lw_c7 (C : lCx p s m c b L xs G) (hcs : cells ≤ 600000 ∧ slots ≤ 7302250) (hi : i + 6 ≤ L) (hJ : J M) (hW : am_W G M H) (hS : va_S (lA s) s.heap H locs) (hl : lv_has ls 4 (lLv G b i))
    (kk : ∀ (M1 : am_M) (H1 : Heap) (locs1 : List Loc), J M1 → am_W G M1 H1 → va_S (lA s) s.heap H1 locs1 → W p l e room_1 s m #[Value.ref b] below meth c H1 locs1 cells slots Q (F0 m 1383 ls [])) : W p l e room_1 s m #[Value.ref b] below meth c H locs cells slots Q (F0 m 417 ls []) := by
  have hx := C.1
  have hb := C.2.1
  refine lv_aload_n hx hb dL_law_417 rfl (lv_at hl 2 rfl) ?_
  refine lw_arg (pc := 418) C 1 (by decide) (by decide) hi hS hl dL_law_418 dL_law_419 dL_law_420 dL_law_421 dL_law_422 ?_
  refine lw_call (pc := 423) (rest := []) (C := RX11) C snd_11_read 0 1 [aI (xs (i + 1)).toInt] [.int (xs (i + 1))] (by decide) (ci := 11) rfl rfl dL_law_423 (in_g (i := 484) (by decide +kernel) (by decide +kernel)) (in_g (i := 485) (by decide +kernel) (by decide +kernel)) (in_g (i := 486) (by decide +kernel) (by decide +kernel)) (in_g (i := 65) (by decide +kernel) (by decide +kernel)) (in_g (i := 487) (by decide +kernel) (by decide +kernel)) (by decide +kernel) ⟨rfl, rfl⟩ rfl hl.1 (Nat.zero_le _) hcs hW hS (by exact ⟨rfl, trivial⟩) (lc_read hJ) (fun r1 M1 w1 H locs hq1 hv1 hW hS => ?_)
  have hcat1 : (([w1] : List Value).map fun v => v.category).sum ≤ 8 := by rw [List.map_cons, List.map_nil, List.sum_cons, List.sum_nil]; have := cat_le w1; omega
  refine lv_aload_n hx hb dL_law_426 rfl (lv_at hl 1 rfl) ?_
  refine lw_arg (pc := 427) C 1 (by decide) (by decide) hi hS hl dL_law_427 dL_law_428 dL_law_429 dL_law_430 dL_law_431 ?_
  refine lw_call (pc := 432) (rest := [w1]) (C := RX12) C snd_12_read 44 1 [aI (xs (i + 1)).toInt] [.int (xs (i + 1))] (by decide) (ci := 12) rfl rfl dL_law_432 (in_g (i := 1173) (by decide +kernel) (by decide +kernel)) (in_g (i := 1174) (by decide +kernel) (by decide +kernel)) (in_g (i := 1175) (by decide +kernel) (by decide +kernel)) (in_g (i := 78) (by decide +kernel) (by decide +kernel)) (in_g (i := 1176) (by decide +kernel) (by decide +kernel)) (by decide +kernel) ⟨rfl, rfl⟩ rfl hl.1 hcat1 hcs hW hS (by exact ⟨rfl, trivial⟩) (hq1) (fun r2 M2 w2 H locs hq2 hv2 hW hS => ?_)
  obtain ⟨⟨v, e1, e2⟩, hJ2⟩ := hq2
  subst e1
  subst e2
  obtain ⟨x, rfl, h1⟩ := rv_i hv1
  obtain ⟨y, rfl, h2⟩ := rv_i hv2
  obtain rfl : x = y := Int32.toInt_inj.mp (h1.trans h2.symm)
  exact lv_icmp_eq (tgt := 1383) hx hb dL_law_435 (by decide) (fun _ => kk M2 H locs hJ2 hW hS) (fun h => absurd rfl h)
theorem lw_c8 (C : lCx p s m c b L xs G) (hcs : cells ≤ 600000 ∧ slots ≤ 7302250) (hi : i + 6 ≤ L) (hJ : J M) (hW : am_W G M H) (hS : va_S (lA s) s.heap H locs) (hl : lv_has ls 4 (lLv G b i))
    (kk : ∀ (M1 : am_M) (H1 : Heap) (locs1 : List Loc), J M1 → am_W G M1 H1 → va_S (lA s) s.heap H1 locs1 → W p l e room_1 s m #[Value.ref b] below meth c H1 locs1 cells slots Q (F0 m 1383 ls [])) : W p l e room_1 s m #[Value.ref b] below meth c H locs cells slots Q (F0 m 440 ls []) := by
  have hx := C.1
  have hb := C.2.1
  refine lv_aload_n hx hb dL_law_440 rfl (lv_at hl 2 rfl) ?_
  refine lw_arg (pc := 441) C 1 (by decide) (by decide) hi hS hl dL_law_441 dL_law_442 dL_law_443 dL_law_444 dL_law_445 ?_
  refine lw_call (pc := 446) (rest := []) (C := RX11) C snd_11_dense 0 1 [aI (xs (i + 1)).toInt] [.int (xs (i + 1))] (by decide) (ci := 11) rfl rfl dL_law_446 (in_g (i := 509) (by decide +kernel) (by decide +kernel)) (in_g (i := 510) (by decide +kernel) (by decide +kernel)) (in_g (i := 511) (by decide +kernel) (by decide +kernel)) (in_g (i := 65) (by decide +kernel) (by decide +kernel)) (in_g (i := 512) (by decide +kernel) (by decide +kernel)) (by decide +kernel) ⟨rfl, rfl⟩ rfl hl.1 (Nat.zero_le _) hcs hW hS (by exact ⟨rfl, trivial⟩) (lc_dense hJ) (fun r1 M1 w1 H locs hq1 hv1 hW hS => ?_)
  have hcat1 : (([w1] : List Value).map fun v => v.category).sum ≤ 8 := by rw [List.map_cons, List.map_nil, List.sum_cons, List.sum_nil]; have := cat_le w1; omega
  refine lv_aload_n hx hb dL_law_449 rfl (lv_at hl 1 rfl) ?_
  refine lw_arg (pc := 450) C 1 (by decide) (by decide) hi hS hl dL_law_450 dL_law_451 dL_law_452 dL_law_453 dL_law_454 ?_
  refine lw_call (pc := 455) (rest := [w1]) (C := RX12) C snd_12_dense 44 1 [aI (xs (i + 1)).toInt] [.int (xs (i + 1))] (by decide) (ci := 12) rfl rfl dL_law_455 (in_g (i := 1178) (by decide +kernel) (by decide +kernel)) (in_g (i := 1179) (by decide +kernel) (by decide +kernel)) (in_g (i := 1180) (by decide +kernel) (by decide +kernel)) (in_g (i := 78) (by decide +kernel) (by decide +kernel)) (in_g (i := 1181) (by decide +kernel) (by decide +kernel)) (by decide +kernel) ⟨rfl, rfl⟩ rfl hl.1 hcat1 hcs hW hS (by exact ⟨rfl, trivial⟩) (hq1) (fun r2 M2 w2 H locs hq2 hv2 hW hS => ?_)
  obtain ⟨⟨v, e1, e2⟩, hJ2⟩ := hq2
  subst e1
  subst e2
  obtain ⟨x, rfl, h1⟩ := rv_i hv1
  obtain ⟨y, rfl, h2⟩ := rv_i hv2
  obtain rfl : x = y := Int32.toInt_inj.mp (h1.trans h2.symm)
  exact lv_icmp_eq (tgt := 1383) hx hb dL_law_458 (by decide) (fun _ => kk M2 H locs hJ2 hW hS) (fun h => absurd rfl h)
theorem lw_c9 (C : lCx p s m c b L xs G) (hcs : cells ≤ 600000 ∧ slots ≤ 7302250) (hi : i + 6 ≤ L) (hJ : J M) (hW : am_W G M H) (hS : va_S (lA s) s.heap H locs) (hl : lv_has ls 4 (lLv G b i))
    (kk : ∀ (M1 : am_M) (H1 : Heap) (locs1 : List Loc), J M1 → am_W G M1 H1 → va_S (lA s) s.heap H1 locs1 → W p l e room_1 s m #[Value.ref b] below meth c H1 locs1 cells slots Q (F0 m 1383 ls [])) : W p l e room_1 s m #[Value.ref b] below meth c H locs cells slots Q (F0 m 463 ls []) := by
  have hx := C.1
  have hb := C.2.1
  refine lv_aload_n hx hb dL_law_463 rfl (lv_at hl 2 rfl) ?_
  refine lw_call (pc := 464) (rest := []) (C := RX11) C snd_11_judged 0 0 [] [] (by decide) (ci := 11) rfl rfl dL_law_464 (in_g (i := 518) (by decide +kernel) (by decide +kernel)) (in_g (i := 519) (by decide +kernel) (by decide +kernel)) (in_g (i := 520) (by decide +kernel) (by decide +kernel)) (in_g (i := 65) (by decide +kernel) (by decide +kernel)) (in_g (i := 521) (by decide +kernel) (by decide +kernel)) (by decide +kernel) ⟨rfl, rfl⟩ rfl hl.1 (Nat.zero_le _) hcs hW hS (by exact trivial) (lc_judged hJ) (fun r1 M1 w1 H locs hq1 hv1 hW hS => ?_)
  have hcat1 : (([w1] : List Value).map fun v => v.category).sum ≤ 8 := by rw [List.map_cons, List.map_nil, List.sum_cons, List.sum_nil]; have := cat_le w1; omega
  refine lv_aload_n hx hb dL_law_467 rfl (lv_at hl 1 rfl) ?_
  refine lw_call (pc := 468) (rest := [w1]) (C := RX12) C snd_12_judged 44 0 [] [] (by decide) (ci := 12) rfl rfl dL_law_468 (in_g (i := 1199) (by decide +kernel) (by decide +kernel)) (in_g (i := 1200) (by decide +kernel) (by decide +kernel)) (in_g (i := 1201) (by decide +kernel) (by decide +kernel)) (in_g (i := 78) (by decide +kernel) (by decide +kernel)) (in_g (i := 1202) (by decide +kernel) (by decide +kernel)) (by decide +kernel) ⟨rfl, rfl⟩ rfl hl.1 hcat1 hcs hW hS (by exact trivial) (hq1) (fun r2 M2 w2 H locs hq2 hv2 hW hS => ?_)
  obtain ⟨⟨v, e1, e2⟩, hJ2⟩ := hq2
  subst e1
  subst e2
  obtain ⟨x, rfl, h1⟩ := rv_i hv1
  obtain ⟨y, rfl, h2⟩ := rv_i hv2
  obtain rfl : x = y := Int32.toInt_inj.mp (h1.trans h2.symm)
  exact lv_icmp_eq (tgt := 1383) hx hb dL_law_471 (by decide) (fun _ => kk M2 H locs hJ2 hW hS) (fun h => absurd rfl h)
theorem lw_c10 (C : lCx p s m c b L xs G) (hcs : cells ≤ 600000 ∧ slots ≤ 7302250) (hi : i + 6 ≤ L) (hJ : J M) (hW : am_W G M H) (hS : va_S (lA s) s.heap H locs) (hl : lv_has ls 4 (lLv G b i))
    (kk : ∀ (M1 : am_M) (H1 : Heap) (locs1 : List Loc), J M1 → am_W G M1 H1 → va_S (lA s) s.heap H1 locs1 → W p l e room_1 s m #[Value.ref b] below meth c H1 locs1 cells slots Q (F0 m 1383 ls [])) : W p l e room_1 s m #[Value.ref b] below meth c H locs cells slots Q (F0 m 476 ls []) := by
  have hx := C.1
  have hb := C.2.1
  refine lv_aload_n hx hb dL_law_476 rfl (lv_at hl 2 rfl) ?_
  refine lw_arg (pc := 477) C 1 (by decide) (by decide) hi hS hl dL_law_477 dL_law_478 dL_law_479 dL_law_480 dL_law_481 ?_
  refine lw_call (pc := 482) (rest := []) (C := RX11) C snd_11_at 0 1 [aI (xs (i + 1)).toInt] [.int (xs (i + 1))] (by decide) (ci := 11) rfl rfl dL_law_482 (in_g (i := 522) (by decide +kernel) (by decide +kernel)) (in_g (i := 523) (by decide +kernel) (by decide +kernel)) (in_g (i := 524) (by decide +kernel) (by decide +kernel)) (in_g (i := 65) (by decide +kernel) (by decide +kernel)) (in_g (i := 525) (by decide +kernel) (by decide +kernel)) (by decide +kernel) ⟨rfl, rfl⟩ rfl hl.1 (Nat.zero_le _) hcs hW hS (by exact ⟨rfl, trivial⟩) (lc_at hJ) (fun r1 M1 w1 H locs hq1 hv1 hW hS => ?_)
  have hcat1 : (([w1] : List Value).map fun v => v.category).sum ≤ 8 := by rw [List.map_cons, List.map_nil, List.sum_cons, List.sum_nil]; have := cat_le w1; omega
  refine lv_aload_n hx hb dL_law_485 rfl (lv_at hl 1 rfl) ?_
  refine lw_arg (pc := 486) C 1 (by decide) (by decide) hi hS hl dL_law_486 dL_law_487 dL_law_488 dL_law_489 dL_law_490 ?_
  refine lw_call (pc := 491) (rest := [w1]) (C := RX12) C snd_12_at 44 1 [aI (xs (i + 1)).toInt] [.int (xs (i + 1))] (by decide) (ci := 12) rfl rfl dL_law_491 (in_g (i := 1203) (by decide +kernel) (by decide +kernel)) (in_g (i := 1204) (by decide +kernel) (by decide +kernel)) (in_g (i := 1205) (by decide +kernel) (by decide +kernel)) (in_g (i := 78) (by decide +kernel) (by decide +kernel)) (in_g (i := 1206) (by decide +kernel) (by decide +kernel)) (by decide +kernel) ⟨rfl, rfl⟩ rfl hl.1 hcat1 hcs hW hS (by exact ⟨rfl, trivial⟩) (hq1) (fun r2 M2 w2 H locs hq2 hv2 hW hS => ?_)
  obtain ⟨⟨v, e1, e2⟩, hJ2⟩ := hq2
  subst e1
  subst e2
  obtain ⟨x, rfl, h1⟩ := rv_i hv1
  obtain ⟨y, rfl, h2⟩ := rv_i hv2
  obtain rfl : x = y := Int32.toInt_inj.mp (h1.trans h2.symm)
  exact lv_icmp_eq (tgt := 1383) hx hb dL_law_494 (by decide) (fun _ => kk M2 H locs hJ2 hW hS) (fun h => absurd rfl h)
theorem lw_c11 (C : lCx p s m c b L xs G) (hcs : cells ≤ 600000 ∧ slots ≤ 7302250) (hi : i + 6 ≤ L) (hJ : J M) (hW : am_W G M H) (hS : va_S (lA s) s.heap H locs) (hl : lv_has ls 4 (lLv G b i))
    (kk : ∀ (M1 : am_M) (H1 : Heap) (locs1 : List Loc), J M1 → am_W G M1 H1 → va_S (lA s) s.heap H1 locs1 → W p l e room_1 s m #[Value.ref b] below meth c H1 locs1 cells slots Q (F0 m 1383 ls [])) : W p l e room_1 s m #[Value.ref b] below meth c H locs cells slots Q (F0 m 499 ls []) := by
  have hx := C.1
  have hb := C.2.1
  refine lv_aload_n hx hb dL_law_499 rfl (lv_at hl 2 rfl) ?_
  refine lw_arg (pc := 500) C 1 (by decide) (by decide) hi hS hl dL_law_500 dL_law_501 dL_law_502 dL_law_503 dL_law_504 ?_
  refine lw_arg (pc := 505) C 2 (by decide) (by decide) hi hS hl dL_law_505 dL_law_506 dL_law_507 dL_law_508 dL_law_509 ?_
  refine lw_call (pc := 510) (rest := []) (C := RX11) C snd_11_near 0 2 [aI (xs (i + 1)).toInt, aI (xs (i + 2)).toInt] [.int (xs (i + 1)), .int (xs (i + 2))] (by decide) (ci := 11) rfl rfl dL_law_510 (in_g (i := 530) (by decide +kernel) (by decide +kernel)) (in_g (i := 531) (by decide +kernel) (by decide +kernel)) (in_g (i := 532) (by decide +kernel) (by decide +kernel)) (in_g (i := 65) (by decide +kernel) (by decide +kernel)) (in_g (i := 533) (by decide +kernel) (by decide +kernel)) (by decide +kernel) ⟨rfl, rfl⟩ rfl hl.1 (Nat.zero_le _) hcs hW hS (by exact ⟨rfl, rfl, trivial⟩) (lc_near hJ) (fun r1 M1 w1 H locs hq1 hv1 hW hS => ?_)
  have hcat1 : (([w1] : List Value).map fun v => v.category).sum ≤ 8 := by rw [List.map_cons, List.map_nil, List.sum_cons, List.sum_nil]; have := cat_le w1; omega
  refine lv_aload_n hx hb dL_law_513 rfl (lv_at hl 1 rfl) ?_
  refine lw_arg (pc := 514) C 1 (by decide) (by decide) hi hS hl dL_law_514 dL_law_515 dL_law_516 dL_law_517 dL_law_518 ?_
  refine lw_arg (pc := 519) C 2 (by decide) (by decide) hi hS hl dL_law_519 dL_law_520 dL_law_521 dL_law_522 dL_law_523 ?_
  refine lw_call (pc := 524) (rest := [w1]) (C := RX12) C snd_12_near 44 2 [aI (xs (i + 1)).toInt, aI (xs (i + 2)).toInt] [.int (xs (i + 1)), .int (xs (i + 2))] (by decide) (ci := 12) rfl rfl dL_law_524 (in_g (i := 1207) (by decide +kernel) (by decide +kernel)) (in_g (i := 1208) (by decide +kernel) (by decide +kernel)) (in_g (i := 1209) (by decide +kernel) (by decide +kernel)) (in_g (i := 78) (by decide +kernel) (by decide +kernel)) (in_g (i := 1210) (by decide +kernel) (by decide +kernel)) (by decide +kernel) ⟨rfl, rfl⟩ rfl hl.1 hcat1 hcs hW hS (by exact ⟨rfl, rfl, trivial⟩) (hq1) (fun r2 M2 w2 H locs hq2 hv2 hW hS => ?_)
  obtain ⟨⟨v, e1, e2⟩, hJ2⟩ := hq2
  subst e1
  subst e2
  obtain ⟨x, rfl, h1⟩ := rv_i hv1
  obtain ⟨y, rfl, h2⟩ := rv_i hv2
  obtain rfl : x = y := Int32.toInt_inj.mp (h1.trans h2.symm)
  exact lv_icmp_eq (tgt := 1383) hx hb dL_law_527 (by decide) (fun _ => kk M2 H locs hJ2 hW hS) (fun h => absurd rfl h)
theorem lw_c12 (C : lCx p s m c b L xs G) (hcs : cells ≤ 600000 ∧ slots ≤ 7302250) (hi : i + 6 ≤ L) (hJ : J M) (hW : am_W G M H) (hS : va_S (lA s) s.heap H locs) (hl : lv_has ls 4 (lLv G b i))
    (kk : ∀ (M1 : am_M) (H1 : Heap) (locs1 : List Loc), J M1 → am_W G M1 H1 → va_S (lA s) s.heap H1 locs1 → W p l e room_1 s m #[Value.ref b] below meth c H1 locs1 cells slots Q (F0 m 1383 ls [])) : W p l e room_1 s m #[Value.ref b] below meth c H locs cells slots Q (F0 m 532 ls []) := by
  have hx := C.1
  have hb := C.2.1
  refine lv_aload_n hx hb dL_law_532 rfl (lv_at hl 2 rfl) ?_
  refine lw_arg (pc := 533) C 1 (by decide) (by decide) hi hS hl dL_law_533 dL_law_534 dL_law_535 dL_law_536 dL_law_537 ?_
  refine lw_arg (pc := 538) C 2 (by decide) (by decide) hi hS hl dL_law_538 dL_law_539 dL_law_540 dL_law_541 dL_law_542 ?_
  refine lw_arg (pc := 543) C 3 (by decide) (by decide) hi hS hl dL_law_543 dL_law_544 dL_law_545 dL_law_546 dL_law_547 ?_
  refine lw_call (pc := 548) (rest := []) (C := RX11) C snd_11_easiest 0 3 [aI (xs (i + 1)).toInt, aI (xs (i + 2)).toInt, aI (xs (i + 3)).toInt] [.int (xs (i + 1)), .int (xs (i + 2)), .int (xs (i + 3))] (by decide) (ci := 11) rfl rfl dL_law_548 (in_g (i := 545) (by decide +kernel) (by decide +kernel)) (in_g (i := 546) (by decide +kernel) (by decide +kernel)) (in_g (i := 547) (by decide +kernel) (by decide +kernel)) (in_g (i := 65) (by decide +kernel) (by decide +kernel)) (in_g (i := 548) (by decide +kernel) (by decide +kernel)) (by decide +kernel) ⟨rfl, rfl⟩ rfl hl.1 (Nat.zero_le _) hcs hW hS (by exact ⟨rfl, rfl, rfl, trivial⟩) (lc_easiest hJ) (fun r1 M1 w1 H locs hq1 hv1 hW hS => ?_)
  have hcat1 : (([w1] : List Value).map fun v => v.category).sum ≤ 8 := by rw [List.map_cons, List.map_nil, List.sum_cons, List.sum_nil]; have := cat_le w1; omega
  refine lv_aload_n hx hb dL_law_551 rfl (lv_at hl 1 rfl) ?_
  refine lw_arg (pc := 552) C 1 (by decide) (by decide) hi hS hl dL_law_552 dL_law_553 dL_law_554 dL_law_555 dL_law_556 ?_
  refine lw_arg (pc := 557) C 2 (by decide) (by decide) hi hS hl dL_law_557 dL_law_558 dL_law_559 dL_law_560 dL_law_561 ?_
  refine lw_arg (pc := 562) C 3 (by decide) (by decide) hi hS hl dL_law_562 dL_law_563 dL_law_564 dL_law_565 dL_law_566 ?_
  refine lw_call (pc := 567) (rest := [w1]) (C := RX12) C snd_12_easiest 44 3 [aI (xs (i + 1)).toInt, aI (xs (i + 2)).toInt, aI (xs (i + 3)).toInt] [.int (xs (i + 1)), .int (xs (i + 2)), .int (xs (i + 3))] (by decide) (ci := 12) rfl rfl dL_law_567 (in_g (i := 1220) (by decide +kernel) (by decide +kernel)) (in_g (i := 1221) (by decide +kernel) (by decide +kernel)) (in_g (i := 1222) (by decide +kernel) (by decide +kernel)) (in_g (i := 78) (by decide +kernel) (by decide +kernel)) (in_g (i := 1223) (by decide +kernel) (by decide +kernel)) (by decide +kernel) ⟨rfl, rfl⟩ rfl hl.1 hcat1 hcs hW hS (by exact ⟨rfl, rfl, rfl, trivial⟩) (hq1) (fun r2 M2 w2 H locs hq2 hv2 hW hS => ?_)
  obtain ⟨⟨v, e1, e2⟩, hJ2⟩ := hq2
  subst e1
  subst e2
  obtain ⟨x, rfl, h1⟩ := rv_i hv1
  obtain ⟨y, rfl, h2⟩ := rv_i hv2
  obtain rfl : x = y := Int32.toInt_inj.mp (h1.trans h2.symm)
  exact lv_icmp_eq (tgt := 1383) hx hb dL_law_570 (by decide) (fun _ => kk M2 H locs hJ2 hW hS) (fun h => absurd rfl h)
theorem lw_c13 (C : lCx p s m c b L xs G) (hcs : cells ≤ 600000 ∧ slots ≤ 7302250) (hi : i + 6 ≤ L) (hJ : J M) (hW : am_W G M H) (hS : va_S (lA s) s.heap H locs) (hl : lv_has ls 4 (lLv G b i))
    (kk : ∀ (M1 : am_M) (H1 : Heap) (locs1 : List Loc), J M1 → am_W G M1 H1 → va_S (lA s) s.heap H1 locs1 → W p l e room_1 s m #[Value.ref b] below meth c H1 locs1 cells slots Q (F0 m 1383 ls [])) : W p l e room_1 s m #[Value.ref b] below meth c H locs cells slots Q (F0 m 575 ls []) := by
  have hx := C.1
  have hb := C.2.1
  refine lv_aload_n hx hb dL_law_575 rfl (lv_at hl 2 rfl) ?_
  refine lw_arg (pc := 576) C 1 (by decide) (by decide) hi hS hl dL_law_576 dL_law_577 dL_law_578 dL_law_579 dL_law_580 ?_
  refine lw_call (pc := 581) (rest := []) (C := RX11) C snd_11_order 0 1 [aI (xs (i + 1)).toInt] [.int (xs (i + 1))] (by decide) (ci := 11) rfl rfl dL_law_581 (in_g (i := 587) (by decide +kernel) (by decide +kernel)) (in_g (i := 588) (by decide +kernel) (by decide +kernel)) (in_g (i := 589) (by decide +kernel) (by decide +kernel)) (in_g (i := 65) (by decide +kernel) (by decide +kernel)) (in_g (i := 590) (by decide +kernel) (by decide +kernel)) (by decide +kernel) ⟨rfl, rfl⟩ rfl hl.1 (Nat.zero_le _) hcs hW hS (by exact ⟨rfl, trivial⟩) (lc_order hJ) (fun r1 M1 w1 H locs hq1 hv1 hW hS => ?_)
  have hcat1 : (([w1] : List Value).map fun v => v.category).sum ≤ 8 := by rw [List.map_cons, List.map_nil, List.sum_cons, List.sum_nil]; have := cat_le w1; omega
  refine lv_aload_n hx hb dL_law_584 rfl (lv_at hl 1 rfl) ?_
  refine lw_arg (pc := 585) C 1 (by decide) (by decide) hi hS hl dL_law_585 dL_law_586 dL_law_587 dL_law_588 dL_law_589 ?_
  refine lw_call (pc := 590) (rest := [w1]) (C := RX12) C snd_12_order 44 1 [aI (xs (i + 1)).toInt] [.int (xs (i + 1))] (by decide) (ci := 12) rfl rfl dL_law_590 (in_g (i := 1228) (by decide +kernel) (by decide +kernel)) (in_g (i := 1229) (by decide +kernel) (by decide +kernel)) (in_g (i := 1230) (by decide +kernel) (by decide +kernel)) (in_g (i := 78) (by decide +kernel) (by decide +kernel)) (in_g (i := 1231) (by decide +kernel) (by decide +kernel)) (by decide +kernel) ⟨rfl, rfl⟩ rfl hl.1 hcat1 hcs hW hS (by exact ⟨rfl, trivial⟩) (hq1) (fun r2 M2 w2 H locs hq2 hv2 hW hS => ?_)
  obtain ⟨⟨v, e1, e2⟩, hJ2⟩ := hq2
  subst e1
  subst e2
  obtain ⟨x, rfl, h1⟩ := rv_i hv1
  obtain ⟨y, rfl, h2⟩ := rv_i hv2
  obtain rfl : x = y := Int32.toInt_inj.mp (h1.trans h2.symm)
  exact lv_icmp_eq (tgt := 1383) hx hb dL_law_593 (by decide) (fun _ => kk M2 H locs hJ2 hW hS) (fun h => absurd rfl h)
theorem lw_c14 (C : lCx p s m c b L xs G) (hcs : cells ≤ 600000 ∧ slots ≤ 7302250) (hi : i + 6 ≤ L) (hJ : J M) (hW : am_W G M H) (hS : va_S (lA s) s.heap H locs) (hl : lv_has ls 4 (lLv G b i))
    (kk : ∀ (M1 : am_M) (H1 : Heap) (locs1 : List Loc), J M1 → am_W G M1 H1 → va_S (lA s) s.heap H1 locs1 → W p l e room_1 s m #[Value.ref b] below meth c H1 locs1 cells slots Q (F0 m 1383 ls [])) : W p l e room_1 s m #[Value.ref b] below meth c H locs cells slots Q (F0 m 598 ls []) := by
  have hx := C.1
  have hb := C.2.1
  refine lv_aload_n hx hb dL_law_598 rfl (lv_at hl 2 rfl) ?_
  refine lw_call (pc := 599) (rest := []) (C := RX11) C snd_11_loose 0 0 [] [] (by decide) (ci := 11) rfl rfl dL_law_599 (in_g (i := 595) (by decide +kernel) (by decide +kernel)) (in_g (i := 596) (by decide +kernel) (by decide +kernel)) (in_g (i := 597) (by decide +kernel) (by decide +kernel)) (in_g (i := 65) (by decide +kernel) (by decide +kernel)) (in_g (i := 598) (by decide +kernel) (by decide +kernel)) (by decide +kernel) ⟨rfl, rfl⟩ rfl hl.1 (Nat.zero_le _) hcs hW hS (by exact trivial) (lc_loose hJ) (fun r1 M1 w1 H locs hq1 hv1 hW hS => ?_)
  have hcat1 : (([w1] : List Value).map fun v => v.category).sum ≤ 8 := by rw [List.map_cons, List.map_nil, List.sum_cons, List.sum_nil]; have := cat_le w1; omega
  refine lv_aload_n hx hb dL_law_602 rfl (lv_at hl 1 rfl) ?_
  refine lw_call (pc := 603) (rest := [w1]) (C := RX12) C snd_12_loose 44 0 [] [] (by decide) (ci := 12) rfl rfl dL_law_603 (in_g (i := 1236) (by decide +kernel) (by decide +kernel)) (in_g (i := 1237) (by decide +kernel) (by decide +kernel)) (in_g (i := 1238) (by decide +kernel) (by decide +kernel)) (in_g (i := 78) (by decide +kernel) (by decide +kernel)) (in_g (i := 1239) (by decide +kernel) (by decide +kernel)) (by decide +kernel) ⟨rfl, rfl⟩ rfl hl.1 hcat1 hcs hW hS (by exact trivial) (hq1) (fun r2 M2 w2 H locs hq2 hv2 hW hS => ?_)
  obtain ⟨⟨v, e1, e2⟩, hJ2⟩ := hq2
  subst e1
  subst e2
  obtain ⟨x, rfl, h1⟩ := rv_i hv1
  obtain ⟨y, rfl, h2⟩ := rv_i hv2
  obtain rfl : x = y := Int32.toInt_inj.mp (h1.trans h2.symm)
  exact lv_icmp_eq (tgt := 1383) hx hb dL_law_606 (by decide) (fun _ => kk M2 H locs hJ2 hW hS) (fun h => absurd rfl h)
theorem lw_c15 (C : lCx p s m c b L xs G) (hcs : cells ≤ 600000 ∧ slots ≤ 7302250) (hi : i + 6 ≤ L) (hJ : J M) (hW : am_W G M H) (hS : va_S (lA s) s.heap H locs) (hl : lv_has ls 4 (lLv G b i))
    (kk : ∀ (M1 : am_M) (H1 : Heap) (locs1 : List Loc), J M1 → am_W G M1 H1 → va_S (lA s) s.heap H1 locs1 → W p l e room_1 s m #[Value.ref b] below meth c H1 locs1 cells slots Q (F0 m 1383 ls [])) : W p l e room_1 s m #[Value.ref b] below meth c H locs cells slots Q (F0 m 611 ls []) := by
  have hx := C.1
  have hb := C.2.1
  refine lv_aload_n hx hb dL_law_611 rfl (lv_at hl 2 rfl) ?_
  refine lw_call (pc := 612) (rest := []) (C := RX11) C snd_11_risk 0 0 [] [] (by decide) (ci := 11) rfl rfl dL_law_612 (in_g (i := 616) (by decide +kernel) (by decide +kernel)) (in_g (i := 617) (by decide +kernel) (by decide +kernel)) (in_g (i := 618) (by decide +kernel) (by decide +kernel)) (in_g (i := 65) (by decide +kernel) (by decide +kernel)) (in_g (i := 619) (by decide +kernel) (by decide +kernel)) (by decide +kernel) ⟨rfl, rfl⟩ rfl hl.1 (Nat.zero_le _) hcs hW hS (by exact trivial) (lc_risk hJ) (fun r1 M1 w1 H locs hq1 hv1 hW hS => ?_)
  have hcat1 : (([w1] : List Value).map fun v => v.category).sum ≤ 8 := by rw [List.map_cons, List.map_nil, List.sum_cons, List.sum_nil]; have := cat_le w1; omega
  refine lv_aload_n hx hb dL_law_615 rfl (lv_at hl 1 rfl) ?_
  refine lw_call (pc := 616) (rest := [w1]) (C := RX12) C snd_12_risk 44 0 [] [] (by decide) (ci := 12) rfl rfl dL_law_616 (in_g (i := 1248) (by decide +kernel) (by decide +kernel)) (in_g (i := 1249) (by decide +kernel) (by decide +kernel)) (in_g (i := 1250) (by decide +kernel) (by decide +kernel)) (in_g (i := 78) (by decide +kernel) (by decide +kernel)) (in_g (i := 1251) (by decide +kernel) (by decide +kernel)) (by decide +kernel) ⟨rfl, rfl⟩ rfl hl.1 hcat1 hcs hW hS (by exact trivial) (hq1) (fun r2 M2 w2 H locs hq2 hv2 hW hS => ?_)
  obtain ⟨⟨v, e1, e2⟩, hJ2⟩ := hq2
  subst e1
  subst e2
  obtain ⟨x, rfl, h1⟩ := rv_i hv1
  obtain ⟨y, rfl, h2⟩ := rv_i hv2
  obtain rfl : x = y := Int32.toInt_inj.mp (h1.trans h2.symm)
  exact lv_icmp_eq (tgt := 1383) hx hb dL_law_619 (by decide) (fun _ => kk M2 H locs hJ2 hW hS) (fun h => absurd rfl h)
theorem lw_c16 (C : lCx p s m c b L xs G) (hcs : cells ≤ 600000 ∧ slots ≤ 7302250) (hi : i + 6 ≤ L) (hJ : J M) (hW : am_W G M H) (hS : va_S (lA s) s.heap H locs) (hl : lv_has ls 4 (lLv G b i))
    (kk : ∀ (M1 : am_M) (H1 : Heap) (locs1 : List Loc), J M1 → am_W G M1 H1 → va_S (lA s) s.heap H1 locs1 → W p l e room_1 s m #[Value.ref b] below meth c H1 locs1 cells slots Q (F0 m 1383 ls [])) : W p l e room_1 s m #[Value.ref b] below meth c H locs cells slots Q (F0 m 624 ls []) := by
  have hx := C.1
  have hb := C.2.1
  refine lv_aload_n hx hb dL_law_624 rfl (lv_at hl 2 rfl) ?_
  refine lw_arg (pc := 625) C 1 (by decide) (by decide) hi hS hl dL_law_625 dL_law_626 dL_law_627 dL_law_628 dL_law_629 ?_
  refine lw_arg (pc := 630) C 2 (by decide) (by decide) hi hS hl dL_law_630 dL_law_631 dL_law_632 dL_law_633 dL_law_634 ?_
  refine lw_call (pc := 635) (rest := []) (C := RX11) C snd_11_best 0 2 [aI (xs (i + 1)).toInt, aI (xs (i + 2)).toInt] [.int (xs (i + 1)), .int (xs (i + 2))] (by decide) (ci := 11) rfl rfl dL_law_635 (in_g (i := 624) (by decide +kernel) (by decide +kernel)) (in_g (i := 625) (by decide +kernel) (by decide +kernel)) (in_g (i := 626) (by decide +kernel) (by decide +kernel)) (in_g (i := 65) (by decide +kernel) (by decide +kernel)) (in_g (i := 627) (by decide +kernel) (by decide +kernel)) (by decide +kernel) ⟨rfl, rfl⟩ rfl hl.1 (Nat.zero_le _) hcs hW hS (by exact ⟨rfl, rfl, trivial⟩) (lc_best hJ) (fun r1 M1 w1 H locs hq1 hv1 hW hS => ?_)
  have hcat1 : (([w1] : List Value).map fun v => v.category).sum ≤ 8 := by rw [List.map_cons, List.map_nil, List.sum_cons, List.sum_nil]; have := cat_le w1; omega
  refine lv_aload_n hx hb dL_law_638 rfl (lv_at hl 1 rfl) ?_
  refine lw_arg (pc := 639) C 1 (by decide) (by decide) hi hS hl dL_law_639 dL_law_640 dL_law_641 dL_law_642 dL_law_643 ?_
  refine lw_arg (pc := 644) C 2 (by decide) (by decide) hi hS hl dL_law_644 dL_law_645 dL_law_646 dL_law_647 dL_law_648 ?_
  refine lw_call (pc := 649) (rest := [w1]) (C := RX12) C snd_12_best 44 2 [aI (xs (i + 1)).toInt, aI (xs (i + 2)).toInt] [.int (xs (i + 1)), .int (xs (i + 2))] (by decide) (ci := 12) rfl rfl dL_law_649 (in_g (i := 1256) (by decide +kernel) (by decide +kernel)) (in_g (i := 1257) (by decide +kernel) (by decide +kernel)) (in_g (i := 1258) (by decide +kernel) (by decide +kernel)) (in_g (i := 78) (by decide +kernel) (by decide +kernel)) (in_g (i := 1259) (by decide +kernel) (by decide +kernel)) (by decide +kernel) ⟨rfl, rfl⟩ rfl hl.1 hcat1 hcs hW hS (by exact ⟨rfl, rfl, trivial⟩) (hq1) (fun r2 M2 w2 H locs hq2 hv2 hW hS => ?_)
  obtain ⟨⟨v, e1, e2⟩, hJ2⟩ := hq2
  subst e1
  subst e2
  obtain ⟨x, rfl, h1⟩ := rv_i hv1
  obtain ⟨y, rfl, h2⟩ := rv_i hv2
  obtain rfl : x = y := Int32.toInt_inj.mp (h1.trans h2.symm)
  exact lv_icmp_eq (tgt := 1383) hx hb dL_law_652 (by decide) (fun _ => kk M2 H locs hJ2 hW hS) (fun h => absurd rfl h)
theorem lw_c17 (C : lCx p s m c b L xs G) (hcs : cells ≤ 600000 ∧ slots ≤ 7302250) (hi : i + 6 ≤ L) (hJ : J M) (hW : am_W G M H) (hS : va_S (lA s) s.heap H locs) (hl : lv_has ls 4 (lLv G b i))
    (kk : ∀ (M1 : am_M) (H1 : Heap) (locs1 : List Loc), J M1 → am_W G M1 H1 → va_S (lA s) s.heap H1 locs1 → W p l e room_1 s m #[Value.ref b] below meth c H1 locs1 cells slots Q (F0 m 1383 ls [])) : W p l e room_1 s m #[Value.ref b] below meth c H locs cells slots Q (F0 m 657 ls []) := by
  have hx := C.1
  have hb := C.2.1
  refine lv_aload_n hx hb dL_law_657 rfl (lv_at hl 2 rfl) ?_
  refine lw_arg (pc := 658) C 1 (by decide) (by decide) hi hS hl dL_law_658 dL_law_659 dL_law_660 dL_law_661 dL_law_662 ?_
  refine lw_arg (pc := 663) C 2 (by decide) (by decide) hi hS hl dL_law_663 dL_law_664 dL_law_665 dL_law_666 dL_law_667 ?_
  refine lw_arg (pc := 668) C 3 (by decide) (by decide) hi hS hl dL_law_668 dL_law_669 dL_law_670 dL_law_671 dL_law_672 ?_
  refine lw_arg (pc := 673) C 4 (by decide) (by decide) hi hS hl dL_law_673 dL_law_674 dL_law_675 dL_law_676 dL_law_677 ?_
  refine lw_call (pc := 678) (rest := []) (C := RX11) C snd_11_holds 0 4 [aI (xs (i + 1)).toInt, aI (xs (i + 2)).toInt, aI (xs (i + 3)).toInt, aI (xs (i + 4)).toInt] [.int (xs (i + 1)), .int (xs (i + 2)), .int (xs (i + 3)), .int (xs (i + 4))] (by decide) (ci := 11) rfl rfl dL_law_678 (in_g (i := 665) (by decide +kernel) (by decide +kernel)) (in_g (i := 666) (by decide +kernel) (by decide +kernel)) (in_g (i := 667) (by decide +kernel) (by decide +kernel)) (in_g (i := 65) (by decide +kernel) (by decide +kernel)) (in_g (i := 668) (by decide +kernel) (by decide +kernel)) (by decide +kernel) ⟨rfl, rfl⟩ rfl hl.1 (Nat.zero_le _) hcs hW hS (by exact ⟨rfl, rfl, rfl, rfl, trivial⟩) (lc_holds hJ (i32_r _) (i32_r _)) (fun r1 M1 w1 H locs hq1 hv1 hW hS => ?_)
  have hcat1 : (([w1] : List Value).map fun v => v.category).sum ≤ 8 := by rw [List.map_cons, List.map_nil, List.sum_cons, List.sum_nil]; have := cat_le w1; omega
  refine lv_aload_n hx hb dL_law_681 rfl (lv_at hl 1 rfl) ?_
  refine lw_arg (pc := 682) C 1 (by decide) (by decide) hi hS hl dL_law_682 dL_law_683 dL_law_684 dL_law_685 dL_law_686 ?_
  refine lw_arg (pc := 687) C 2 (by decide) (by decide) hi hS hl dL_law_687 dL_law_688 dL_law_689 dL_law_690 dL_law_691 ?_
  refine lw_arg (pc := 692) C 3 (by decide) (by decide) hi hS hl dL_law_692 dL_law_693 dL_law_694 dL_law_695 dL_law_696 ?_
  refine lw_arg (pc := 697) C 4 (by decide) (by decide) hi hS hl dL_law_697 dL_law_698 dL_law_699 dL_law_700 dL_law_701 ?_
  refine lw_call (pc := 702) (rest := [w1]) (C := RX12) C snd_12_holds 44 4 [aI (xs (i + 1)).toInt, aI (xs (i + 2)).toInt, aI (xs (i + 3)).toInt, aI (xs (i + 4)).toInt] [.int (xs (i + 1)), .int (xs (i + 2)), .int (xs (i + 3)), .int (xs (i + 4))] (by decide) (ci := 12) rfl rfl dL_law_702 (in_g (i := 1269) (by decide +kernel) (by decide +kernel)) (in_g (i := 1270) (by decide +kernel) (by decide +kernel)) (in_g (i := 1271) (by decide +kernel) (by decide +kernel)) (in_g (i := 78) (by decide +kernel) (by decide +kernel)) (in_g (i := 1272) (by decide +kernel) (by decide +kernel)) (by decide +kernel) ⟨rfl, rfl⟩ rfl hl.1 hcat1 hcs hW hS (by exact ⟨rfl, rfl, rfl, rfl, trivial⟩) (hq1) (fun r2 M2 w2 H locs hq2 hv2 hW hS => ?_)
  obtain ⟨⟨v, e1, e2⟩, hJ2⟩ := hq2
  subst e1
  subst e2
  obtain ⟨x, rfl, h1⟩ := rv_l hv1
  obtain ⟨y, rfl, h2⟩ := rv_l hv2
  obtain rfl : x = y := Int64.toInt_inj.mp (h1.trans h2.symm)
  refine W.lcmp hx hb dL_law_705 ?_
  exact lv_if_eq (tgt := 1383) hx hb dL_law_706 (by decide) (fun _ => kk M2 H locs hJ2 hW hS) (fun h => absurd (cmp_self x) h)
theorem lw_c18 (C : lCx p s m c b L xs G) (hcs : cells ≤ 600000 ∧ slots ≤ 7302250) (hi : i + 6 ≤ L) (hJ : J M) (hW : am_W G M H) (hS : va_S (lA s) s.heap H locs) (hl : lv_has ls 4 (lLv G b i))
    (kk : ∀ (M1 : am_M) (H1 : Heap) (locs1 : List Loc), J M1 → am_W G M1 H1 → va_S (lA s) s.heap H1 locs1 → W p l e room_1 s m #[Value.ref b] below meth c H1 locs1 cells slots Q (F0 m 1383 ls [])) : W p l e room_1 s m #[Value.ref b] below meth c H locs cells slots Q (F0 m 711 ls []) := by
  have hx := C.1
  have hb := C.2.1
  refine lv_aload_n hx hb dL_law_711 rfl (lv_at hl 2 rfl) ?_
  refine lw_arg (pc := 712) C 1 (by decide) (by decide) hi hS hl dL_law_712 dL_law_713 dL_law_714 dL_law_715 dL_law_716 ?_
  refine lw_call (pc := 717) (rest := []) (C := RX11) C snd_11_alike 0 1 [aI (xs (i + 1)).toInt] [.int (xs (i + 1))] (by decide) (ci := 11) rfl rfl dL_law_717 (in_g (i := 682) (by decide +kernel) (by decide +kernel)) (in_g (i := 683) (by decide +kernel) (by decide +kernel)) (in_g (i := 684) (by decide +kernel) (by decide +kernel)) (in_g (i := 65) (by decide +kernel) (by decide +kernel)) (in_g (i := 685) (by decide +kernel) (by decide +kernel)) (by decide +kernel) ⟨rfl, rfl⟩ rfl hl.1 (Nat.zero_le _) hcs hW hS (by exact ⟨rfl, trivial⟩) (lc_alike hJ) (fun r1 M1 w1 H locs hq1 hv1 hW hS => ?_)
  have hcat1 : (([w1] : List Value).map fun v => v.category).sum ≤ 8 := by rw [List.map_cons, List.map_nil, List.sum_cons, List.sum_nil]; have := cat_le w1; omega
  refine lv_aload_n hx hb dL_law_720 rfl (lv_at hl 1 rfl) ?_
  refine lw_arg (pc := 721) C 1 (by decide) (by decide) hi hS hl dL_law_721 dL_law_722 dL_law_723 dL_law_724 dL_law_725 ?_
  refine lw_call (pc := 726) (rest := [w1]) (C := RX12) C snd_12_alike 44 1 [aI (xs (i + 1)).toInt] [.int (xs (i + 1))] (by decide) (ci := 12) rfl rfl dL_law_726 (in_g (i := 1286) (by decide +kernel) (by decide +kernel)) (in_g (i := 1287) (by decide +kernel) (by decide +kernel)) (in_g (i := 1288) (by decide +kernel) (by decide +kernel)) (in_g (i := 78) (by decide +kernel) (by decide +kernel)) (in_g (i := 1289) (by decide +kernel) (by decide +kernel)) (by decide +kernel) ⟨rfl, rfl⟩ rfl hl.1 hcat1 hcs hW hS (by exact ⟨rfl, trivial⟩) (hq1) (fun r2 M2 w2 H locs hq2 hv2 hW hS => ?_)
  obtain ⟨⟨v, e1, e2⟩, hJ2⟩ := hq2
  subst e1
  subst e2
  obtain ⟨x, rfl, h1⟩ := rv_l hv1
  obtain ⟨y, rfl, h2⟩ := rv_l hv2
  obtain rfl : x = y := Int64.toInt_inj.mp (h1.trans h2.symm)
  refine W.lcmp hx hb dL_law_729 ?_
  exact lv_if_eq (tgt := 1383) hx hb dL_law_730 (by decide) (fun _ => kk M2 H locs hJ2 hW hS) (fun h => absurd (cmp_self x) h)
theorem lw_c19 (C : lCx p s m c b L xs G) (hcs : cells ≤ 600000 ∧ slots ≤ 7302250) (hi : i + 6 ≤ L) (hJ : J M) (hW : am_W G M H) (hS : va_S (lA s) s.heap H locs) (hl : lv_has ls 4 (lLv G b i))
    (kk : ∀ (M1 : am_M) (H1 : Heap) (locs1 : List Loc), J M1 → am_W G M1 H1 → va_S (lA s) s.heap H1 locs1 → W p l e room_1 s m #[Value.ref b] below meth c H1 locs1 cells slots Q (F0 m 1383 ls [])) : W p l e room_1 s m #[Value.ref b] below meth c H locs cells slots Q (F0 m 735 ls []) := by
  have hx := C.1
  have hb := C.2.1
  refine lv_aload_n hx hb dL_law_735 rfl (lv_at hl 2 rfl) ?_
  refine lw_arg (pc := 736) C 1 (by decide) (by decide) hi hS hl dL_law_736 dL_law_737 dL_law_738 dL_law_739 dL_law_740 ?_
  refine lw_arg (pc := 741) C 2 (by decide) (by decide) hi hS hl dL_law_741 dL_law_742 dL_law_743 dL_law_744 dL_law_745 ?_
  refine lw_call (pc := 746) (rest := []) (C := RX11) C snd_11_torn 0 2 [aI (xs (i + 1)).toInt, aI (xs (i + 2)).toInt] [.int (xs (i + 1)), .int (xs (i + 2))] (by decide) (ci := 11) rfl rfl dL_law_746 (in_g (i := 691) (by decide +kernel) (by decide +kernel)) (in_g (i := 692) (by decide +kernel) (by decide +kernel)) (in_g (i := 693) (by decide +kernel) (by decide +kernel)) (in_g (i := 65) (by decide +kernel) (by decide +kernel)) (in_g (i := 694) (by decide +kernel) (by decide +kernel)) (by decide +kernel) ⟨rfl, rfl⟩ rfl hl.1 (Nat.zero_le _) hcs hW hS (by exact ⟨rfl, rfl, trivial⟩) (lc_torn hJ) (fun r1 M1 w1 H locs hq1 hv1 hW hS => ?_)
  have hcat1 : (([w1] : List Value).map fun v => v.category).sum ≤ 8 := by rw [List.map_cons, List.map_nil, List.sum_cons, List.sum_nil]; have := cat_le w1; omega
  refine lv_aload_n hx hb dL_law_749 rfl (lv_at hl 1 rfl) ?_
  refine lw_arg (pc := 750) C 1 (by decide) (by decide) hi hS hl dL_law_750 dL_law_751 dL_law_752 dL_law_753 dL_law_754 ?_
  refine lw_arg (pc := 755) C 2 (by decide) (by decide) hi hS hl dL_law_755 dL_law_756 dL_law_757 dL_law_758 dL_law_759 ?_
  refine lw_call (pc := 760) (rest := [w1]) (C := RX12) C snd_12_torn 44 2 [aI (xs (i + 1)).toInt, aI (xs (i + 2)).toInt] [.int (xs (i + 1)), .int (xs (i + 2))] (by decide) (ci := 12) rfl rfl dL_law_760 (in_g (i := 1294) (by decide +kernel) (by decide +kernel)) (in_g (i := 1295) (by decide +kernel) (by decide +kernel)) (in_g (i := 1296) (by decide +kernel) (by decide +kernel)) (in_g (i := 78) (by decide +kernel) (by decide +kernel)) (in_g (i := 1297) (by decide +kernel) (by decide +kernel)) (by decide +kernel) ⟨rfl, rfl⟩ rfl hl.1 hcat1 hcs hW hS (by exact ⟨rfl, rfl, trivial⟩) (hq1) (fun r2 M2 w2 H locs hq2 hv2 hW hS => ?_)
  obtain ⟨⟨v, e1, e2⟩, hJ2⟩ := hq2
  subst e1
  subst e2
  obtain ⟨x, rfl, h1⟩ := rv_i hv1
  obtain ⟨y, rfl, h2⟩ := rv_i hv2
  obtain rfl : x = y := Int32.toInt_inj.mp (h1.trans h2.symm)
  exact lv_icmp_eq (tgt := 1383) hx hb dL_law_763 (by decide) (fun _ => kk M2 H locs hJ2 hW hS) (fun h => absurd rfl h)
end LAWC2
