set_option maxHeartbeats 4000000 in
set_option maxRecDepth 100000 in
theorem lc_known {p : Program} {l : Launch} {e : Env} {s : State} {m : MethodId} {below : List Frame} {meth : Method} {c : Code} {b L : Nat} {xs : Nat → Int32} {D : va_G} {cs : ClassId × ClassId × ClassId × ClassId} {aC aR : Nat → Nat} {Q : State → Prop} (E : LE p s m meth c b L xs D cs aC aR) {x3 : Int32} {σC σR : ft_St} {H : Heap} {locs : List Loc} {ls : Array Slot} (hsim : SIM σC σR) (hw : LW s D cs aC aR σC σR H locs) (h1 : vp_in (x3 + 1) L) (h2 : vp_in (x3 + 2) L) (h3 : vp_in (x3 + 3) L) (hl : lv_has ls 4 [(3, .int x3), (2, .ref (aR 0)), (1, .ref (aC 0)), (0, .ref b)]) (kk : ∀ (σC σR : ft_St) (H : Heap) (locs : List Loc), SIM σC σR → LW s D cs aC aR σC σR H locs → W p l e room_1 s m #[Value.ref b] below meth c H locs 96 5813 Q (F0 m 680 ls [])) : W p l e room_1 s m #[Value.ref b] below meth c H locs 96 5813 Q (F0 m 364 ls []) := by
  obtain ⟨hx, hb, hr, hml, hown, hts, hX, hbl, hlocks, hK, hN, hIC, hIR, hC, hR, hne⟩ := E
  obtain ⟨hPC, hPR, hS⟩ := hw
  have hbA : ¬ (fun q : Nat => s.heap.size ≤ q) b := Nat.not_le.mpr hbl
  refine lv_aload_n hx hb dL_law_364 rfl (lv_at hl 2 rfl) ?_
  refine lv_aload_n hx hb dL_law_365 rfl (lv_at hl 3 rfl) ?_
  refine lv_iload_n hx hb dL_law_366 rfl (lv_at hl 0 rfl) ?_
  refine lv_iconst (v := 1) hx hb dL_law_367 (by decide) ?_
  refine lv_iadd hx hb dL_law_368 ?_
  refine va_sld hx hb hX hbl hbA hS h1 dL_law_369 ?_
  refine cC_Gi (Γ := (D, cs, aC)) (As := [.int (xs (x3 + 1).toNatClampNeg)]) (rest := []) ⟨hx, hb, hml, hown, hts⟩ (c_X9_known l (D, cs, aC) hIC _ σC _ (s_known hsim)) (cwV 1 hts gL_law_X9_known rfl rfl rfl (by decide +kernel) ⟨Nat.le_of_ble_eq_true rfl, Nat.le_of_ble_eq_true rfl⟩) hK hN hPC hS hC rfl hl.1 rfl (Nat.le_of_ble_eq_true rfl) dL_law_370 ⟨Nat.le_of_ble_eq_true rfl, Nat.le_of_ble_eq_true rfl⟩ (fun r σC H locs hw hPC hk hS => ?_)
  have hPR := ft_keep hPR hk (fun i j hi hj e => hne j i hj hi e.symm)
  refine lv_aload_n hx hb dL_law_373 rfl (lv_at hl 1 rfl) ?_
  refine lv_aload_n hx hb dL_law_374 rfl (lv_at hl 3 rfl) ?_
  refine lv_iload_n hx hb dL_law_375 rfl (lv_at hl 0 rfl) ?_
  refine lv_iconst (v := 1) hx hb dL_law_376 (by decide) ?_
  refine lv_iadd hx hb dL_law_377 ?_
  refine va_sld hx hb hX hbl hbA hS h1 dL_law_378 ?_
  refine cR_Gi (Γ := (D, cs, aR)) (As := [.int (xs (x3 + 1).toNatClampNeg)]) (rest := [.int r]) ⟨hx, hb, hml, hown, hts⟩ (c_X10_known l (D, cs, aR) hIR _ σR _ hw) (cwV 1 hts gL_law_X10_known rfl rfl rfl (by decide +kernel) ⟨Nat.le_of_ble_eq_true rfl, Nat.le_of_ble_eq_true rfl⟩) hK hPR hS hR rfl hl.1 rfl (Nat.le_of_ble_eq_true rfl) dL_law_379 ⟨Nat.le_of_ble_eq_true rfl, Nat.le_of_ble_eq_true rfl⟩ (fun r2 σR H locs hw hPR hk hS => ?_)
  have hPC := ft_keep hPC hk hne
  exact lv_icmp_eq (tgt := 680) hx hb dL_law_382 (by decide) (fun _ => kk _ _ _ _ hw.2 ⟨hPC, hPR, hS⟩) (fun h => absurd hw.1 h)
set_option maxHeartbeats 4000000 in
set_option maxRecDepth 100000 in
theorem lc_would {p : Program} {l : Launch} {e : Env} {s : State} {m : MethodId} {below : List Frame} {meth : Method} {c : Code} {b L : Nat} {xs : Nat → Int32} {D : va_G} {cs : ClassId × ClassId × ClassId × ClassId} {aC aR : Nat → Nat} {Q : State → Prop} (E : LE p s m meth c b L xs D cs aC aR) {x3 : Int32} {σC σR : ft_St} {H : Heap} {locs : List Loc} {ls : Array Slot} (hsim : SIM σC σR) (hw : LW s D cs aC aR σC σR H locs) (h1 : vp_in (x3 + 1) L) (h2 : vp_in (x3 + 2) L) (h3 : vp_in (x3 + 3) L) (hl : lv_has ls 4 [(3, .int x3), (2, .ref (aR 0)), (1, .ref (aC 0)), (0, .ref b)]) (kk : ∀ (σC σR : ft_St) (H : Heap) (locs : List Loc), SIM σC σR → LW s D cs aC aR σC σR H locs → W p l e room_1 s m #[Value.ref b] below meth c H locs 96 5813 Q (F0 m 680 ls [])) : W p l e room_1 s m #[Value.ref b] below meth c H locs 96 5813 Q (F0 m 387 ls []) := by
  obtain ⟨hx, hb, hr, hml, hown, hts, hX, hbl, hlocks, hK, hN, hIC, hIR, hC, hR, hne⟩ := E
  obtain ⟨hPC, hPR, hS⟩ := hw
  have hbA : ¬ (fun q : Nat => s.heap.size ≤ q) b := Nat.not_le.mpr hbl
  refine lv_aload_n hx hb dL_law_387 rfl (lv_at hl 2 rfl) ?_
  refine lv_aload_n hx hb dL_law_388 rfl (lv_at hl 3 rfl) ?_
  refine lv_iload_n hx hb dL_law_389 rfl (lv_at hl 0 rfl) ?_
  refine lv_iconst (v := 1) hx hb dL_law_390 (by decide) ?_
  refine lv_iadd hx hb dL_law_391 ?_
  refine va_sld hx hb hX hbl hbA hS h1 dL_law_392 ?_
  refine cC_Gi (Γ := (D, cs, aC)) (As := [.int (xs (x3 + 1).toNatClampNeg)]) (rest := []) ⟨hx, hb, hml, hown, hts⟩ (c_X9_would l (D, cs, aC) hIC _ σC _ (s_would hsim)) (cwV 1 hts gL_law_X9_would rfl rfl rfl (by decide +kernel) ⟨Nat.le_of_ble_eq_true rfl, Nat.le_of_ble_eq_true rfl⟩) hK hN hPC hS hC rfl hl.1 rfl (Nat.le_of_ble_eq_true rfl) dL_law_393 ⟨Nat.le_of_ble_eq_true rfl, Nat.le_of_ble_eq_true rfl⟩ (fun r σC H locs hw hPC hk hS => ?_)
  have hPR := ft_keep hPR hk (fun i j hi hj e => hne j i hj hi e.symm)
  refine lv_aload_n hx hb dL_law_396 rfl (lv_at hl 1 rfl) ?_
  refine lv_aload_n hx hb dL_law_397 rfl (lv_at hl 3 rfl) ?_
  refine lv_iload_n hx hb dL_law_398 rfl (lv_at hl 0 rfl) ?_
  refine lv_iconst (v := 1) hx hb dL_law_399 (by decide) ?_
  refine lv_iadd hx hb dL_law_400 ?_
  refine va_sld hx hb hX hbl hbA hS h1 dL_law_401 ?_
  refine cR_Gi (Γ := (D, cs, aR)) (As := [.int (xs (x3 + 1).toNatClampNeg)]) (rest := [.int r]) ⟨hx, hb, hml, hown, hts⟩ (c_X10_would l (D, cs, aR) hIR _ σR _ hw) (cwV 1 hts gL_law_X10_would rfl rfl rfl (by decide +kernel) ⟨Nat.le_of_ble_eq_true rfl, Nat.le_of_ble_eq_true rfl⟩) hK hPR hS hR rfl hl.1 rfl (Nat.le_of_ble_eq_true rfl) dL_law_402 ⟨Nat.le_of_ble_eq_true rfl, Nat.le_of_ble_eq_true rfl⟩ (fun r2 σR H locs hw hPR hk hS => ?_)
  have hPC := ft_keep hPC hk hne
  exact lv_icmp_eq (tgt := 680) hx hb dL_law_405 (by decide) (fun _ => kk _ _ _ _ hw.2 ⟨hPC, hPR, hS⟩) (fun h => absurd hw.1 h)
set_option maxHeartbeats 4000000 in
set_option maxRecDepth 100000 in
theorem lc_sight {p : Program} {l : Launch} {e : Env} {s : State} {m : MethodId} {below : List Frame} {meth : Method} {c : Code} {b L : Nat} {xs : Nat → Int32} {D : va_G} {cs : ClassId × ClassId × ClassId × ClassId} {aC aR : Nat → Nat} {Q : State → Prop} (E : LE p s m meth c b L xs D cs aC aR) {x3 : Int32} {σC σR : ft_St} {H : Heap} {locs : List Loc} {ls : Array Slot} (hsim : SIM σC σR) (hw : LW s D cs aC aR σC σR H locs) (h1 : vp_in (x3 + 1) L) (h2 : vp_in (x3 + 2) L) (h3 : vp_in (x3 + 3) L) (hl : lv_has ls 4 [(3, .int x3), (2, .ref (aR 0)), (1, .ref (aC 0)), (0, .ref b)]) (kk : ∀ (σC σR : ft_St) (H : Heap) (locs : List Loc), SIM σC σR → LW s D cs aC aR σC σR H locs → W p l e room_1 s m #[Value.ref b] below meth c H locs 96 5813 Q (F0 m 680 ls [])) : W p l e room_1 s m #[Value.ref b] below meth c H locs 96 5813 Q (F0 m 410 ls []) := by
  obtain ⟨hx, hb, hr, hml, hown, hts, hX, hbl, hlocks, hK, hN, hIC, hIR, hC, hR, hne⟩ := E
  obtain ⟨hPC, hPR, hS⟩ := hw
  have hbA : ¬ (fun q : Nat => s.heap.size ≤ q) b := Nat.not_le.mpr hbl
  refine lv_aload_n hx hb dL_law_410 rfl (lv_at hl 2 rfl) ?_
  refine lv_aload_n hx hb dL_law_411 rfl (lv_at hl 3 rfl) ?_
  refine lv_iload_n hx hb dL_law_412 rfl (lv_at hl 0 rfl) ?_
  refine lv_iconst (v := 1) hx hb dL_law_413 (by decide) ?_
  refine lv_iadd hx hb dL_law_414 ?_
  refine va_sld hx hb hX hbl hbA hS h1 dL_law_415 ?_
  refine cC_Gi (Γ := (D, cs, aC)) (As := [.int (xs (x3 + 1).toNatClampNeg)]) (rest := []) ⟨hx, hb, hml, hown, hts⟩ (c_X9_sight l (D, cs, aC) hIC _ σC _ (s_sight hsim)) (cwV 1 hts gL_law_X9_sight rfl rfl rfl (by decide +kernel) ⟨Nat.le_of_ble_eq_true rfl, Nat.le_of_ble_eq_true rfl⟩) hK hN hPC hS hC rfl hl.1 rfl (Nat.le_of_ble_eq_true rfl) dL_law_416 ⟨Nat.le_of_ble_eq_true rfl, Nat.le_of_ble_eq_true rfl⟩ (fun r σC H locs hw hPC hk hS => ?_)
  have hPR := ft_keep hPR hk (fun i j hi hj e => hne j i hj hi e.symm)
  refine lv_aload_n hx hb dL_law_419 rfl (lv_at hl 1 rfl) ?_
  refine lv_aload_n hx hb dL_law_420 rfl (lv_at hl 3 rfl) ?_
  refine lv_iload_n hx hb dL_law_421 rfl (lv_at hl 0 rfl) ?_
  refine lv_iconst (v := 1) hx hb dL_law_422 (by decide) ?_
  refine lv_iadd hx hb dL_law_423 ?_
  refine va_sld hx hb hX hbl hbA hS h1 dL_law_424 ?_
  refine cR_Gi (Γ := (D, cs, aR)) (As := [.int (xs (x3 + 1).toNatClampNeg)]) (rest := [.int r]) ⟨hx, hb, hml, hown, hts⟩ (c_X10_sight l (D, cs, aR) hIR _ σR _ hw) (cwV 1 hts gL_law_X10_sight rfl rfl rfl (by decide +kernel) ⟨Nat.le_of_ble_eq_true rfl, Nat.le_of_ble_eq_true rfl⟩) hK hPR hS hR rfl hl.1 rfl (Nat.le_of_ble_eq_true rfl) dL_law_425 ⟨Nat.le_of_ble_eq_true rfl, Nat.le_of_ble_eq_true rfl⟩ (fun r2 σR H locs hw hPR hk hS => ?_)
  have hPC := ft_keep hPC hk hne
  exact lv_icmp_eq (tgt := 680) hx hb dL_law_428 (by decide) (fun _ => kk _ _ _ _ hw.2 ⟨hPC, hPR, hS⟩) (fun h => absurd hw.1 h)
set_option maxHeartbeats 4000000 in
set_option maxRecDepth 100000 in
theorem lc_all {p : Program} {l : Launch} {e : Env} {s : State} {m : MethodId} {below : List Frame} {meth : Method} {c : Code} {b L : Nat} {xs : Nat → Int32} {D : va_G} {cs : ClassId × ClassId × ClassId × ClassId} {aC aR : Nat → Nat} {Q : State → Prop} (E : LE p s m meth c b L xs D cs aC aR) {x3 : Int32} {σC σR : ft_St} {H : Heap} {locs : List Loc} {ls : Array Slot} (hsim : SIM σC σR) (hw : LW s D cs aC aR σC σR H locs) (h1 : vp_in (x3 + 1) L) (h2 : vp_in (x3 + 2) L) (h3 : vp_in (x3 + 3) L) (hl : lv_has ls 4 [(3, .int x3), (2, .ref (aR 0)), (1, .ref (aC 0)), (0, .ref b)]) (kk : ∀ (σC σR : ft_St) (H : Heap) (locs : List Loc), SIM σC σR → LW s D cs aC aR σC σR H locs → W p l e room_1 s m #[Value.ref b] below meth c H locs 96 5813 Q (F0 m 680 ls [])) : W p l e room_1 s m #[Value.ref b] below meth c H locs 96 5813 Q (F0 m 433 ls []) := by
  obtain ⟨hx, hb, hr, hml, hown, hts, hX, hbl, hlocks, hK, hN, hIC, hIR, hC, hR, hne⟩ := E
  obtain ⟨hPC, hPR, hS⟩ := hw
  have hbA : ¬ (fun q : Nat => s.heap.size ≤ q) b := Nat.not_le.mpr hbl
  refine lv_aload_n hx hb dL_law_433 rfl (lv_at hl 2 rfl) ?_
  refine lv_aload_n hx hb dL_law_434 rfl (lv_at hl 3 rfl) ?_
  refine lv_iload_n hx hb dL_law_435 rfl (lv_at hl 0 rfl) ?_
  refine lv_iconst (v := 1) hx hb dL_law_436 (by decide) ?_
  refine lv_iadd hx hb dL_law_437 ?_
  refine va_sld hx hb hX hbl hbA hS h1 dL_law_438 ?_
  refine cC_Gi (Γ := (D, cs, aC)) (As := [.int (xs (x3 + 1).toNatClampNeg)]) (rest := []) ⟨hx, hb, hml, hown, hts⟩ (c_X9_all l (D, cs, aC) hIC _ σC _ (s_all hsim)) (cwV 1 hts gL_law_X9_all rfl rfl rfl (by decide +kernel) ⟨Nat.le_of_ble_eq_true rfl, Nat.le_of_ble_eq_true rfl⟩) hK hN hPC hS hC rfl hl.1 rfl (Nat.le_of_ble_eq_true rfl) dL_law_439 ⟨Nat.le_of_ble_eq_true rfl, Nat.le_of_ble_eq_true rfl⟩ (fun r σC H locs hw hPC hk hS => ?_)
  have hPR := ft_keep hPR hk (fun i j hi hj e => hne j i hj hi e.symm)
  refine lv_aload_n hx hb dL_law_442 rfl (lv_at hl 1 rfl) ?_
  refine lv_aload_n hx hb dL_law_443 rfl (lv_at hl 3 rfl) ?_
  refine lv_iload_n hx hb dL_law_444 rfl (lv_at hl 0 rfl) ?_
  refine lv_iconst (v := 1) hx hb dL_law_445 (by decide) ?_
  refine lv_iadd hx hb dL_law_446 ?_
  refine va_sld hx hb hX hbl hbA hS h1 dL_law_447 ?_
  refine cR_Gi (Γ := (D, cs, aR)) (As := [.int (xs (x3 + 1).toNatClampNeg)]) (rest := [.int r]) ⟨hx, hb, hml, hown, hts⟩ (c_X10_all l (D, cs, aR) hIR _ σR _ hw) (cwV 1 hts gL_law_X10_all rfl rfl rfl (by decide +kernel) ⟨Nat.le_of_ble_eq_true rfl, Nat.le_of_ble_eq_true rfl⟩) hK hPR hS hR rfl hl.1 rfl (Nat.le_of_ble_eq_true rfl) dL_law_448 ⟨Nat.le_of_ble_eq_true rfl, Nat.le_of_ble_eq_true rfl⟩ (fun r2 σR H locs hw hPR hk hS => ?_)
  have hPC := ft_keep hPC hk hne
  exact lv_icmp_eq (tgt := 680) hx hb dL_law_451 (by decide) (fun _ => kk _ _ _ _ hw.2 ⟨hPC, hPR, hS⟩) (fun h => absurd hw.1 h)
set_option maxHeartbeats 4000000 in
set_option maxRecDepth 100000 in
theorem lc_apart {p : Program} {l : Launch} {e : Env} {s : State} {m : MethodId} {below : List Frame} {meth : Method} {c : Code} {b L : Nat} {xs : Nat → Int32} {D : va_G} {cs : ClassId × ClassId × ClassId × ClassId} {aC aR : Nat → Nat} {Q : State → Prop} (E : LE p s m meth c b L xs D cs aC aR) {x3 : Int32} {σC σR : ft_St} {H : Heap} {locs : List Loc} {ls : Array Slot} (hsim : SIM σC σR) (hw : LW s D cs aC aR σC σR H locs) (h1 : vp_in (x3 + 1) L) (h2 : vp_in (x3 + 2) L) (h3 : vp_in (x3 + 3) L) (hl : lv_has ls 4 [(3, .int x3), (2, .ref (aR 0)), (1, .ref (aC 0)), (0, .ref b)]) (kk : ∀ (σC σR : ft_St) (H : Heap) (locs : List Loc), SIM σC σR → LW s D cs aC aR σC σR H locs → W p l e room_1 s m #[Value.ref b] below meth c H locs 96 5813 Q (F0 m 680 ls [])) : W p l e room_1 s m #[Value.ref b] below meth c H locs 96 5813 Q (F0 m 456 ls []) := by
  obtain ⟨hx, hb, hr, hml, hown, hts, hX, hbl, hlocks, hK, hN, hIC, hIR, hC, hR, hne⟩ := E
  obtain ⟨hPC, hPR, hS⟩ := hw
  have hbA : ¬ (fun q : Nat => s.heap.size ≤ q) b := Nat.not_le.mpr hbl
  refine lv_aload_n hx hb dL_law_456 rfl (lv_at hl 2 rfl) ?_
  refine lv_aload_n hx hb dL_law_457 rfl (lv_at hl 3 rfl) ?_
  refine lv_iload_n hx hb dL_law_458 rfl (lv_at hl 0 rfl) ?_
  refine lv_iconst (v := 1) hx hb dL_law_459 (by decide) ?_
  refine lv_iadd hx hb dL_law_460 ?_
  refine va_sld hx hb hX hbl hbA hS h1 dL_law_461 ?_
  refine cC_Gi (Γ := (D, cs, aC)) (As := [.int (xs (x3 + 1).toNatClampNeg)]) (rest := []) ⟨hx, hb, hml, hown, hts⟩ (c_X9_apart l (D, cs, aC) hIC _ σC _ (s_apart hsim)) (cwV 1 hts gL_law_X9_apart rfl rfl rfl (by decide +kernel) ⟨Nat.le_of_ble_eq_true rfl, Nat.le_of_ble_eq_true rfl⟩) hK hN hPC hS hC rfl hl.1 rfl (Nat.le_of_ble_eq_true rfl) dL_law_462 ⟨Nat.le_of_ble_eq_true rfl, Nat.le_of_ble_eq_true rfl⟩ (fun r σC H locs hw hPC hk hS => ?_)
  have hPR := ft_keep hPR hk (fun i j hi hj e => hne j i hj hi e.symm)
  refine lv_aload_n hx hb dL_law_465 rfl (lv_at hl 1 rfl) ?_
  refine lv_aload_n hx hb dL_law_466 rfl (lv_at hl 3 rfl) ?_
  refine lv_iload_n hx hb dL_law_467 rfl (lv_at hl 0 rfl) ?_
  refine lv_iconst (v := 1) hx hb dL_law_468 (by decide) ?_
  refine lv_iadd hx hb dL_law_469 ?_
  refine va_sld hx hb hX hbl hbA hS h1 dL_law_470 ?_
  refine cR_Gi (Γ := (D, cs, aR)) (As := [.int (xs (x3 + 1).toNatClampNeg)]) (rest := [.int r]) ⟨hx, hb, hml, hown, hts⟩ (c_X10_apart l (D, cs, aR) hIR _ σR _ hw) (cwV 1 hts gL_law_X10_apart rfl rfl rfl (by decide +kernel) ⟨Nat.le_of_ble_eq_true rfl, Nat.le_of_ble_eq_true rfl⟩) hK hPR hS hR rfl hl.1 rfl (Nat.le_of_ble_eq_true rfl) dL_law_471 ⟨Nat.le_of_ble_eq_true rfl, Nat.le_of_ble_eq_true rfl⟩ (fun r2 σR H locs hw hPR hk hS => ?_)
  have hPC := ft_keep hPC hk hne
  exact lv_icmp_eq (tgt := 680) hx hb dL_law_474 (by decide) (fun _ => kk _ _ _ _ hw.2 ⟨hPC, hPR, hS⟩) (fun h => absurd hw.1 h)
set_option maxHeartbeats 4000000 in
set_option maxRecDepth 100000 in
theorem lc_soonest {p : Program} {l : Launch} {e : Env} {s : State} {m : MethodId} {below : List Frame} {meth : Method} {c : Code} {b L : Nat} {xs : Nat → Int32} {D : va_G} {cs : ClassId × ClassId × ClassId × ClassId} {aC aR : Nat → Nat} {Q : State → Prop} (E : LE p s m meth c b L xs D cs aC aR) {x3 : Int32} {σC σR : ft_St} {H : Heap} {locs : List Loc} {ls : Array Slot} (hsim : SIM σC σR) (hw : LW s D cs aC aR σC σR H locs) (h1 : vp_in (x3 + 1) L) (h2 : vp_in (x3 + 2) L) (h3 : vp_in (x3 + 3) L) (hl : lv_has ls 4 [(3, .int x3), (2, .ref (aR 0)), (1, .ref (aC 0)), (0, .ref b)]) (kk : ∀ (σC σR : ft_St) (H : Heap) (locs : List Loc), SIM σC σR → LW s D cs aC aR σC σR H locs → W p l e room_1 s m #[Value.ref b] below meth c H locs 96 5813 Q (F0 m 680 ls [])) : W p l e room_1 s m #[Value.ref b] below meth c H locs 96 5813 Q (F0 m 479 ls []) := by
  obtain ⟨hx, hb, hr, hml, hown, hts, hX, hbl, hlocks, hK, hN, hIC, hIR, hC, hR, hne⟩ := E
  obtain ⟨hPC, hPR, hS⟩ := hw
  have hbA : ¬ (fun q : Nat => s.heap.size ≤ q) b := Nat.not_le.mpr hbl
  refine lv_aload_n hx hb dL_law_479 rfl (lv_at hl 2 rfl) ?_
  refine lv_aload_n hx hb dL_law_480 rfl (lv_at hl 3 rfl) ?_
  refine lv_iload_n hx hb dL_law_481 rfl (lv_at hl 0 rfl) ?_
  refine lv_iconst (v := 1) hx hb dL_law_482 (by decide) ?_
  refine lv_iadd hx hb dL_law_483 ?_
  refine va_sld hx hb hX hbl hbA hS h1 dL_law_484 ?_
  refine cC_Gi (Γ := (D, cs, aC)) (As := [.int (xs (x3 + 1).toNatClampNeg)]) (rest := []) ⟨hx, hb, hml, hown, hts⟩ (c_X9_soonest l (D, cs, aC) hIC _ σC _ (s_soonest hsim)) (cwV 1 hts gL_law_X9_soonest rfl rfl rfl (by decide +kernel) ⟨Nat.le_of_ble_eq_true rfl, Nat.le_of_ble_eq_true rfl⟩) hK hN hPC hS hC rfl hl.1 rfl (Nat.le_of_ble_eq_true rfl) dL_law_485 ⟨Nat.le_of_ble_eq_true rfl, Nat.le_of_ble_eq_true rfl⟩ (fun r σC H locs hw hPC hk hS => ?_)
  have hPR := ft_keep hPR hk (fun i j hi hj e => hne j i hj hi e.symm)
  refine lv_aload_n hx hb dL_law_488 rfl (lv_at hl 1 rfl) ?_
  refine lv_aload_n hx hb dL_law_489 rfl (lv_at hl 3 rfl) ?_
  refine lv_iload_n hx hb dL_law_490 rfl (lv_at hl 0 rfl) ?_
  refine lv_iconst (v := 1) hx hb dL_law_491 (by decide) ?_
  refine lv_iadd hx hb dL_law_492 ?_
  refine va_sld hx hb hX hbl hbA hS h1 dL_law_493 ?_
  refine cR_Gi (Γ := (D, cs, aR)) (As := [.int (xs (x3 + 1).toNatClampNeg)]) (rest := [.int r]) ⟨hx, hb, hml, hown, hts⟩ (c_X10_soonest l (D, cs, aR) hIR _ σR _ hw) (cwV 1 hts gL_law_X10_soonest rfl rfl rfl (by decide +kernel) ⟨Nat.le_of_ble_eq_true rfl, Nat.le_of_ble_eq_true rfl⟩) hK hPR hS hR rfl hl.1 rfl (Nat.le_of_ble_eq_true rfl) dL_law_494 ⟨Nat.le_of_ble_eq_true rfl, Nat.le_of_ble_eq_true rfl⟩ (fun r2 σR H locs hw hPR hk hS => ?_)
  have hPC := ft_keep hPC hk hne
  exact lv_icmp_eq (tgt := 680) hx hb dL_law_497 (by decide) (fun _ => kk _ _ _ _ hw.2 ⟨hPC, hPR, hS⟩) (fun h => absurd hw.1 h)
set_option maxHeartbeats 4000000 in
set_option maxRecDepth 100000 in
theorem lc_enough {p : Program} {l : Launch} {e : Env} {s : State} {m : MethodId} {below : List Frame} {meth : Method} {c : Code} {b L : Nat} {xs : Nat → Int32} {D : va_G} {cs : ClassId × ClassId × ClassId × ClassId} {aC aR : Nat → Nat} {Q : State → Prop} (E : LE p s m meth c b L xs D cs aC aR) {x3 : Int32} {σC σR : ft_St} {H : Heap} {locs : List Loc} {ls : Array Slot} (hsim : SIM σC σR) (hw : LW s D cs aC aR σC σR H locs) (h1 : vp_in (x3 + 1) L) (h2 : vp_in (x3 + 2) L) (h3 : vp_in (x3 + 3) L) (hl : lv_has ls 4 [(3, .int x3), (2, .ref (aR 0)), (1, .ref (aC 0)), (0, .ref b)]) (kk : ∀ (σC σR : ft_St) (H : Heap) (locs : List Loc), SIM σC σR → LW s D cs aC aR σC σR H locs → W p l e room_1 s m #[Value.ref b] below meth c H locs 96 5813 Q (F0 m 680 ls [])) : W p l e room_1 s m #[Value.ref b] below meth c H locs 96 5813 Q (F0 m 502 ls []) := by
  obtain ⟨hx, hb, hr, hml, hown, hts, hX, hbl, hlocks, hK, hN, hIC, hIR, hC, hR, hne⟩ := E
  obtain ⟨hPC, hPR, hS⟩ := hw
  have hbA : ¬ (fun q : Nat => s.heap.size ≤ q) b := Nat.not_le.mpr hbl
  refine lv_aload_n hx hb dL_law_502 rfl (lv_at hl 2 rfl) ?_
  refine lv_aload_n hx hb dL_law_503 rfl (lv_at hl 3 rfl) ?_
  refine lv_iload_n hx hb dL_law_504 rfl (lv_at hl 0 rfl) ?_
  refine lv_iconst (v := 1) hx hb dL_law_505 (by decide) ?_
  refine lv_iadd hx hb dL_law_506 ?_
  refine va_sld hx hb hX hbl hbA hS h1 dL_law_507 ?_
  refine cC_Gi (Γ := (D, cs, aC)) (As := [.int (xs (x3 + 1).toNatClampNeg)]) (rest := []) ⟨hx, hb, hml, hown, hts⟩ (c_X9_enough l (D, cs, aC) hIC _ σC _ (s_enough hsim)) (cwV 1 hts gL_law_X9_enough rfl rfl rfl (by decide +kernel) ⟨Nat.le_of_ble_eq_true rfl, Nat.le_of_ble_eq_true rfl⟩) hK hN hPC hS hC rfl hl.1 rfl (Nat.le_of_ble_eq_true rfl) dL_law_508 ⟨Nat.le_of_ble_eq_true rfl, Nat.le_of_ble_eq_true rfl⟩ (fun r σC H locs hw hPC hk hS => ?_)
  have hPR := ft_keep hPR hk (fun i j hi hj e => hne j i hj hi e.symm)
  refine lv_aload_n hx hb dL_law_511 rfl (lv_at hl 1 rfl) ?_
  refine lv_aload_n hx hb dL_law_512 rfl (lv_at hl 3 rfl) ?_
  refine lv_iload_n hx hb dL_law_513 rfl (lv_at hl 0 rfl) ?_
  refine lv_iconst (v := 1) hx hb dL_law_514 (by decide) ?_
  refine lv_iadd hx hb dL_law_515 ?_
  refine va_sld hx hb hX hbl hbA hS h1 dL_law_516 ?_
  refine cR_Gi (Γ := (D, cs, aR)) (As := [.int (xs (x3 + 1).toNatClampNeg)]) (rest := [.int r]) ⟨hx, hb, hml, hown, hts⟩ (c_X10_enough l (D, cs, aR) hIR _ σR _ hw) (cwV 1 hts gL_law_X10_enough rfl rfl rfl (by decide +kernel) ⟨Nat.le_of_ble_eq_true rfl, Nat.le_of_ble_eq_true rfl⟩) hK hPR hS hR rfl hl.1 rfl (Nat.le_of_ble_eq_true rfl) dL_law_517 ⟨Nat.le_of_ble_eq_true rfl, Nat.le_of_ble_eq_true rfl⟩ (fun r2 σR H locs hw hPR hk hS => ?_)
  have hPC := ft_keep hPC hk hne
  exact lv_icmp_eq (tgt := 680) hx hb dL_law_520 (by decide) (fun _ => kk _ _ _ _ hw.2 ⟨hPC, hPR, hS⟩) (fun h => absurd hw.1 h)
set_option maxHeartbeats 4000000 in
set_option maxRecDepth 100000 in
theorem lc_fewest {p : Program} {l : Launch} {e : Env} {s : State} {m : MethodId} {below : List Frame} {meth : Method} {c : Code} {b L : Nat} {xs : Nat → Int32} {D : va_G} {cs : ClassId × ClassId × ClassId × ClassId} {aC aR : Nat → Nat} {Q : State → Prop} (E : LE p s m meth c b L xs D cs aC aR) {x3 : Int32} {σC σR : ft_St} {H : Heap} {locs : List Loc} {ls : Array Slot} (hsim : SIM σC σR) (hw : LW s D cs aC aR σC σR H locs) (h1 : vp_in (x3 + 1) L) (h2 : vp_in (x3 + 2) L) (h3 : vp_in (x3 + 3) L) (hl : lv_has ls 4 [(3, .int x3), (2, .ref (aR 0)), (1, .ref (aC 0)), (0, .ref b)]) (kk : ∀ (σC σR : ft_St) (H : Heap) (locs : List Loc), SIM σC σR → LW s D cs aC aR σC σR H locs → W p l e room_1 s m #[Value.ref b] below meth c H locs 96 5813 Q (F0 m 680 ls [])) : W p l e room_1 s m #[Value.ref b] below meth c H locs 96 5813 Q (F0 m 525 ls []) := by
  obtain ⟨hx, hb, hr, hml, hown, hts, hX, hbl, hlocks, hK, hN, hIC, hIR, hC, hR, hne⟩ := E
  obtain ⟨hPC, hPR, hS⟩ := hw
  have hbA : ¬ (fun q : Nat => s.heap.size ≤ q) b := Nat.not_le.mpr hbl
  refine lv_aload_n hx hb dL_law_525 rfl (lv_at hl 2 rfl) ?_
  refine lv_aload_n hx hb dL_law_526 rfl (lv_at hl 3 rfl) ?_
  refine lv_iload_n hx hb dL_law_527 rfl (lv_at hl 0 rfl) ?_
  refine lv_iconst (v := 1) hx hb dL_law_528 (by decide) ?_
  refine lv_iadd hx hb dL_law_529 ?_
  refine va_sld hx hb hX hbl hbA hS h1 dL_law_530 ?_
  refine cC_Gi (Γ := (D, cs, aC)) (As := [.int (xs (x3 + 1).toNatClampNeg)]) (rest := []) ⟨hx, hb, hml, hown, hts⟩ (c_X9_fewest l (D, cs, aC) hIC _ σC _ (s_fewest hsim)) (cwV 1 hts gL_law_X9_fewest rfl rfl rfl (by decide +kernel) ⟨Nat.le_of_ble_eq_true rfl, Nat.le_of_ble_eq_true rfl⟩) hK hN hPC hS hC rfl hl.1 rfl (Nat.le_of_ble_eq_true rfl) dL_law_531 ⟨Nat.le_of_ble_eq_true rfl, Nat.le_of_ble_eq_true rfl⟩ (fun r σC H locs hw hPC hk hS => ?_)
  have hPR := ft_keep hPR hk (fun i j hi hj e => hne j i hj hi e.symm)
  refine lv_aload_n hx hb dL_law_534 rfl (lv_at hl 1 rfl) ?_
  refine lv_aload_n hx hb dL_law_535 rfl (lv_at hl 3 rfl) ?_
  refine lv_iload_n hx hb dL_law_536 rfl (lv_at hl 0 rfl) ?_
  refine lv_iconst (v := 1) hx hb dL_law_537 (by decide) ?_
  refine lv_iadd hx hb dL_law_538 ?_
  refine va_sld hx hb hX hbl hbA hS h1 dL_law_539 ?_
  refine cR_Gi (Γ := (D, cs, aR)) (As := [.int (xs (x3 + 1).toNatClampNeg)]) (rest := [.int r]) ⟨hx, hb, hml, hown, hts⟩ (c_X10_fewest l (D, cs, aR) hIR _ σR _ hw) (cwV 1 hts gL_law_X10_fewest rfl rfl rfl (by decide +kernel) ⟨Nat.le_of_ble_eq_true rfl, Nat.le_of_ble_eq_true rfl⟩) hK hPR hS hR rfl hl.1 rfl (Nat.le_of_ble_eq_true rfl) dL_law_540 ⟨Nat.le_of_ble_eq_true rfl, Nat.le_of_ble_eq_true rfl⟩ (fun r2 σR H locs hw hPR hk hS => ?_)
  have hPC := ft_keep hPC hk hne
  exact lv_icmp_eq (tgt := 680) hx hb dL_law_543 (by decide) (fun _ => kk _ _ _ _ hw.2 ⟨hPC, hPR, hS⟩) (fun h => absurd hw.1 h)
