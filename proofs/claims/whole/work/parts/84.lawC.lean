set_option maxHeartbeats 4000000 in
set_option maxRecDepth 100000 in
theorem lc_pair {p : Program} {l : Launch} {e : Env} {s : State} {m : MethodId} {below : List Frame} {meth : Method} {c : Code} {b L : Nat} {xs : Nat → Int32} {D : va_G} {cs : ClassId × ClassId × ClassId × ClassId} {aC aR : Nat → Nat} {Q : State → Prop} (E : LE p s m meth c b L xs D cs aC aR) {x3 : Int32} {σC σR : ft_St} {H : Heap} {locs : List Loc} {ls : Array Slot} (hsim : SIM σC σR) (hw : LW s D cs aC aR σC σR H locs) (h1 : vp_in (x3 + 1) L) (h2 : vp_in (x3 + 2) L) (h3 : vp_in (x3 + 3) L) (hl : lv_has ls 4 [(3, .int x3), (2, .ref (aR 0)), (1, .ref (aC 0)), (0, .ref b)]) (kk : ∀ (σC σR : ft_St) (H : Heap) (locs : List Loc), SIM σC σR → LW s D cs aC aR σC σR H locs → W p l e room_1 s m #[Value.ref b] below meth c H locs 96 5813 Q (F0 m 680 ls [])) : W p l e room_1 s m #[Value.ref b] below meth c H locs 96 5813 Q (F0 m 548 ls []) := by
  obtain ⟨hx, hb, hr, hml, hown, hts, hX, hbl, hlocks, hK, hN, hIC, hIR, hC, hR, hne⟩ := E
  obtain ⟨hPC, hPR, hS⟩ := hw
  have hbA : ¬ (fun q : Nat => s.heap.size ≤ q) b := Nat.not_le.mpr hbl
  refine lv_aload_n hx hb dL_law_548 rfl (lv_at hl 2 rfl) ?_
  refine lv_aload_n hx hb dL_law_549 rfl (lv_at hl 3 rfl) ?_
  refine lv_iload_n hx hb dL_law_550 rfl (lv_at hl 0 rfl) ?_
  refine lv_iconst (v := 1) hx hb dL_law_551 (by decide) ?_
  refine lv_iadd hx hb dL_law_552 ?_
  refine va_sld hx hb hX hbl hbA hS h1 dL_law_553 ?_
  refine lv_aload_n hx hb dL_law_554 rfl (lv_at hl 3 rfl) ?_
  refine lv_iload_n hx hb dL_law_555 rfl (lv_at hl 0 rfl) ?_
  refine lv_iconst (v := 2) hx hb dL_law_556 (by decide) ?_
  refine lv_iadd hx hb dL_law_557 ?_
  refine va_sld hx hb hX hbl hbA hS h2 dL_law_558 ?_
  refine cC_Gi (Γ := (D, cs, aC)) (As := [.int (xs (x3 + 1).toNatClampNeg), .int (xs (x3 + 2).toNatClampNeg)]) (rest := []) ⟨hx, hb, hml, hown, hts⟩ (c_X9_pair l (D, cs, aC) hIC _ _ σC _ (s_pair hsim)) (cwV 2 hts gL_law_X9_pair rfl rfl rfl (by decide +kernel) ⟨Nat.le_of_ble_eq_true rfl, Nat.le_of_ble_eq_true rfl⟩) hK hN hPC hS hC rfl hl.1 rfl (Nat.le_of_ble_eq_true rfl) dL_law_559 ⟨Nat.le_of_ble_eq_true rfl, Nat.le_of_ble_eq_true rfl⟩ (fun r σC H locs hw hPC hk hS => ?_)
  have hPR := ft_keep hPR hk (fun i j hi hj e => hne j i hj hi e.symm)
  refine lv_aload_n hx hb dL_law_562 rfl (lv_at hl 1 rfl) ?_
  refine lv_aload_n hx hb dL_law_563 rfl (lv_at hl 3 rfl) ?_
  refine lv_iload_n hx hb dL_law_564 rfl (lv_at hl 0 rfl) ?_
  refine lv_iconst (v := 1) hx hb dL_law_565 (by decide) ?_
  refine lv_iadd hx hb dL_law_566 ?_
  refine va_sld hx hb hX hbl hbA hS h1 dL_law_567 ?_
  refine lv_aload_n hx hb dL_law_568 rfl (lv_at hl 3 rfl) ?_
  refine lv_iload_n hx hb dL_law_569 rfl (lv_at hl 0 rfl) ?_
  refine lv_iconst (v := 2) hx hb dL_law_570 (by decide) ?_
  refine lv_iadd hx hb dL_law_571 ?_
  refine va_sld hx hb hX hbl hbA hS h2 dL_law_572 ?_
  refine cR_Gi (Γ := (D, cs, aR)) (As := [.int (xs (x3 + 1).toNatClampNeg), .int (xs (x3 + 2).toNatClampNeg)]) (rest := [.int r]) ⟨hx, hb, hml, hown, hts⟩ (c_X10_pair l (D, cs, aR) hIR _ _ σR _ hw) (cwV 2 hts gL_law_X10_pair rfl rfl rfl (by decide +kernel) ⟨Nat.le_of_ble_eq_true rfl, Nat.le_of_ble_eq_true rfl⟩) hK hPR hS hR rfl hl.1 rfl (Nat.le_of_ble_eq_true rfl) dL_law_573 ⟨Nat.le_of_ble_eq_true rfl, Nat.le_of_ble_eq_true rfl⟩ (fun r2 σR H locs hw hPR hk hS => ?_)
  have hPC := ft_keep hPC hk hne
  exact lv_icmp_eq (tgt := 680) hx hb dL_law_576 (by decide) (fun _ => kk _ _ _ _ hw.2 ⟨hPC, hPR, hS⟩) (fun h => absurd hw.1 h)
set_option maxHeartbeats 4000000 in
set_option maxRecDepth 100000 in
theorem lc_type {p : Program} {l : Launch} {e : Env} {s : State} {m : MethodId} {below : List Frame} {meth : Method} {c : Code} {b L : Nat} {xs : Nat → Int32} {D : va_G} {cs : ClassId × ClassId × ClassId × ClassId} {aC aR : Nat → Nat} {Q : State → Prop} (E : LE p s m meth c b L xs D cs aC aR) {x3 : Int32} {σC σR : ft_St} {H : Heap} {locs : List Loc} {ls : Array Slot} (hsim : SIM σC σR) (hw : LW s D cs aC aR σC σR H locs) (h1 : vp_in (x3 + 1) L) (h2 : vp_in (x3 + 2) L) (h3 : vp_in (x3 + 3) L) (hl : lv_has ls 4 [(3, .int x3), (2, .ref (aR 0)), (1, .ref (aC 0)), (0, .ref b)]) (kk : ∀ (σC σR : ft_St) (H : Heap) (locs : List Loc), SIM σC σR → LW s D cs aC aR σC σR H locs → W p l e room_1 s m #[Value.ref b] below meth c H locs 96 5813 Q (F0 m 680 ls [])) : W p l e room_1 s m #[Value.ref b] below meth c H locs 96 5813 Q (F0 m 581 ls []) := by
  obtain ⟨hx, hb, hr, hml, hown, hts, hX, hbl, hlocks, hK, hN, hIC, hIR, hC, hR, hne⟩ := E
  obtain ⟨hPC, hPR, hS⟩ := hw
  have hbA : ¬ (fun q : Nat => s.heap.size ≤ q) b := Nat.not_le.mpr hbl
  refine lv_aload_n hx hb dL_law_581 rfl (lv_at hl 2 rfl) ?_
  refine lv_aload_n hx hb dL_law_582 rfl (lv_at hl 3 rfl) ?_
  refine lv_iload_n hx hb dL_law_583 rfl (lv_at hl 0 rfl) ?_
  refine lv_iconst (v := 1) hx hb dL_law_584 (by decide) ?_
  refine lv_iadd hx hb dL_law_585 ?_
  refine va_sld hx hb hX hbl hbA hS h1 dL_law_586 ?_
  refine cC_Gi (Γ := (D, cs, aC)) (As := [.int (xs (x3 + 1).toNatClampNeg)]) (rest := []) ⟨hx, hb, hml, hown, hts⟩ (c_X9_type l (D, cs, aC) hIC _ σC _ (s_type hsim)) (cwV 1 hts gL_law_X9_type rfl rfl rfl (by decide +kernel) ⟨Nat.le_of_ble_eq_true rfl, Nat.le_of_ble_eq_true rfl⟩) hK hN hPC hS hC rfl hl.1 rfl (Nat.le_of_ble_eq_true rfl) dL_law_587 ⟨Nat.le_of_ble_eq_true rfl, Nat.le_of_ble_eq_true rfl⟩ (fun r σC H locs hw hPC hk hS => ?_)
  have hPR := ft_keep hPR hk (fun i j hi hj e => hne j i hj hi e.symm)
  refine lv_aload_n hx hb dL_law_590 rfl (lv_at hl 1 rfl) ?_
  refine lv_aload_n hx hb dL_law_591 rfl (lv_at hl 3 rfl) ?_
  refine lv_iload_n hx hb dL_law_592 rfl (lv_at hl 0 rfl) ?_
  refine lv_iconst (v := 1) hx hb dL_law_593 (by decide) ?_
  refine lv_iadd hx hb dL_law_594 ?_
  refine va_sld hx hb hX hbl hbA hS h1 dL_law_595 ?_
  refine cR_Gi (Γ := (D, cs, aR)) (As := [.int (xs (x3 + 1).toNatClampNeg)]) (rest := [.int r]) ⟨hx, hb, hml, hown, hts⟩ (c_X10_type l (D, cs, aR) hIR _ σR _ hw) (cwV 1 hts gL_law_X10_type rfl rfl rfl (by decide +kernel) ⟨Nat.le_of_ble_eq_true rfl, Nat.le_of_ble_eq_true rfl⟩) hK hPR hS hR rfl hl.1 rfl (Nat.le_of_ble_eq_true rfl) dL_law_596 ⟨Nat.le_of_ble_eq_true rfl, Nat.le_of_ble_eq_true rfl⟩ (fun r2 σR H locs hw hPR hk hS => ?_)
  have hPC := ft_keep hPC hk hne
  exact lv_icmp_eq (tgt := 680) hx hb dL_law_599 (by decide) (fun _ => kk _ _ _ _ hw.2 ⟨hPC, hPR, hS⟩) (fun h => absurd hw.1 h)
set_option maxHeartbeats 4000000 in
set_option maxRecDepth 100000 in
theorem lc_clear {p : Program} {l : Launch} {e : Env} {s : State} {m : MethodId} {below : List Frame} {meth : Method} {c : Code} {b L : Nat} {xs : Nat → Int32} {D : va_G} {cs : ClassId × ClassId × ClassId × ClassId} {aC aR : Nat → Nat} {Q : State → Prop} (E : LE p s m meth c b L xs D cs aC aR) {x3 : Int32} {σC σR : ft_St} {H : Heap} {locs : List Loc} {ls : Array Slot} (hsim : SIM σC σR) (hw : LW s D cs aC aR σC σR H locs) (h1 : vp_in (x3 + 1) L) (h2 : vp_in (x3 + 2) L) (h3 : vp_in (x3 + 3) L) (hl : lv_has ls 4 [(3, .int x3), (2, .ref (aR 0)), (1, .ref (aC 0)), (0, .ref b)]) (kk : ∀ (σC σR : ft_St) (H : Heap) (locs : List Loc), SIM σC σR → LW s D cs aC aR σC σR H locs → W p l e room_1 s m #[Value.ref b] below meth c H locs 96 5813 Q (F0 m 680 ls [])) : W p l e room_1 s m #[Value.ref b] below meth c H locs 96 5813 Q (F0 m 604 ls []) := by
  obtain ⟨hx, hb, hr, hml, hown, hts, hX, hbl, hlocks, hK, hN, hIC, hIR, hC, hR, hne⟩ := E
  obtain ⟨hPC, hPR, hS⟩ := hw
  have hbA : ¬ (fun q : Nat => s.heap.size ≤ q) b := Nat.not_le.mpr hbl
  refine lv_aload_n hx hb dL_law_604 rfl (lv_at hl 2 rfl) ?_
  refine cC_Gi (Γ := (D, cs, aC)) (As := []) (rest := []) ⟨hx, hb, hml, hown, hts⟩ (c_X9_clear l (D, cs, aC) hIC  σC _ (s_clear hsim)) (cwV 0 hts gL_law_X9_clear rfl rfl rfl (by decide +kernel) ⟨Nat.le_of_ble_eq_true rfl, Nat.le_of_ble_eq_true rfl⟩) hK hN hPC hS hC rfl hl.1 rfl (Nat.le_of_ble_eq_true rfl) dL_law_605 ⟨Nat.le_of_ble_eq_true rfl, Nat.le_of_ble_eq_true rfl⟩ (fun r σC H locs hw hPC hk hS => ?_)
  have hPR := ft_keep hPR hk (fun i j hi hj e => hne j i hj hi e.symm)
  refine lv_aload_n hx hb dL_law_608 rfl (lv_at hl 1 rfl) ?_
  refine cR_Gi (Γ := (D, cs, aR)) (As := []) (rest := [.int r]) ⟨hx, hb, hml, hown, hts⟩ (c_X10_clear l (D, cs, aR) hIR  σR _ hw) (cwV 0 hts gL_law_X10_clear rfl rfl rfl (by decide +kernel) ⟨Nat.le_of_ble_eq_true rfl, Nat.le_of_ble_eq_true rfl⟩) hK hPR hS hR rfl hl.1 rfl (Nat.le_of_ble_eq_true rfl) dL_law_609 ⟨Nat.le_of_ble_eq_true rfl, Nat.le_of_ble_eq_true rfl⟩ (fun r2 σR H locs hw hPR hk hS => ?_)
  have hPC := ft_keep hPC hk hne
  exact lv_icmp_eq (tgt := 680) hx hb dL_law_612 (by decide) (fun _ => kk _ _ _ _ hw.2 ⟨hPC, hPR, hS⟩) (fun h => absurd hw.1 h)
set_option maxHeartbeats 4000000 in
set_option maxRecDepth 100000 in
theorem lc_reads {p : Program} {l : Launch} {e : Env} {s : State} {m : MethodId} {below : List Frame} {meth : Method} {c : Code} {b L : Nat} {xs : Nat → Int32} {D : va_G} {cs : ClassId × ClassId × ClassId × ClassId} {aC aR : Nat → Nat} {Q : State → Prop} (E : LE p s m meth c b L xs D cs aC aR) {x3 : Int32} {σC σR : ft_St} {H : Heap} {locs : List Loc} {ls : Array Slot} (hsim : SIM σC σR) (hw : LW s D cs aC aR σC σR H locs) (h1 : vp_in (x3 + 1) L) (h2 : vp_in (x3 + 2) L) (h3 : vp_in (x3 + 3) L) (hl : lv_has ls 4 [(3, .int x3), (2, .ref (aR 0)), (1, .ref (aC 0)), (0, .ref b)]) (kk : ∀ (σC σR : ft_St) (H : Heap) (locs : List Loc), SIM σC σR → LW s D cs aC aR σC σR H locs → W p l e room_1 s m #[Value.ref b] below meth c H locs 96 5813 Q (F0 m 680 ls [])) : W p l e room_1 s m #[Value.ref b] below meth c H locs 96 5813 Q (F0 m 617 ls []) := by
  obtain ⟨hx, hb, hr, hml, hown, hts, hX, hbl, hlocks, hK, hN, hIC, hIR, hC, hR, hne⟩ := E
  obtain ⟨hPC, hPR, hS⟩ := hw
  have hbA : ¬ (fun q : Nat => s.heap.size ≤ q) b := Nat.not_le.mpr hbl
  refine lv_aload_n hx hb dL_law_617 rfl (lv_at hl 2 rfl) ?_
  refine cC_Gi (Γ := (D, cs, aC)) (As := []) (rest := []) ⟨hx, hb, hml, hown, hts⟩ (c_X9_reads l (D, cs, aC) hIC  σC _ (s_reads hsim)) (cwV 0 hts gL_law_X9_reads rfl rfl rfl (by decide +kernel) ⟨Nat.le_of_ble_eq_true rfl, Nat.le_of_ble_eq_true rfl⟩) hK hN hPC hS hC rfl hl.1 rfl (Nat.le_of_ble_eq_true rfl) dL_law_618 ⟨Nat.le_of_ble_eq_true rfl, Nat.le_of_ble_eq_true rfl⟩ (fun r σC H locs hw hPC hk hS => ?_)
  have hPR := ft_keep hPR hk (fun i j hi hj e => hne j i hj hi e.symm)
  refine lv_aload_n hx hb dL_law_621 rfl (lv_at hl 1 rfl) ?_
  refine cR_Gi (Γ := (D, cs, aR)) (As := []) (rest := [.int r]) ⟨hx, hb, hml, hown, hts⟩ (c_X10_reads l (D, cs, aR) hIR  σR _ hw) (cwV 0 hts gL_law_X10_reads rfl rfl rfl (by decide +kernel) ⟨Nat.le_of_ble_eq_true rfl, Nat.le_of_ble_eq_true rfl⟩) hK hPR hS hR rfl hl.1 rfl (Nat.le_of_ble_eq_true rfl) dL_law_622 ⟨Nat.le_of_ble_eq_true rfl, Nat.le_of_ble_eq_true rfl⟩ (fun r2 σR H locs hw hPR hk hS => ?_)
  have hPC := ft_keep hPC hk hne
  exact lv_icmp_eq (tgt := 680) hx hb dL_law_625 (by decide) (fun _ => kk _ _ _ _ hw.2 ⟨hPC, hPR, hS⟩) (fun h => absurd hw.1 h)
set_option maxHeartbeats 4000000 in
set_option maxRecDepth 100000 in
theorem lc_back {p : Program} {l : Launch} {e : Env} {s : State} {m : MethodId} {below : List Frame} {meth : Method} {c : Code} {b L : Nat} {xs : Nat → Int32} {D : va_G} {cs : ClassId × ClassId × ClassId × ClassId} {aC aR : Nat → Nat} {Q : State → Prop} (E : LE p s m meth c b L xs D cs aC aR) {x3 : Int32} {σC σR : ft_St} {H : Heap} {locs : List Loc} {ls : Array Slot} (hsim : SIM σC σR) (hw : LW s D cs aC aR σC σR H locs) (h1 : vp_in (x3 + 1) L) (h2 : vp_in (x3 + 2) L) (h3 : vp_in (x3 + 3) L) (hl : lv_has ls 4 [(3, .int x3), (2, .ref (aR 0)), (1, .ref (aC 0)), (0, .ref b)]) (kk : ∀ (σC σR : ft_St) (H : Heap) (locs : List Loc), SIM σC σR → LW s D cs aC aR σC σR H locs → W p l e room_1 s m #[Value.ref b] below meth c H locs 96 5813 Q (F0 m 680 ls [])) : W p l e room_1 s m #[Value.ref b] below meth c H locs 96 5813 Q (F0 m 630 ls []) := by
  obtain ⟨hx, hb, hr, hml, hown, hts, hX, hbl, hlocks, hK, hN, hIC, hIR, hC, hR, hne⟩ := E
  obtain ⟨hPC, hPR, hS⟩ := hw
  have hbA : ¬ (fun q : Nat => s.heap.size ≤ q) b := Nat.not_le.mpr hbl
  refine lv_aload_n hx hb dL_law_630 rfl (lv_at hl 2 rfl) ?_
  refine cC_Gi (Γ := (D, cs, aC)) (As := []) (rest := []) ⟨hx, hb, hml, hown, hts⟩ (c_X9_back l (D, cs, aC) hIC  σC _ (s_back hsim)) (cwV 0 hts gL_law_X9_back rfl rfl rfl (by decide +kernel) ⟨Nat.le_of_ble_eq_true rfl, Nat.le_of_ble_eq_true rfl⟩) hK hN hPC hS hC rfl hl.1 rfl (Nat.le_of_ble_eq_true rfl) dL_law_631 ⟨Nat.le_of_ble_eq_true rfl, Nat.le_of_ble_eq_true rfl⟩ (fun r σC H locs hw hPC hk hS => ?_)
  have hPR := ft_keep hPR hk (fun i j hi hj e => hne j i hj hi e.symm)
  refine lv_aload_n hx hb dL_law_634 rfl (lv_at hl 1 rfl) ?_
  refine cR_Gi (Γ := (D, cs, aR)) (As := []) (rest := [.int r]) ⟨hx, hb, hml, hown, hts⟩ (c_X10_back l (D, cs, aR) hIR  σR _ hw) (cwV 0 hts gL_law_X10_back rfl rfl rfl (by decide +kernel) ⟨Nat.le_of_ble_eq_true rfl, Nat.le_of_ble_eq_true rfl⟩) hK hPR hS hR rfl hl.1 rfl (Nat.le_of_ble_eq_true rfl) dL_law_635 ⟨Nat.le_of_ble_eq_true rfl, Nat.le_of_ble_eq_true rfl⟩ (fun r2 σR H locs hw hPR hk hS => ?_)
  have hPC := ft_keep hPC hk hne
  exact lv_icmp_eq (tgt := 680) hx hb dL_law_638 (by decide) (fun _ => kk _ _ _ _ hw.2 ⟨hPC, hPR, hS⟩) (fun h => absurd hw.1 h)
set_option maxHeartbeats 4000000 in
set_option maxRecDepth 100000 in
theorem lc_told {p : Program} {l : Launch} {e : Env} {s : State} {m : MethodId} {below : List Frame} {meth : Method} {c : Code} {b L : Nat} {xs : Nat → Int32} {D : va_G} {cs : ClassId × ClassId × ClassId × ClassId} {aC aR : Nat → Nat} {Q : State → Prop} (E : LE p s m meth c b L xs D cs aC aR) {x3 : Int32} {σC σR : ft_St} {H : Heap} {locs : List Loc} {ls : Array Slot} (hsim : SIM σC σR) (hw : LW s D cs aC aR σC σR H locs) (h1 : vp_in (x3 + 1) L) (h2 : vp_in (x3 + 2) L) (h3 : vp_in (x3 + 3) L) (hl : lv_has ls 4 [(3, .int x3), (2, .ref (aR 0)), (1, .ref (aC 0)), (0, .ref b)]) (kk : ∀ (σC σR : ft_St) (H : Heap) (locs : List Loc), SIM σC σR → LW s D cs aC aR σC σR H locs → W p l e room_1 s m #[Value.ref b] below meth c H locs 96 5813 Q (F0 m 680 ls [])) : W p l e room_1 s m #[Value.ref b] below meth c H locs 96 5813 Q (F0 m 643 ls []) := by
  obtain ⟨hx, hb, hr, hml, hown, hts, hX, hbl, hlocks, hK, hN, hIC, hIR, hC, hR, hne⟩ := E
  obtain ⟨hPC, hPR, hS⟩ := hw
  have hbA : ¬ (fun q : Nat => s.heap.size ≤ q) b := Nat.not_le.mpr hbl
  refine lv_aload_n hx hb dL_law_643 rfl (lv_at hl 2 rfl) ?_
  refine lv_aload_n hx hb dL_law_644 rfl (lv_at hl 3 rfl) ?_
  refine lv_iload_n hx hb dL_law_645 rfl (lv_at hl 0 rfl) ?_
  refine lv_iconst (v := 1) hx hb dL_law_646 (by decide) ?_
  refine lv_iadd hx hb dL_law_647 ?_
  refine va_sld hx hb hX hbl hbA hS h1 dL_law_648 ?_
  refine cC_Gi (Γ := (D, cs, aC)) (As := [.int (xs (x3 + 1).toNatClampNeg)]) (rest := []) ⟨hx, hb, hml, hown, hts⟩ (c_X9_told l (D, cs, aC) hIC _ σC _ (s_told hsim)) (cwV 1 hts gL_law_X9_told rfl rfl rfl (by decide +kernel) ⟨Nat.le_of_ble_eq_true rfl, Nat.le_of_ble_eq_true rfl⟩) hK hN hPC hS hC rfl hl.1 rfl (Nat.le_of_ble_eq_true rfl) dL_law_649 ⟨Nat.le_of_ble_eq_true rfl, Nat.le_of_ble_eq_true rfl⟩ (fun r σC H locs hw hPC hk hS => ?_)
  have hPR := ft_keep hPR hk (fun i j hi hj e => hne j i hj hi e.symm)
  refine lv_aload_n hx hb dL_law_652 rfl (lv_at hl 1 rfl) ?_
  refine lv_aload_n hx hb dL_law_653 rfl (lv_at hl 3 rfl) ?_
  refine lv_iload_n hx hb dL_law_654 rfl (lv_at hl 0 rfl) ?_
  refine lv_iconst (v := 1) hx hb dL_law_655 (by decide) ?_
  refine lv_iadd hx hb dL_law_656 ?_
  refine va_sld hx hb hX hbl hbA hS h1 dL_law_657 ?_
  refine cR_Gi (Γ := (D, cs, aR)) (As := [.int (xs (x3 + 1).toNatClampNeg)]) (rest := [.int r]) ⟨hx, hb, hml, hown, hts⟩ (c_X10_told l (D, cs, aR) hIR _ σR _ hw) (cwV 1 hts gL_law_X10_told rfl rfl rfl (by decide +kernel) ⟨Nat.le_of_ble_eq_true rfl, Nat.le_of_ble_eq_true rfl⟩) hK hPR hS hR rfl hl.1 rfl (Nat.le_of_ble_eq_true rfl) dL_law_658 ⟨Nat.le_of_ble_eq_true rfl, Nat.le_of_ble_eq_true rfl⟩ (fun r2 σR H locs hw hPR hk hS => ?_)
  have hPC := ft_keep hPC hk hne
  exact lv_icmp_eq (tgt := 680) hx hb dL_law_661 (by decide) (fun _ => kk _ _ _ _ hw.2 ⟨hPC, hPR, hS⟩) (fun h => absurd hw.1 h)
set_option maxHeartbeats 4000000 in
set_option maxRecDepth 100000 in
theorem lc_digest {p : Program} {l : Launch} {e : Env} {s : State} {m : MethodId} {below : List Frame} {meth : Method} {c : Code} {b L : Nat} {xs : Nat → Int32} {D : va_G} {cs : ClassId × ClassId × ClassId × ClassId} {aC aR : Nat → Nat} {Q : State → Prop} (E : LE p s m meth c b L xs D cs aC aR) {x3 : Int32} {σC σR : ft_St} {H : Heap} {locs : List Loc} {ls : Array Slot} (hsim : SIM σC σR) (hw : LW s D cs aC aR σC σR H locs) (h1 : vp_in (x3 + 1) L) (h2 : vp_in (x3 + 2) L) (h3 : vp_in (x3 + 3) L) (hl : lv_has ls 4 [(3, .int x3), (2, .ref (aR 0)), (1, .ref (aC 0)), (0, .ref b)]) (kk : ∀ (σC σR : ft_St) (H : Heap) (locs : List Loc), SIM σC σR → LW s D cs aC aR σC σR H locs → W p l e room_1 s m #[Value.ref b] below meth c H locs 96 5813 Q (F0 m 680 ls [])) : W p l e room_1 s m #[Value.ref b] below meth c H locs 96 5813 Q (F0 m 666 ls []) := by
  obtain ⟨hx, hb, hr, hml, hown, hts, hX, hbl, hlocks, hK, hN, hIC, hIR, hC, hR, hne⟩ := E
  obtain ⟨hPC, hPR, hS⟩ := hw
  have hbA : ¬ (fun q : Nat => s.heap.size ≤ q) b := Nat.not_le.mpr hbl
  refine lv_aload_n hx hb dL_law_666 rfl (lv_at hl 2 rfl) ?_
  refine cC_Gl (Γ := (D, cs, aC)) (As := []) (rest := []) ⟨hx, hb, hml, hown, hts⟩ (c_X9_digest l (D, cs, aC) hIC  σC _ (s_digest hsim)) (cwV 0 hts gL_law_X9_digest rfl rfl rfl (by decide +kernel) ⟨Nat.le_of_ble_eq_true rfl, Nat.le_of_ble_eq_true rfl⟩) hK hN hPC hS hC rfl hl.1 rfl (Nat.le_of_ble_eq_true rfl) dL_law_667 ⟨Nat.le_of_ble_eq_true rfl, Nat.le_of_ble_eq_true rfl⟩ (fun r σC H locs hw hPC hk hS => ?_)
  have hPR := ft_keep hPR hk (fun i j hi hj e => hne j i hj hi e.symm)
  refine lv_aload_n hx hb dL_law_670 rfl (lv_at hl 1 rfl) ?_
  refine cR_Gl (Γ := (D, cs, aR)) (As := []) (rest := [.long r]) ⟨hx, hb, hml, hown, hts⟩ (c_X10_digest l (D, cs, aR) hIR  σR _ hw) (cwV 0 hts gL_law_X10_digest rfl rfl rfl (by decide +kernel) ⟨Nat.le_of_ble_eq_true rfl, Nat.le_of_ble_eq_true rfl⟩) hK hPR hS hR rfl hl.1 rfl (Nat.le_of_ble_eq_true rfl) dL_law_671 ⟨Nat.le_of_ble_eq_true rfl, Nat.le_of_ble_eq_true rfl⟩ (fun r2 σR H locs hw hPR hk hS => ?_)
  have hPC := ft_keep hPC hk hne
  refine W.lcmp hx hb dL_law_674 ?_
  exact lv_if_eq (tgt := 680) hx hb dL_law_675 (by decide) (fun _ => kk _ _ _ _ hw.2 ⟨hPC, hPR, hS⟩) (fun h => absurd ((lg_cmp_eq _ _).mpr hw.1) h)
