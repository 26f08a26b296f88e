set_option maxHeartbeats 8000000 in
set_option maxRecDepth 100000 in
theorem whole_start {p : Program} {e : Env} {s : State} {m : MethodId} {below : List Frame} {meth : Method} {c : Code} (l : Launch) (hflags : l.flags = flags0) {b L : Nat} {xs : Nat → Int32} (hL : L ≤ 2048) (C0 : lw_At p s m meth c b L xs) : W p l e room_1 s m #[Value.ref b] below meth c s.heap [] 0 0 (lw_Z below #[Value.ref b] s) (entryFrame m ([Value.ref b] : List Value).toArray 4) := by
  obtain ⟨hx, hb, hr, hml, hown, hts0, hX, hbl, hlocks, hgv⟩ := id C0
  have hb : c.code = cL_law := hb
  have hown : s.vm.findClass RL = some m.cls := hown
  have hts : ∀ w ∈ lw_tbl, w.before #[Value.ref b] s = true := hts0
  have hA : ∀ q : Nat, s.heap.size ≤ q → (fun q : Nat => s.heap.size ≤ q) q := fun _ h => h
  have hbA : ¬ (fun q : Nat => s.heap.size ≤ q) b := Nat.not_le.mpr hbl
  have hNest : ft_Nest s := ⟨va_AO.of (hts0 (.arrayOver (.object "FaultTwins$State")) (List.mem_of_getElem? (i := 177) rfl)), va_Nw.of rfl (hts0 (.methodLinkNest RX9 11 yX4_init RX9) (List.mem_of_getElem? (i := 97) rfl)), va_Nw.of rfl (hts0 (.methodLinkNest RX9 25 yX7_init RX9) (List.mem_of_getElem? (i := 192) rfl)), va_Nw.of rfl (hts0 (.methodLinkNest RX9 32 yX3_init RX9) (List.mem_of_getElem? (i := 209) rfl)), va_Nw.of rfl (hts0 (.methodLinkNest RX9 39 yX6_init RX9) (List.mem_of_getElem? (i := 229) rfl)), va_Nw.of rfl (hts0 (.methodLinkNest RX9 49 yX5_init RX9) (List.mem_of_getElem? (i := 262) rfl)), va_Nw.of rfl (hts0 (.methodLinkNest RX9 56 yX2_init RX9) (List.mem_of_getElem? (i := 279) rfl)), va_Nw.of rfl (hts0 (.methodLinkNest RX0 17 yX4_init RX9) (List.mem_of_getElem? (i := 178) rfl)), va_Nw.of rfl (hts0 (.methodLinkNest RX4 9 yX1_init RX9) (List.mem_of_getElem? (i := 103) rfl)), va_Nw.of rfl (hts0 (.methodLinkNest RX4 18 yX8_init RX9) (List.mem_of_getElem? (i := 144) rfl)), va_Nw.of rfl (hts0 (.methodLinkNest RX2 11 yX1_init RX9) (List.mem_of_getElem? (i := 284) rfl)), va_Nw.of rfl (hts0 (.methodLinkNest RX3 46 yX9_verdict RX9) (List.mem_of_getElem? (i := 575) rfl))⟩
  obtain ⟨D, cs, hK⟩ := ft_known hts hNest.1
  obtain ⟨Γ, hΓ⟩ : ∃ Γ : ft_G, Γ = (D, cs, fun _ => 0) := ⟨_, rfl⟩
  have hK : va_K Γ.1 vwCl (ft_ty Γ) s := by rw [hΓ]; exact hK
  clear hΓ
  have hS : va_S (fun q : Nat => s.heap.size ≤ q) s.heap s.heap [] := va_S.rf
  have hP : va_P Γ.1 vwCl [] s.heap := fun k q h => by simp at h
  have hD : va_D (fun q : Nat => s.heap.size ≤ q) [] := ⟨fun i j p q h => by simp at h, fun k q h => by simp at h⟩
  have hl := lv_entry ([.ref b]) (n := 4) (Nat.le_of_ble_eq_true rfl)
  rw [lg_entry_eq]
  generalize (lg_sl ([.ref b]) ++ List.replicate (4 - (lg_sl ([.ref b])).length) Slot.unset).toArray = ls at hl ⊢
  have hl : lv_has ls 4 [(0, .ref b)] := hl
  refine va_new (D := Γ.1) (ci := 9) (fs := [.null, .null, .null, .null, .null, .null, .null, .null, .int 0, .int 0, .int 0, .int 0, .int 0, .int 0, .int 0]) (C := RX9) (T := TX9) (N := 15) hx hb hts lwi_X9 tyX9 tyX9_ok hown (hts (.classLink RL 7 RX9) (lwi_r1 _ (List.mem_of_getElem? (i := 0) rfl))) (hts (.instantiable RX9 15) (lwi_r1 _ (List.mem_of_getElem? (i := 1) rfl))) (hts (.initialized RX9) (lwi_r1 _ (List.mem_of_getElem? (i := 2) rfl))) hK hP hD hS hA rfl (by decide +kernel) (Nat.le_of_ble_eq_true rfl) (Nat.le_of_ble_eq_true rfl) dL_law_0 (fun q0 H hP hD hS => ?_)
  refine lv_dup hx hb dL_law_3 rfl ?_
  have hPc := ft_lastP hP
  have hDc := ft_lastD hD
  have hFc := ft_lastF hD hS hA
  refine va_callv (va_runI (As := []) (rest := [.ref q0]) ⟨hx, hb, hml, hown, hts⟩ (k_X9_init l Γ q0 H.size) (cwI 0 hts gL_law_X9_init rfl rfl rfl (hts (.initialized RX9) (lwi_r1 _ (List.mem_of_getElem? (i := 2) rfl))) (hts (.methodLink RL 9 yX9_init) (lwi_r1 _ (List.mem_of_getElem? (i := 6) rfl))) (hts (.instanceMethod yX9_init) (lwi_r1 _ (List.mem_of_getElem? (i := 7) rfl))) rfl (by decide +kernel) ⟨Nat.le_of_ble_eq_true rfl, Nat.le_of_ble_eq_true rfl⟩) ⟨fun a U g mk q => by obtain ⟨q0, q1, qP, qK, qD, qN⟩ := q; exact ⟨q0, q1, qP, va_K.moved (u := U) (U := U.calling g mk a) (Vm.Alike.refl U.vm) qK, qD, qN.same rfl⟩, fun U hU hW => ⟨rfl, by rw [hU], by rw [hU]; exact hPc, va_K.moved hW.alike hK, hDc.weaken (fun _ _ _ _ => trivial), hNest.warm hW⟩⟩ rfl rfl hl.1 rfl (lv_room (Nat.le_of_ble_eq_true rfl)) dL_law_4 ⟨Nat.le_of_ble_eq_true rfl, Nat.le_of_ble_eq_true rfl⟩) hS (fun q _ h => hFc q h) hFc (fun a t H1 locs ht hvm h5 hB hz1 hk1 hS => ?_)
  obtain ⟨aC, σC⟩ := a
  obtain ⟨e0, hIC, hC0, hRep⟩ := h5
  have hIC : ft_I 80 aC := hIC
  have hC : ∀ k, k < 80 → s.heap.size ≤ aC k := fun k hk => hFc _ (hC0 k hk)
  have hRep : RepC σC A00 := hRep
  have hB : va_P Γ.1 vwCl (ft_W 80 aC (cC_E (Γ.1, Γ.2.1, aC) σC)) t.heap := hB
  rw [ht] at hB
  have e0 : aC 0 = q0 := e0
  clear hPc hDc hFc hP hD hC0 hk1 hz1
  subst e0
  have hD2 : va_D (fun q : Nat => s.heap.size ≤ q) (ft_W 80 aC (cC_E (Γ.1, Γ.2.1, aC) σC)) := (ft_W_D hIC).weaken (fun k q hk h => by obtain ⟨j, hj, e⟩ := h; show s.heap.size ≤ q.1; rw [e]; exact hC j hj)
  refine W.widen (k := 80) (n := 3375) (Nat.le_of_ble_eq_true rfl) (Nat.le_of_ble_eq_true rfl) ?_
  refine lv_astore_n (lv' := [(1, .ref (aC 0)), (0, .ref b)]) hx hb dL_law_7 rfl hl (by decide) rfl (fun ls hl => ?_)
  refine va_new (D := Γ.1) (ci := 10) (fs := [.null, .int 0, .null, .null, .null, .int 0, .int 0, .int 0, .int 0, .null, .int 0, .null, .int 0, .null, .null, .null, .null, .null, .null, .null, .null, .null, .int 0, .int 0, .int 0]) (C := RX10) (T := TX10) (N := 25) hx hb hts lwi_X10 tyX10 tyX10_ok hown (hts (.classLink RL 10 RX10) (lwi_r1 _ (List.mem_of_getElem? (i := 3) rfl))) (hts (.instantiable RX10 25) (lwi_r1 _ (List.mem_of_getElem? (i := 4) rfl))) (hts (.initialized RX10) (lwi_r1 _ (List.mem_of_getElem? (i := 5) rfl))) hK hB hD2 hS hA rfl (by decide +kernel) (Nat.le_of_ble_eq_true rfl) (Nat.le_of_ble_eq_true rfl) dL_law_8 (fun q1 H hP hD hS => ?_)
  refine lv_dup hx hb dL_law_11 rfl ?_
  have hPc := ft_lastP hP
  have hDc := ft_lastD hD
  have hFc := ft_lastF hD hS hA
  refine va_callv (va_runI (As := []) (rest := [.ref q1]) ⟨hx, hb, hml, hown, hts⟩ (k_X10_init l Γ q1 H.size) (cwI 0 hts gL_law_X10_init rfl rfl rfl (hts (.initialized RX10) (lwi_r1 _ (List.mem_of_getElem? (i := 5) rfl))) (hts (.methodLink RL 12 yX10_init) (lwi_r7 _ (List.mem_of_getElem? (i := 16) rfl))) (hts (.instanceMethod yX10_init) (lwi_r7 _ (List.mem_of_getElem? (i := 17) rfl))) rfl (by decide +kernel) ⟨Nat.le_of_ble_eq_true rfl, Nat.le_of_ble_eq_true rfl⟩) ⟨fun a U g mk q => by obtain ⟨q0, q1, qP, qK, qD⟩ := q; exact ⟨q0, q1, qP, va_K.moved (u := U) (U := U.calling g mk a) (Vm.Alike.refl U.vm) qK, qD⟩, fun U hU hW => ⟨rfl, by rw [hU], by rw [hU]; exact hPc, va_K.moved hW.alike hK, hDc.weaken (fun _ _ _ _ => trivial)⟩⟩ rfl rfl hl.1 rfl (lv_room (Nat.le_of_ble_eq_true rfl)) dL_law_12 ⟨Nat.le_of_ble_eq_true rfl, Nat.le_of_ble_eq_true rfl⟩) hS (fun q _ h => hFc q h) hFc (fun a t H1 locs ht hvm h5 hB2 hz1 hk1 hS => ?_)
  obtain ⟨hP1, hD1⟩ := hB2
  rw [ht] at hP1
  obtain ⟨hPj, hDj⟩ := ft_lastJ hP hD hk1 hFc hP1 hD1
  have hPC : va_P Γ.1 vwCl (ft_W 80 aC (cC_E (Γ.1, Γ.2.1, aC) σC)) H1 := fun k q hk => hPj k q (by rw [List.getElem?_append_left (List.getElem?_eq_some_iff.mp hk).1]; exact hk)
  have hPR := ft_poolRP Γ a hP1
  obtain ⟨hIR, hR0⟩ := ft_adr (L := aRL a) rfl hD1
  have hIR : ft_I 16 (adR a) := hIR
  have hR : ∀ k, k < 16 → s.heap.size ≤ adR a k := fun k hk => hFc _ (hR0 k hk)
  have hne : ∀ i j, i < 80 → j < 16 → aC i ≠ adR a j := fun i j hi hj => ft_adr2 (L := aRL a) rfl hDj i j _ (ft_W_get hi) hj
  have e1 : adR a 0 = q1 := h5
  clear hPc hDc hFc hP hD hR0 hk1 hz1 hP1 hD1 hPj hDj h5
  generalize adR a = aR at hIR hR hne hPR e1
  subst e1
  refine W.widen (k := 96) (n := 5813) (Nat.le_of_ble_eq_true rfl) (Nat.le_of_ble_eq_true rfl) ?_
  refine lv_astore_n (lv' := [(2, .ref (aR 0)), (1, .ref (aC 0)), (0, .ref b)]) hx hb dL_law_15 rfl hl (by decide) rfl (fun ls hl => ?_)
  refine lv_iconst (v := 0) hx hb dL_law_16 (by decide) ?_
  refine lv_istore_n (lv' := [(3, .int 0), (2, .ref (aR 0)), (1, .ref (aC 0)), (0, .ref b)]) hx hb dL_law_17 rfl hl (by decide) rfl (fun ls hl => ?_)
  exact law_loop (D := Γ.1) (cs := Γ.2.1) (aC := aC) (aR := aR) hL ⟨hx, hb, hr, hml, hown, hts, hX, hbl, hlocks, hK, hNest.2.2.2.2.2.2.2.2.2.2.2, hIC, hIR, hC, hR, hne⟩ 2057 0 0 σC sR0 _ _ ls nI_0.symm (by omega) (by omega) ⟨A00, hRep, sR0_rep, A00_ok⟩ ⟨hPC, hPR, hS⟩ hl
