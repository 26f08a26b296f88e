/-- what the nest says -/
def ft_Nest (U : State) : Prop := va_AO "FaultTwins$State" U ∧ va_Nw (.methodLinkNest RX9 11 yX4_init RX9) U ∧ va_Nw (.methodLinkNest RX9 25 yX7_init RX9) U ∧ va_Nw (.methodLinkNest RX9 32 yX3_init RX9) U ∧ va_Nw (.methodLinkNest RX9 39 yX6_init RX9) U ∧ va_Nw (.methodLinkNest RX9 49 yX5_init RX9) U ∧ va_Nw (.methodLinkNest RX9 56 yX2_init RX9) U ∧ va_Nw (.methodLinkNest RX0 17 yX4_init RX9) U ∧ va_Nw (.methodLinkNest RX4 9 yX1_init RX9) U ∧ va_Nw (.methodLinkNest RX4 18 yX8_init RX9) U ∧ va_Nw (.methodLinkNest RX2 11 yX1_init RX9) U ∧ va_Nw (.methodLinkNest RX3 46 yX9_verdict RX9) U
def wC0 (h0 : Nat) : va_W := [(h0, .inr (9, [.null, .null, .null, .null, .null, .null, .null, .null, .int 0, .int 0, .int 0, .int 0, .int 0, .int 0, .int 0]))]
set_option maxHeartbeats 16000000 in
set_option maxRecDepth 100000 in
theorem k_X9_init (l : Launch) (Γ : ft_G) (h0 : Nat) (sz : Nat) : Met l yX9_init wsX9_init ({ frames := 6, cells := 79, slots := 3360, locals := 140 }) (va_Pc [.ref h0] (fun U => U.heap.size = sz ∧ va_P Γ.1 vwCl (wC0 h0) U.heap ∧ va_K Γ.1 vwCl (ft_ty Γ) U ∧ va_D (fun _ => True) (wC0 h0) ∧ ft_Nest U)) (va_Qv (fun a : (Nat → Nat) × ft_St => a.1 0 = h0 ∧ ft_I 80 a.1 ∧ (∀ k, k < 80 → va_A (wC0 h0) sz (a.1 k)) ∧ RepC a.2 A00) (fun a t => va_P Γ.1 vwCl (ft_W 80 a.1 (cC_E (Γ.1, Γ.2.1, a.1) a.2)) t.heap) (va_A (wC0 h0) sz)) 79 3360 (va_A (wC0 h0) sz) := by
  refine Met.ofW (cc := cX9_init) (maxL := 1) (ret := none) (by decide) rfl ?_
  intro p e s m args below meth c s₁ B hml hv
  obtain ⟨rfl, hsz, hP, hK, hD0, hAO, hN9_11, hN9_25, hN9_32, hN9_39, hN9_49, hN9_56, hNRX0_17, hNRX4_9, hNRX4_18, hNRX2_11, hNRX3_46⟩ := hv
  have hx := B.exec
  have hb := B.bytes
  have hr := B.returns
  have hts := atoms_spec (ws := wsX9_init) B.pre
  have hown : s.vm.findClass RX9 = some m.cls := findClass_of_methodNamed B.named
  have hin : meth.name = "<init>" := (name_of_methodNamed B.named B.method).1
  subst hsz
  have hD := hD0.self (sz := s.heap.size)
  generalize hAe : va_A (wC0 h0) s.heap.size = A at hD ⊢
  have hA : ∀ q : Nat, s.heap.size ≤ q → A q := fun q h => by rw [← hAe]; exact Or.inr h
  have hS : va_S A s.heap s.heap [] := va_S.rf
  have hP : va_P Γ.1 vwCl ((h0, .inr (9, [.null, .null, .null, .null, .null, .null, .null, .null, .int 0, .int 0, .int 0, .int 0, .int 0, .int 0, .int 0])) :: []) s.heap := hP
  have hD : va_D A ((h0, .inr (9, [.null, .null, .null, .null, .null, .null, .null, .null, .int 0, .int 0, .int 0, .int 0, .int 0, .int 0, .int 0])) :: []) := hD
  have hl := lv_entry ([.ref h0]) (n := 1) (Nat.le_of_ble_eq_true rfl)
  rw [lg_entry_eq]
  generalize (lg_sl ([.ref h0]) ++ List.replicate (1 - (lg_sl ([.ref h0])).length) Slot.unset).toArray = ls at hl ⊢
  have hl : lv_has ls 1 [(0, .ref h0)] := hl
  refine lv_aload_n hx hb dX9_init_0 rfl (lv_at hl 0 rfl) ?_
  refine W.objInit hx hb hown (hts (.methodLink RX9 3 objectInit) (List.mem_of_getElem? (i := 1) rfl)) (hts (.instanceMethod objectInit) (List.mem_of_getElem? (i := 2) rfl)) (hts (.code objectInit ⟨#[0xb1]⟩ 1 none) (List.mem_of_getElem? (i := 3) rfl)) rfl (by rw [hml]; exact hl.1) rfl dX9_init_1 (Nat.le_of_ble_eq_true rfl) (Nat.le_of_ble_eq_true rfl) ?_
  refine W.eq (g2 := F0 m 4 ls []) rfl ?_
  have iX4 : ∀ w ∈ wsX40, w ∈ wsX9_init := (fun w h => List.mem_cons_of_mem _ (List.mem_append_left _ (List.mem_append_left _ (List.mem_append_left _ (List.mem_append_left _ (List.mem_append_left _ (List.mem_append_left _ (List.mem_append_left _ (List.mem_append_left _ (List.mem_append_left _ (List.mem_append_right _ h)))))))))))
  have iX9 : ∀ w ∈ wsX90, w ∈ wsX9_init := (fun w h => List.mem_cons_of_mem _ (List.mem_append_left _ (List.mem_append_left _ (List.mem_append_left _ (List.mem_append_left _ (List.mem_append_left _ (List.mem_append_left _ (List.mem_append_left _ (List.mem_append_left _ (List.mem_append_right _ h))))))))))
  have iX0 : ∀ w ∈ wsX00, w ∈ wsX9_init := (fun w h => List.mem_cons_of_mem _ (List.mem_append_left _ (List.mem_append_left _ (List.mem_append_left _ (List.mem_append_left _ (List.mem_append_left _ (List.mem_append_left _ (List.mem_append_left _ (List.mem_append_right _ h)))))))))
  have iX7 : ∀ w ∈ wsX70, w ∈ wsX9_init := (fun w h => List.mem_cons_of_mem _ (List.mem_append_left _ (List.mem_append_left _ (List.mem_append_left _ (List.mem_append_left _ (List.mem_append_left _ (List.mem_append_left _ (List.mem_append_right _ h))))))))
  have iX3 : ∀ w ∈ wsX30, w ∈ wsX9_init := (fun w h => List.mem_cons_of_mem _ (List.mem_append_left _ (List.mem_append_left _ (List.mem_append_left _ (List.mem_append_left _ (List.mem_append_left _ (List.mem_append_right _ h)))))))
  have iX6 : ∀ w ∈ wsX60, w ∈ wsX9_init := (fun w h => List.mem_cons_of_mem _ (List.mem_append_left _ (List.mem_append_left _ (List.mem_append_left _ (List.mem_append_left _ (List.mem_append_right _ h))))))
  have iX5 : ∀ w ∈ wsX50, w ∈ wsX9_init := (fun w h => List.mem_cons_of_mem _ (List.mem_append_left _ (List.mem_append_left _ (List.mem_append_left _ (List.mem_append_right _ h)))))
  have iX2 : ∀ w ∈ wsX20, w ∈ wsX9_init := (fun w h => List.mem_cons_of_mem _ (List.mem_append_left _ (List.mem_append_left _ (List.mem_append_right _ h))))
  have iX1 : ∀ w ∈ wsX10, w ∈ wsX9_init := (fun w h => List.mem_cons_of_mem _ (List.mem_append_left _ (List.mem_append_right _ h)))
  have iX8 : ∀ w ∈ wsX80, w ∈ wsX9_init := (fun w h => List.mem_cons_of_mem _ (List.mem_append_right _ h))
  refine lv_aload_n hx hb dX9_init_4 rfl (lv_at hl 0 rfl) ?_
  refine va_new (ci := 4) (fs := [.null, .null]) (C := RX4) (T := TX4) (N := 2) hx hb hts iX4 tyX4 tyX4_ok hown (hts (.classLink RX9 9 RX4) (List.mem_of_getElem? (i := 4) rfl)) (hts (.instantiable RX4 2) (List.mem_of_getElem? (i := 5) rfl)) (hts (.initialized RX4) (List.mem_of_getElem? (i := 6) rfl)) hK hP hD hS hA rfl (by decide +kernel) (by decide) (by decide) dX9_init_5 (fun q5 H hP hD hS => ?_)
  refine lv_dup hx hb dX9_init_8 rfl ?_
  have hPc := ft_lastP hP
  have hDc := ft_lastD hD
  have hFc := ft_lastF hD hS hA
  refine va_callv (va_runIN (As := []) (rest := [.ref q5, .ref h0]) ⟨hx, hb, hml, hown, hts⟩ (k_X4_init l Γ q5 H.size) ⟨va_cnB 0 hts gX9_init_X4_init_n11 rfl rfl rfl hN9_11 (hts (.initialized RX4) (List.mem_of_getElem? (i := 6) rfl)) (by decide +kernel) ⟨Nat.le_of_ble_eq_true rfl, Nat.le_of_ble_eq_true rfl⟩, rfl, (hts (.instanceMethod yX4_init) (List.mem_of_getElem? (i := 33) rfl))⟩ ⟨fun a U g mk q => by obtain ⟨q0, q1, qP, qK, qD, n0, n1⟩ := q; exact ⟨q0, q1, qP, va_K.moved (u := U) (U := U.calling g mk a) (Vm.Alike.refl U.vm) qK, qD, va_Nw.same rfl (show U.vm = (U.calling g mk a).vm from rfl) n0, va_Nw.same rfl (show U.vm = (U.calling g mk a).vm from rfl) n1⟩, fun U hU hW => ⟨rfl, by rw [hU], by rw [hU]; exact hPc, va_K.moved hW.alike hK, hDc.weaken (fun _ _ _ _ => trivial), va_Nw.warmM hW hNRX4_9, va_Nw.warmM hW hNRX4_18⟩⟩ rfl rfl hl.1 rfl (lv_room (Nat.le_of_ble_eq_true rfl)) dX9_init_9 ⟨by decide, by decide⟩) hS (fun q _ h => hFc q h) hFc (fun a5 t H1 locs ht hvm h5 hB hz1 hk1 hS => ?_)
  obtain ⟨hP1, hD1⟩ := hB
  rw [ht] at hP1
  obtain ⟨hPj, hDj⟩ := ft_lastJ hP hD hk1 hFc hP1 hD1
  clear hPc hDc hFc hP1 hD1 hk1 hz1 hP hD
  have h5 : a5 0 = q5 := h5
  subst h5
  generalize H1 = H at hPj hS ⊢
  have hP : va_P Γ.1 vwCl ((h0, .inr (9, [.null, .null, .null, .null, .null, .null, .null, .null, .int 0, .int 0, .int 0, .int 0, .int 0, .int 0, .int 0])) :: wSt Γ a5) H := hPj
  have hD : va_D A ((h0, .inr (9, [.null, .null, .null, .null, .null, .null, .null, .null, .int 0, .int 0, .int 0, .int 0, .int 0, .int 0, .int 0])) :: wSt Γ a5) := hDj
  clear hPj hDj
  refine va_putF (D := Γ.1) (ci := 9) (v := .ref (a5 0)) (ty := .object "FaultTwins$State") (C := RX9) (T := TX9) (N := 15) hx hb hts iX9 tyX9 tyX9_ok nmX9 hown hK hP hD hS 0 rfl rfl 0 (by decide) (hts (.fieldLink RX9 12 "FaultTwins" "now" "LFaultTwins$State;") (List.mem_of_getElem? (i := 7) rfl)) (fun _ h9 => h9) rfl hin rfl (by decide +kernel) rfl rfl (Nat.le_of_ble_eq_true rfl) dX9_init_12 (fun H locs hP hD hS => ?_)
  have hP : va_P Γ.1 vwCl ((h0, .inr (9, [.ref (a5 0), .null, .null, .null, .null, .null, .null, .null, .int 0, .int 0, .int 0, .int 0, .int 0, .int 0, .int 0])) :: wSt Γ a5) H := hP
  have hD : va_D A ((h0, .inr (9, [.ref (a5 0), .null, .null, .null, .null, .null, .null, .null, .int 0, .int 0, .int 0, .int 0, .int 0, .int 0, .int 0])) :: wSt Γ a5) := hD
  refine lv_aload_n hx hb dX9_init_15 rfl (lv_at hl 0 rfl) ?_
  refine va_new (ci := 0) (fs := [.null, .int 0, .int 0]) (C := RX0) (T := TX0) (N := 3) hx hb hts iX0 tyX0 tyX0_ok hown (hts (.classLink RX9 16 RX0) (List.mem_of_getElem? (i := 8) rfl)) (hts (.instantiable RX0 3) (List.mem_of_getElem? (i := 9) rfl)) (hts (.initialized RX0) (List.mem_of_getElem? (i := 10) rfl)) hK hP hD hS hA rfl (by decide +kernel) (by decide) (by decide) dX9_init_16 (fun q16 H hP hD hS => ?_)
  refine lv_dup hx hb dX9_init_19 rfl ?_
  have hPc := ft_lastP hP
  have hDc := ft_lastD hD
  have hFc := ft_lastF hD hS hA
  refine va_callv (va_runI (As := []) (rest := [.ref q16, .ref h0]) ⟨hx, hb, hml, hown, hts⟩ (k_X0_init l Γ q16 H.size) (cwI 0 hts gX9_init_X0_init rfl rfl rfl (hts (.initialized RX0) (List.mem_of_getElem? (i := 10) rfl)) (hts (.methodLink RX9 18 yX0_init) (List.mem_of_getElem? (i := 56) rfl)) (hts (.instanceMethod yX0_init) (List.mem_of_getElem? (i := 57) rfl)) rfl (by decide +kernel) ⟨Nat.le_of_ble_eq_true rfl, Nat.le_of_ble_eq_true rfl⟩) ⟨fun a U g mk q => by obtain ⟨q0, q1, qP, qK, qD, n0, n1, n2, n3⟩ := q; exact ⟨q0, q1, qP, va_K.moved (u := U) (U := U.calling g mk a) (Vm.Alike.refl U.vm) qK, qD, va_AO.moved (u := U) (U := U.calling g mk a) (Vm.Alike.refl U.vm) n0, va_Nw.same rfl (show U.vm = (U.calling g mk a).vm from rfl) n1, va_Nw.same rfl (show U.vm = (U.calling g mk a).vm from rfl) n2, va_Nw.same rfl (show U.vm = (U.calling g mk a).vm from rfl) n3⟩, fun U hU hW => ⟨rfl, by rw [hU], by rw [hU]; exact hPc, va_K.moved hW.alike hK, hDc.weaken (fun _ _ _ _ => trivial), va_AO.moved hW.alike hAO, va_Nw.warmM hW hNRX0_17, va_Nw.warmM hW hNRX4_9, va_Nw.warmM hW hNRX4_18⟩⟩ rfl rfl hl.1 rfl (lv_room (Nat.le_of_ble_eq_true rfl)) dX9_init_20 ⟨by decide, by decide⟩) hS (fun q _ h => hFc q h) hFc (fun a16 t H1 locs ht hvm h5 hB hz1 hk1 hS => ?_)
  obtain ⟨hP1, hD1⟩ := hB
  rw [ht] at hP1
  obtain ⟨hPj, hDj⟩ := ft_lastJ hP hD hk1 hFc hP1 hD1
  clear hPc hDc hFc hP1 hD1 hk1 hz1 hP hD
  generalize H1 = H at hPj hS ⊢
  have hP : va_P Γ.1 vwCl ((h0, .inr (9, [.ref (a5 0), .null, .null, .null, .null, .null, .null, .null, .int 0, .int 0, .int 0, .int 0, .int 0, .int 0, .int 0])) :: (wSt Γ a5 ++ wHis Γ q16 a16.1 a16.2)) H := hPj
  have hD : va_D A ((h0, .inr (9, [.ref (a5 0), .null, .null, .null, .null, .null, .null, .null, .int 0, .int 0, .int 0, .int 0, .int 0, .int 0, .int 0])) :: (wSt Γ a5 ++ wHis Γ q16 a16.1 a16.2)) := hDj
  clear hPj hDj
  refine va_putF (D := Γ.1) (ci := 9) (v := .ref (q16)) (ty := .object "FaultTwins$History") (C := RX9) (T := TX9) (N := 15) hx hb hts iX9 tyX9 tyX9_ok nmX9 hown hK hP hD hS 0 rfl rfl 1 (by decide) (hts (.fieldLink RX9 19 "FaultTwins" "history" "LFaultTwins$History;") (List.mem_of_getElem? (i := 11) rfl)) (fun _ h9 => h9) rfl hin rfl (by decide +kernel) rfl rfl (Nat.le_of_ble_eq_true rfl) dX9_init_23 (fun H locs hP hD hS => ?_)
  have hP : va_P Γ.1 vwCl ((h0, .inr (9, [.ref (a5 0), .ref (q16), .null, .null, .null, .null, .null, .null, .int 0, .int 0, .int 0, .int 0, .int 0, .int 0, .int 0])) :: (wSt Γ a5 ++ wHis Γ q16 a16.1 a16.2)) H := hP
  have hD : va_D A ((h0, .inr (9, [.ref (a5 0), .ref (q16), .null, .null, .null, .null, .null, .null, .int 0, .int 0, .int 0, .int 0, .int 0, .int 0, .int 0])) :: (wSt Γ a5 ++ wHis Γ q16 a16.1 a16.2)) := hD
  refine lv_aload_n hx hb dX9_init_26 rfl (lv_at hl 0 rfl) ?_
  refine va_new (ci := 7) (fs := [.null, .null, .int 0]) (C := RX7) (T := TX7) (N := 3) hx hb hts iX7 tyX7 tyX7_ok hown (hts (.classLink RX9 23 RX7) (List.mem_of_getElem? (i := 12) rfl)) (hts (.instantiable RX7 3) (List.mem_of_getElem? (i := 13) rfl)) (hts (.initialized RX7) (List.mem_of_getElem? (i := 14) rfl)) hK hP hD hS hA rfl (by decide +kernel) (by decide) (by decide) dX9_init_27 (fun q27 H hP hD hS => ?_)
  refine lv_dup hx hb dX9_init_30 rfl ?_
  have hPc := ft_lastP hP
  have hDc := ft_lastD hD
  have hFc := ft_lastF hD hS hA
  refine va_callv (va_runIN (As := []) (rest := [.ref q27, .ref h0]) ⟨hx, hb, hml, hown, hts⟩ (k_X7_init l Γ q27 H.size) ⟨va_cnB 0 hts gX9_init_X7_init_n25 rfl rfl rfl hN9_25 (hts (.initialized RX7) (List.mem_of_getElem? (i := 14) rfl)) (by decide +kernel) ⟨Nat.le_of_ble_eq_true rfl, Nat.le_of_ble_eq_true rfl⟩, rfl, (hts (.instanceMethod yX7_init) (List.mem_of_getElem? (i := 62) rfl))⟩ ⟨fun a U g mk q => by obtain ⟨q0, q1, qP, qK, qD⟩ := q; exact ⟨q0, q1, qP, va_K.moved (u := U) (U := U.calling g mk a) (Vm.Alike.refl U.vm) qK, qD⟩, fun U hU hW => ⟨rfl, by rw [hU], by rw [hU]; exact hPc, va_K.moved hW.alike hK, hDc.weaken (fun _ _ _ _ => trivial)⟩⟩ rfl rfl hl.1 rfl (lv_room (Nat.le_of_ble_eq_true rfl)) dX9_init_31 ⟨by decide, by decide⟩) hS (fun q _ h => hFc q h) hFc (fun a27 t H1 locs ht hvm h5 hB hz1 hk1 hS => ?_)
  obtain ⟨hP1, hD1⟩ := hB
  rw [ht] at hP1
  obtain ⟨hPj, hDj⟩ := ft_lastJ hP hD hk1 hFc hP1 hD1
  clear hPc hDc hFc hP1 hD1 hk1 hz1 hP hD
  have h5 : a27 0 = q27 := h5
  subst h5
  generalize H1 = H at hPj hS ⊢
  have hP : va_P Γ.1 vwCl ((h0, .inr (9, [.ref (a5 0), .ref (q16), .null, .null, .null, .null, .null, .null, .int 0, .int 0, .int 0, .int 0, .int 0, .int 0, .int 0])) :: ((wSt Γ a5 ++ wHis Γ q16 a16.1 a16.2) ++ wView Γ a27)) H := hPj
  have hD : va_D A ((h0, .inr (9, [.ref (a5 0), .ref (q16), .null, .null, .null, .null, .null, .null, .int 0, .int 0, .int 0, .int 0, .int 0, .int 0, .int 0])) :: ((wSt Γ a5 ++ wHis Γ q16 a16.1 a16.2) ++ wView Γ a27)) := hDj
  clear hPj hDj
  refine va_putF (D := Γ.1) (ci := 9) (v := .ref (a27 0)) (ty := .object "FaultTwins$View") (C := RX9) (T := TX9) (N := 15) hx hb hts iX9 tyX9 tyX9_ok nmX9 hown hK hP hD hS 0 rfl rfl 2 (by decide) (hts (.fieldLink RX9 26 "FaultTwins" "view" "LFaultTwins$View;") (List.mem_of_getElem? (i := 15) rfl)) (fun _ h9 => h9) rfl hin rfl (by decide +kernel) rfl rfl (Nat.le_of_ble_eq_true rfl) dX9_init_34 (fun H locs hP hD hS => ?_)
  have hP : va_P Γ.1 vwCl ((h0, .inr (9, [.ref (a5 0), .ref (q16), .ref (a27 0), .null, .null, .null, .null, .null, .int 0, .int 0, .int 0, .int 0, .int 0, .int 0, .int 0])) :: ((wSt Γ a5 ++ wHis Γ q16 a16.1 a16.2) ++ wView Γ a27)) H := hP
  have hD : va_D A ((h0, .inr (9, [.ref (a5 0), .ref (q16), .ref (a27 0), .null, .null, .null, .null, .null, .int 0, .int 0, .int 0, .int 0, .int 0, .int 0, .int 0])) :: ((wSt Γ a5 ++ wHis Γ q16 a16.1 a16.2) ++ wView Γ a27)) := hD
  refine lv_aload_n hx hb dX9_init_37 rfl (lv_at hl 0 rfl) ?_
  refine va_new (ci := 3) (fs := [.null, .null, .null, .int 0]) (C := RX3) (T := TX3) (N := 4) hx hb hts iX3 tyX3 tyX3_ok hown (hts (.classLink RX9 30 RX3) (List.mem_of_getElem? (i := 16) rfl)) (hts (.instantiable RX3 4) (List.mem_of_getElem? (i := 17) rfl)) (hts (.initialized RX3) (List.mem_of_getElem? (i := 18) rfl)) hK hP hD hS hA rfl (by decide +kernel) (by decide) (by decide) dX9_init_38 (fun q38 H hP hD hS => ?_)
  refine lv_dup hx hb dX9_init_41 rfl ?_
  have hPc := ft_lastP hP
  have hDc := ft_lastD hD
  have hFc := ft_lastF hD hS hA
  refine va_callv (va_runIN (As := []) (rest := [.ref q38, .ref h0]) ⟨hx, hb, hml, hown, hts⟩ (k_X3_init l Γ q38 H.size) ⟨va_cnB 0 hts gX9_init_X3_init_n32 rfl rfl rfl hN9_32 (hts (.initialized RX3) (List.mem_of_getElem? (i := 18) rfl)) (by decide +kernel) ⟨Nat.le_of_ble_eq_true rfl, Nat.le_of_ble_eq_true rfl⟩, rfl, (hts (.instanceMethod yX3_init) (List.mem_of_getElem? (i := 67) rfl))⟩ ⟨fun a U g mk q => by obtain ⟨q0, q1, qP, qK, qD⟩ := q; exact ⟨q0, q1, qP, va_K.moved (u := U) (U := U.calling g mk a) (Vm.Alike.refl U.vm) qK, qD⟩, fun U hU hW => ⟨rfl, by rw [hU], by rw [hU]; exact hPc, va_K.moved hW.alike hK, hDc.weaken (fun _ _ _ _ => trivial)⟩⟩ rfl rfl hl.1 rfl (lv_room (Nat.le_of_ble_eq_true rfl)) dX9_init_42 ⟨by decide, by decide⟩) hS (fun q _ h => hFc q h) hFc (fun a38 t H1 locs ht hvm h5 hB hz1 hk1 hS => ?_)
  obtain ⟨hP1, hD1⟩ := hB
  rw [ht] at hP1
  obtain ⟨hPj, hDj⟩ := ft_lastJ hP hD hk1 hFc hP1 hD1
  clear hPc hDc hFc hP1 hD1 hk1 hz1 hP hD
  have h5 : a38 0 = q38 := h5
  subst h5
  generalize H1 = H at hPj hS ⊢
  have hP : va_P Γ.1 vwCl ((h0, .inr (9, [.ref (a5 0), .ref (q16), .ref (a27 0), .null, .null, .null, .null, .null, .int 0, .int 0, .int 0, .int 0, .int 0, .int 0, .int 0])) :: (((wSt Γ a5 ++ wHis Γ q16 a16.1 a16.2) ++ wView Γ a27) ++ wSets Γ a38)) H := hPj
  have hD : va_D A ((h0, .inr (9, [.ref (a5 0), .ref (q16), .ref (a27 0), .null, .null, .null, .null, .null, .int 0, .int 0, .int 0, .int 0, .int 0, .int 0, .int 0])) :: (((wSt Γ a5 ++ wHis Γ q16 a16.1 a16.2) ++ wView Γ a27) ++ wSets Γ a38)) := hDj
  clear hPj hDj
  refine va_putF (D := Γ.1) (ci := 9) (v := .ref (a38 0)) (ty := .object "FaultTwins$Sets") (C := RX9) (T := TX9) (N := 15) hx hb hts iX9 tyX9 tyX9_ok nmX9 hown hK hP hD hS 0 rfl rfl 3 (by decide) (hts (.fieldLink RX9 33 "FaultTwins" "sets" "LFaultTwins$Sets;") (List.mem_of_getElem? (i := 19) rfl)) (fun _ h9 => h9) rfl hin rfl (by decide +kernel) rfl rfl (Nat.le_of_ble_eq_true rfl) dX9_init_45 (fun H locs hP hD hS => ?_)
  have hP : va_P Γ.1 vwCl ((h0, .inr (9, [.ref (a5 0), .ref (q16), .ref (a27 0), .ref (a38 0), .null, .null, .null, .null, .int 0, .int 0, .int 0, .int 0, .int 0, .int 0, .int 0])) :: (((wSt Γ a5 ++ wHis Γ q16 a16.1 a16.2) ++ wView Γ a27) ++ wSets Γ a38)) H := hP
  have hD : va_D A ((h0, .inr (9, [.ref (a5 0), .ref (q16), .ref (a27 0), .ref (a38 0), .null, .null, .null, .null, .int 0, .int 0, .int 0, .int 0, .int 0, .int 0, .int 0])) :: (((wSt Γ a5 ++ wHis Γ q16 a16.1 a16.2) ++ wView Γ a27) ++ wSets Γ a38)) := hD
  refine lv_aload_n hx hb dX9_init_48 rfl (lv_at hl 0 rfl) ?_
  refine va_new (ci := 6) (fs := [.int 0, .null, .null, .null, .int 0, .null, .null, .null]) (C := RX6) (T := TX6) (N := 8) hx hb hts iX6 tyX6 tyX6_ok hown (hts (.classLink RX9 37 RX6) (List.mem_of_getElem? (i := 20) rfl)) (hts (.instantiable RX6 8) (List.mem_of_getElem? (i := 21) rfl)) (hts (.initialized RX6) (List.mem_of_getElem? (i := 22) rfl)) hK hP hD hS hA rfl (by decide +kernel) (by decide) (by decide) dX9_init_49 (fun q49 H hP hD hS => ?_)
  refine lv_dup hx hb dX9_init_52 rfl ?_
  have hPc := ft_lastP hP
  have hDc := ft_lastD hD
  have hFc := ft_lastF hD hS hA
  refine va_callv (va_runIN (As := []) (rest := [.ref q49, .ref h0]) ⟨hx, hb, hml, hown, hts⟩ (k_X6_init l Γ q49 H.size) ⟨va_cnB 0 hts gX9_init_X6_init_n39 rfl rfl rfl hN9_39 (hts (.initialized RX6) (List.mem_of_getElem? (i := 22) rfl)) (by decide +kernel) ⟨Nat.le_of_ble_eq_true rfl, Nat.le_of_ble_eq_true rfl⟩, rfl, (hts (.instanceMethod yX6_init) (List.mem_of_getElem? (i := 73) rfl))⟩ ⟨fun a U g mk q => by obtain ⟨q0, q1, qP, qK, qD⟩ := q; exact ⟨q0, q1, qP, va_K.moved (u := U) (U := U.calling g mk a) (Vm.Alike.refl U.vm) qK, qD⟩, fun U hU hW => ⟨rfl, by rw [hU], by rw [hU]; exact hPc, va_K.moved hW.alike hK, hDc.weaken (fun _ _ _ _ => trivial)⟩⟩ rfl rfl hl.1 rfl (lv_room (Nat.le_of_ble_eq_true rfl)) dX9_init_53 ⟨by decide, by decide⟩) hS (fun q _ h => hFc q h) hFc (fun a49 t H1 locs ht hvm h5 hB hz1 hk1 hS => ?_)
  obtain ⟨hP1, hD1⟩ := hB
  rw [ht] at hP1
  obtain ⟨hPj, hDj⟩ := ft_lastJ hP hD hk1 hFc hP1 hD1
  clear hPc hDc hFc hP1 hD1 hk1 hz1 hP hD
  have h5 : a49 0 = q49 := h5
  subst h5
  generalize H1 = H at hPj hS ⊢
  have hP : va_P Γ.1 vwCl ((h0, .inr (9, [.ref (a5 0), .ref (q16), .ref (a27 0), .ref (a38 0), .null, .null, .null, .null, .int 0, .int 0, .int 0, .int 0, .int 0, .int 0, .int 0])) :: ((((wSt Γ a5 ++ wHis Γ q16 a16.1 a16.2) ++ wView Γ a27) ++ wSets Γ a38) ++ wTw Γ a49)) H := hPj
  have hD : va_D A ((h0, .inr (9, [.ref (a5 0), .ref (q16), .ref (a27 0), .ref (a38 0), .null, .null, .null, .null, .int 0, .int 0, .int 0, .int 0, .int 0, .int 0, .int 0])) :: ((((wSt Γ a5 ++ wHis Γ q16 a16.1 a16.2) ++ wView Γ a27) ++ wSets Γ a38) ++ wTw Γ a49)) := hDj
  clear hPj hDj
  refine va_putF (D := Γ.1) (ci := 9) (v := .ref (a49 0)) (ty := .object "FaultTwins$Twins") (C := RX9) (T := TX9) (N := 15) hx hb hts iX9 tyX9 tyX9_ok nmX9 hown hK hP hD hS 0 rfl rfl 4 (by decide) (hts (.fieldLink RX9 40 "FaultTwins" "twins" "LFaultTwins$Twins;") (List.mem_of_getElem? (i := 23) rfl)) (fun _ h9 => h9) rfl hin rfl (by decide +kernel) rfl rfl (Nat.le_of_ble_eq_true rfl) dX9_init_56 (fun H locs hP hD hS => ?_)
  have hP : va_P Γ.1 vwCl ((h0, .inr (9, [.ref (a5 0), .ref (q16), .ref (a27 0), .ref (a38 0), .ref (a49 0), .null, .null, .null, .int 0, .int 0, .int 0, .int 0, .int 0, .int 0, .int 0])) :: ((((wSt Γ a5 ++ wHis Γ q16 a16.1 a16.2) ++ wView Γ a27) ++ wSets Γ a38) ++ wTw Γ a49)) H := hP
  have hD : va_D A ((h0, .inr (9, [.ref (a5 0), .ref (q16), .ref (a27 0), .ref (a38 0), .ref (a49 0), .null, .null, .null, .int 0, .int 0, .int 0, .int 0, .int 0, .int 0, .int 0])) :: ((((wSt Γ a5 ++ wHis Γ q16 a16.1 a16.2) ++ wView Γ a27) ++ wSets Γ a38) ++ wTw Γ a49)) := hD
  refine lv_aload_n hx hb dX9_init_59 rfl (lv_at hl 0 rfl) ?_
  refine va_new (ci := 6) (fs := [.int 0, .null, .null, .null, .int 0, .null, .null, .null]) (C := RX6) (T := TX6) (N := 8) hx hb hts iX6 tyX6 tyX6_ok hown (hts (.classLink RX9 37 RX6) (List.mem_of_getElem? (i := 20) rfl)) (hts (.instantiable RX6 8) (List.mem_of_getElem? (i := 21) rfl)) (hts (.initialized RX6) (List.mem_of_getElem? (i := 22) rfl)) hK hP hD hS hA rfl (by decide +kernel) (by decide) (by decide) dX9_init_60 (fun q60 H hP hD hS => ?_)
  refine lv_dup hx hb dX9_init_63 rfl ?_
  have hPc := ft_lastP hP
  have hDc := ft_lastD hD
  have hFc := ft_lastF hD hS hA
  refine va_callv (va_runIN (As := []) (rest := [.ref q60, .ref h0]) ⟨hx, hb, hml, hown, hts⟩ (k_X6_init l Γ q60 H.size) ⟨va_cnB 0 hts gX9_init_X6_init_n39 rfl rfl rfl hN9_39 (hts (.initialized RX6) (List.mem_of_getElem? (i := 22) rfl)) (by decide +kernel) ⟨Nat.le_of_ble_eq_true rfl, Nat.le_of_ble_eq_true rfl⟩, rfl, (hts (.instanceMethod yX6_init) (List.mem_of_getElem? (i := 73) rfl))⟩ ⟨fun a U g mk q => by obtain ⟨q0, q1, qP, qK, qD⟩ := q; exact ⟨q0, q1, qP, va_K.moved (u := U) (U := U.calling g mk a) (Vm.Alike.refl U.vm) qK, qD⟩, fun U hU hW => ⟨rfl, by rw [hU], by rw [hU]; exact hPc, va_K.moved hW.alike hK, hDc.weaken (fun _ _ _ _ => trivial)⟩⟩ rfl rfl hl.1 rfl (lv_room (Nat.le_of_ble_eq_true rfl)) dX9_init_64 ⟨by decide, by decide⟩) hS (fun q _ h => hFc q h) hFc (fun a60 t H1 locs ht hvm h5 hB hz1 hk1 hS => ?_)
  obtain ⟨hP1, hD1⟩ := hB
  rw [ht] at hP1
  obtain ⟨hPj, hDj⟩ := ft_lastJ hP hD hk1 hFc hP1 hD1
  clear hPc hDc hFc hP1 hD1 hk1 hz1 hP hD
  have h5 : a60 0 = q60 := h5
  subst h5
  generalize H1 = H at hPj hS ⊢
  have hP : va_P Γ.1 vwCl ((h0, .inr (9, [.ref (a5 0), .ref (q16), .ref (a27 0), .ref (a38 0), .ref (a49 0), .null, .null, .null, .int 0, .int 0, .int 0, .int 0, .int 0, .int 0, .int 0])) :: (((((wSt Γ a5 ++ wHis Γ q16 a16.1 a16.2) ++ wView Γ a27) ++ wSets Γ a38) ++ wTw Γ a49) ++ wTw Γ a60)) H := hPj
  have hD : va_D A ((h0, .inr (9, [.ref (a5 0), .ref (q16), .ref (a27 0), .ref (a38 0), .ref (a49 0), .null, .null, .null, .int 0, .int 0, .int 0, .int 0, .int 0, .int 0, .int 0])) :: (((((wSt Γ a5 ++ wHis Γ q16 a16.1 a16.2) ++ wView Γ a27) ++ wSets Γ a38) ++ wTw Γ a49) ++ wTw Γ a60)) := hDj
  clear hPj hDj
  refine va_putF (D := Γ.1) (ci := 9) (v := .ref (a60 0)) (ty := .object "FaultTwins$Twins") (C := RX9) (T := TX9) (N := 15) hx hb hts iX9 tyX9 tyX9_ok nmX9 hown hK hP hD hS 0 rfl rfl 5 (by decide) (hts (.fieldLink RX9 44 "FaultTwins" "trial" "LFaultTwins$Twins;") (List.mem_of_getElem? (i := 24) rfl)) (fun _ h9 => h9) rfl hin rfl (by decide +kernel) rfl rfl (Nat.le_of_ble_eq_true rfl) dX9_init_67 (fun H locs hP hD hS => ?_)
  have hP : va_P Γ.1 vwCl ((h0, .inr (9, [.ref (a5 0), .ref (q16), .ref (a27 0), .ref (a38 0), .ref (a49 0), .ref (a60 0), .null, .null, .int 0, .int 0, .int 0, .int 0, .int 0, .int 0, .int 0])) :: (((((wSt Γ a5 ++ wHis Γ q16 a16.1 a16.2) ++ wView Γ a27) ++ wSets Γ a38) ++ wTw Γ a49) ++ wTw Γ a60)) H := hP
  have hD : va_D A ((h0, .inr (9, [.ref (a5 0), .ref (q16), .ref (a27 0), .ref (a38 0), .ref (a49 0), .ref (a60 0), .null, .null, .int 0, .int 0, .int 0, .int 0, .int 0, .int 0, .int 0])) :: (((((wSt Γ a5 ++ wHis Γ q16 a16.1 a16.2) ++ wView Γ a27) ++ wSets Γ a38) ++ wTw Γ a49) ++ wTw Γ a60)) := hD
  refine lv_aload_n hx hb dX9_init_70 rfl (lv_at hl 0 rfl) ?_
  refine va_new (ci := 5) (fs := [.null, .int 0]) (C := RX5) (T := TX5) (N := 2) hx hb hts iX5 tyX5 tyX5_ok hown (hts (.classLink RX9 47 RX5) (List.mem_of_getElem? (i := 25) rfl)) (hts (.instantiable RX5 2) (List.mem_of_getElem? (i := 26) rfl)) (hts (.initialized RX5) (List.mem_of_getElem? (i := 27) rfl)) hK hP hD hS hA rfl (by decide +kernel) (by decide) (by decide) dX9_init_71 (fun q71 H hP hD hS => ?_)
  refine lv_dup hx hb dX9_init_74 rfl ?_
  have hPc := ft_lastP hP
  have hDc := ft_lastD hD
  have hFc := ft_lastF hD hS hA
  refine va_callv (va_runIN (As := []) (rest := [.ref q71, .ref h0]) ⟨hx, hb, hml, hown, hts⟩ (k_X5_init l Γ q71 H.size) ⟨va_cnB 0 hts gX9_init_X5_init_n49 rfl rfl rfl hN9_49 (hts (.initialized RX5) (List.mem_of_getElem? (i := 27) rfl)) (by decide +kernel) ⟨Nat.le_of_ble_eq_true rfl, Nat.le_of_ble_eq_true rfl⟩, rfl, (hts (.instanceMethod yX5_init) (List.mem_of_getElem? (i := 82) rfl))⟩ ⟨fun a U g mk q => by obtain ⟨q0, q1, qP, qK, qD⟩ := q; exact ⟨q0, q1, qP, va_K.moved (u := U) (U := U.calling g mk a) (Vm.Alike.refl U.vm) qK, qD⟩, fun U hU hW => ⟨rfl, by rw [hU], by rw [hU]; exact hPc, va_K.moved hW.alike hK, hDc.weaken (fun _ _ _ _ => trivial)⟩⟩ rfl rfl hl.1 rfl (lv_room (Nat.le_of_ble_eq_true rfl)) dX9_init_75 ⟨by decide, by decide⟩) hS (fun q _ h => hFc q h) hFc (fun a71 t H1 locs ht hvm h5 hB hz1 hk1 hS => ?_)
  obtain ⟨hP1, hD1⟩ := hB
  rw [ht] at hP1
  obtain ⟨hPj, hDj⟩ := ft_lastJ hP hD hk1 hFc hP1 hD1
  clear hPc hDc hFc hP1 hD1 hk1 hz1 hP hD
  have h5 : a71 0 = q71 := h5
  subst h5
  generalize H1 = H at hPj hS ⊢
  have hP : va_P Γ.1 vwCl ((h0, .inr (9, [.ref (a5 0), .ref (q16), .ref (a27 0), .ref (a38 0), .ref (a49 0), .ref (a60 0), .null, .null, .int 0, .int 0, .int 0, .int 0, .int 0, .int 0, .int 0])) :: ((((((wSt Γ a5 ++ wHis Γ q16 a16.1 a16.2) ++ wView Γ a27) ++ wSets Γ a38) ++ wTw Γ a49) ++ wTw Γ a60) ++ wTxt Γ a71)) H := hPj
  have hD : va_D A ((h0, .inr (9, [.ref (a5 0), .ref (q16), .ref (a27 0), .ref (a38 0), .ref (a49 0), .ref (a60 0), .null, .null, .int 0, .int 0, .int 0, .int 0, .int 0, .int 0, .int 0])) :: ((((((wSt Γ a5 ++ wHis Γ q16 a16.1 a16.2) ++ wView Γ a27) ++ wSets Γ a38) ++ wTw Γ a49) ++ wTw Γ a60) ++ wTxt Γ a71)) := hDj
  clear hPj hDj
  refine va_putF (D := Γ.1) (ci := 9) (v := .ref (a71 0)) (ty := .object "FaultTwins$Text") (C := RX9) (T := TX9) (N := 15) hx hb hts iX9 tyX9 tyX9_ok nmX9 hown hK hP hD hS 0 rfl rfl 6 (by decide) (hts (.fieldLink RX9 50 "FaultTwins" "text" "LFaultTwins$Text;") (List.mem_of_getElem? (i := 28) rfl)) (fun _ h9 => h9) rfl hin rfl (by decide +kernel) rfl rfl (Nat.le_of_ble_eq_true rfl) dX9_init_78 (fun H locs hP hD hS => ?_)
  have hP : va_P Γ.1 vwCl ((h0, .inr (9, [.ref (a5 0), .ref (q16), .ref (a27 0), .ref (a38 0), .ref (a49 0), .ref (a60 0), .ref (a71 0), .null, .int 0, .int 0, .int 0, .int 0, .int 0, .int 0, .int 0])) :: ((((((wSt Γ a5 ++ wHis Γ q16 a16.1 a16.2) ++ wView Γ a27) ++ wSets Γ a38) ++ wTw Γ a49) ++ wTw Γ a60) ++ wTxt Γ a71)) H := hP
  have hD : va_D A ((h0, .inr (9, [.ref (a5 0), .ref (q16), .ref (a27 0), .ref (a38 0), .ref (a49 0), .ref (a60 0), .ref (a71 0), .null, .int 0, .int 0, .int 0, .int 0, .int 0, .int 0, .int 0])) :: ((((((wSt Γ a5 ++ wHis Γ q16 a16.1 a16.2) ++ wView Γ a27) ++ wSets Γ a38) ++ wTw Γ a49) ++ wTw Γ a60) ++ wTxt Γ a71)) := hD
  refine lv_aload_n hx hb dX9_init_81 rfl (lv_at hl 0 rfl) ?_
  refine va_new (ci := 2) (fs := [.null, .int 0, .int 0, .int 0, .int 0, .int 0, .int 0]) (C := RX2) (T := TX2) (N := 7) hx hb hts iX2 tyX2 tyX2_ok hown (hts (.classLink RX9 54 RX2) (List.mem_of_getElem? (i := 29) rfl)) (hts (.instantiable RX2 7) (List.mem_of_getElem? (i := 30) rfl)) (hts (.initialized RX2) (List.mem_of_getElem? (i := 31) rfl)) hK hP hD hS hA rfl (by decide +kernel) (by decide) (by decide) dX9_init_82 (fun q82 H hP hD hS => ?_)
  refine lv_dup hx hb dX9_init_85 rfl ?_
  have hPc := ft_lastP hP
  have hDc := ft_lastD hD
  have hFc := ft_lastF hD hS hA
  refine va_callv (va_runIN (As := []) (rest := [.ref q82, .ref h0]) ⟨hx, hb, hml, hown, hts⟩ (k_X2_init l Γ q82 H.size) ⟨va_cnB 0 hts gX9_init_X2_init_n56 rfl rfl rfl hN9_56 (hts (.initialized RX2) (List.mem_of_getElem? (i := 31) rfl)) (by decide +kernel) ⟨Nat.le_of_ble_eq_true rfl, Nat.le_of_ble_eq_true rfl⟩, rfl, (hts (.instanceMethod yX2_init) (List.mem_of_getElem? (i := 87) rfl))⟩ ⟨fun a U g mk q => by obtain ⟨q0, q1, qP, qK, qD, n0⟩ := q; exact ⟨q0, q1, qP, va_K.moved (u := U) (U := U.calling g mk a) (Vm.Alike.refl U.vm) qK, qD, va_Nw.same rfl (show U.vm = (U.calling g mk a).vm from rfl) n0⟩, fun U hU hW => ⟨rfl, by rw [hU], by rw [hU]; exact hPc, va_K.moved hW.alike hK, hDc.weaken (fun _ _ _ _ => trivial), va_Nw.warmM hW hNRX2_11⟩⟩ rfl rfl hl.1 rfl (lv_room (Nat.le_of_ble_eq_true rfl)) dX9_init_86 ⟨by decide, by decide⟩) hS (fun q _ h => hFc q h) hFc (fun a82 t H1 locs ht hvm h5 hB hz1 hk1 hS => ?_)
  obtain ⟨hP1, hD1⟩ := hB
  rw [ht] at hP1
  obtain ⟨hPj, hDj⟩ := ft_lastJ hP hD hk1 hFc hP1 hD1
  clear hPc hDc hFc hP1 hD1 hk1 hz1 hP hD
  have h5 : a82 0 = q82 := h5
  subst h5
  generalize H1 = H at hPj hS ⊢
  have hP : va_P Γ.1 vwCl ((h0, .inr (9, [.ref (a5 0), .ref (q16), .ref (a27 0), .ref (a38 0), .ref (a49 0), .ref (a60 0), .ref (a71 0), .null, .int 0, .int 0, .int 0, .int 0, .int 0, .int 0, .int 0])) :: (((((((wSt Γ a5 ++ wHis Γ q16 a16.1 a16.2) ++ wView Γ a27) ++ wSets Γ a38) ++ wTw Γ a49) ++ wTw Γ a60) ++ wTxt Γ a71) ++ wRd Γ a82)) H := hPj
  have hD : va_D A ((h0, .inr (9, [.ref (a5 0), .ref (q16), .ref (a27 0), .ref (a38 0), .ref (a49 0), .ref (a60 0), .ref (a71 0), .null, .int 0, .int 0, .int 0, .int 0, .int 0, .int 0, .int 0])) :: (((((((wSt Γ a5 ++ wHis Γ q16 a16.1 a16.2) ++ wView Γ a27) ++ wSets Γ a38) ++ wTw Γ a49) ++ wTw Γ a60) ++ wTxt Γ a71) ++ wRd Γ a82)) := hDj
  clear hPj hDj
  refine va_putF (D := Γ.1) (ci := 9) (v := .ref (a82 0)) (ty := .object "FaultTwins$Reader") (C := RX9) (T := TX9) (N := 15) hx hb hts iX9 tyX9 tyX9_ok nmX9 hown hK hP hD hS 0 rfl rfl 7 (by decide) (hts (.fieldLink RX9 57 "FaultTwins" "reader" "LFaultTwins$Reader;") (List.mem_of_getElem? (i := 32) rfl)) (fun _ h9 => h9) rfl hin rfl (by decide +kernel) rfl rfl (Nat.le_of_ble_eq_true rfl) dX9_init_89 (fun H locs hP hD hS => ?_)
  have hP : va_P Γ.1 vwCl ((h0, .inr (9, [.ref (a5 0), .ref (q16), .ref (a27 0), .ref (a38 0), .ref (a49 0), .ref (a60 0), .ref (a71 0), .ref (a82 0), .int 0, .int 0, .int 0, .int 0, .int 0, .int 0, .int 0])) :: (((((((wSt Γ a5 ++ wHis Γ q16 a16.1 a16.2) ++ wView Γ a27) ++ wSets Γ a38) ++ wTw Γ a49) ++ wTw Γ a60) ++ wTxt Γ a71) ++ wRd Γ a82)) H := hP
  have hD : va_D A ((h0, .inr (9, [.ref (a5 0), .ref (q16), .ref (a27 0), .ref (a38 0), .ref (a49 0), .ref (a60 0), .ref (a71 0), .ref (a82 0), .int 0, .int 0, .int 0, .int 0, .int 0, .int 0, .int 0])) :: (((((((wSt Γ a5 ++ wHis Γ q16 a16.1 a16.2) ++ wView Γ a27) ++ wSets Γ a38) ++ wTw Γ a49) ++ wTw Γ a60) ++ wTxt Γ a71) ++ wRd Γ a82)) := hD
  have hP : va_P Γ.1 vwCl (wWW Γ h0 a5 q16 a16.1 a16.2 a27 a38 a49 a60 a71 a82) H := hP
  have hD : va_D A (wWW Γ h0 a5 q16 a16.1 a16.2 a27 a38 a49 a60 a71 a82) := hD
  obtain ⟨hI, hAd⟩ := ft_poolD Γ h0 a5 q16 a16.1 a16.2 a27 a38 a49 a60 a71 a82 hD
  have hQ := ft_poolP Γ h0 a5 q16 a16.1 a16.2 a27 a38 a49 a60 a71 a82 hP
  clear hP hD
  have e0 : adC h0 a5 q16 a16.1 a16.2 a27 a38 a49 a60 a71 a82 0 = h0 := rfl
  generalize adC h0 a5 q16 a16.1 a16.2 a27 a38 a49 a60 a71 a82 = ad at hI hAd hQ e0
  subst e0
  refine lv_aload_n hx hb dX9_init_92 rfl (lv_at hl 0 rfl) ?_
  refine cC_Gv (Γ := (Γ.1, Γ.2.1, ad)) (As := []) (rest := []) ⟨hx, hb, hml, hown, hts⟩ (c_X9_beginAnew l (Γ.1, Γ.2.1, ad) hI sC0 (fun σ' => RepC σ' A00) (sC0_begin (fun _ h => h))) (cwV 0 hts gX9_init_X9_beginAnew rfl rfl rfl (by decide +kernel) ⟨Nat.le_of_ble_eq_true rfl, Nat.le_of_ble_eq_true rfl⟩) hK hNRX3_46 hQ hS hAd rfl hl.1 rfl (Nat.le_of_ble_eq_true rfl) dX9_init_93 ⟨by decide, by decide⟩ (fun σ1 H locs hw hP hk hS => ?_)
  exact W.vret hx hb hr (fun t ht hW => ⟨⟨(ad, σ1), rfl, ⟨rfl, hI, hAd, hw⟩, by show va_P Γ.1 vwCl (ft_W 80 ad (cC_E (Γ.1, Γ.2.1, ad) σ1)) t.heap; rw [ht]; exact hP⟩, hS.F ht⟩) hS.2.2 dX9_init_96
