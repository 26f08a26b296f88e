/-! the constructor of History -/
def wHis (Γ : ft_G) (h r : Nat) (b : Nat → Nat → Nat) : va_W := (((((([(h, .inr (0, [.ref r, .int 0, .int 0])), (r, .inl (Γ.2.1.2.2.2, 6, .inr (.inr (.inr (.inr (fun j => some (b j 0)))))))] ++ wSt Γ (b 0)) ++ wSt Γ (b 1)) ++ wSt Γ (b 2)) ++ wSt Γ (b 3)) ++ wSt Γ (b 4)) ++ wSt Γ (b 5))
theorem ft_refs {D : va_G} {cl : List vw_C} {q : Nat} {cA : ClassId} {f g : Nat → Option Nat} {H : Heap} (h : va_at D cl (q, .inl (cA, 6, .inr (.inr (.inr (.inr f))))) H) (e : ∀ j, j < 6 → f j = g j) : va_at D cl (q, .inl (cA, 6, .inr (.inr (.inr (.inr g))))) H := by
  have h : H[q]? = some (vp_cell cA (6, .inr (.inr (.inr (.inr f))))) := h
  show H[q]? = some (vp_cell cA (6, .inr (.inr (.inr (.inr g)))))
  rw [h]
  congr 1
  show arrV cA 6 (fun j => va_rf (f j)) = arrV cA 6 (fun j => va_rf (g j))
  unfold arrV
  congr 2
  funext j
  show va_rf (f j.val) = va_rf (g j.val)
  rw [e j.val j.isLt]
theorem va_D_fst {A : Nat → Prop} {ws ws' : va_W} (h : va_D A ws) (e : ws.map (fun q => q.1) = ws'.map (fun q => q.1)) : va_D A ws' := by
  have f : ∀ (i : Nat) (p : Nat × va_E), ws'[i]? = some p → ∃ p', ws[i]? = some p' ∧ p'.1 = p.1 := by
    intro i p hp
    have h1 : (ws'.map (fun q => q.1))[i]? = some p.1 := by rw [List.getElem?_map, hp]; rfl
    rw [← e, List.getElem?_map] at h1
    cases h2 : ws[i]? with
    | none => rw [h2] at h1; cases h1
    | some p' => rw [h2] at h1; exact ⟨p', rfl, Option.some.inj h1⟩
  refine ⟨fun i j p q hp hq e1 => ?_, fun k q hq => ?_⟩
  · obtain ⟨p', a1, a2⟩ := f i p hp
    obtain ⟨q', b1, b2⟩ := f j q hq
    exact h.1 i j p' q' a1 b1 (a2.trans (e1.trans b2.symm))
  · obtain ⟨q', b1, b2⟩ := f k q hq
    rw [← b2]; exact h.2 k q' b1
set_option maxHeartbeats 8000000 in
set_option maxRecDepth 100000 in
theorem k_X0_init (l : Launch) (Γ : ft_G) (h0 : Nat) (sz : Nat) : Met l yX0_init wsX0_init ({ frames := 3, cells := 43, slots := 552, locals := 80 }) (va_Pc [.ref h0] (fun U => U.heap.size = sz ∧ va_P Γ.1 vwCl [(h0, .inr (0, [.null, .int 0, .int 0]))] U.heap ∧ va_K Γ.1 vwCl (ft_ty Γ) U ∧ va_D (fun _ => True) [(h0, .inr (0, [.null, .int 0, .int 0]))] ∧ va_AO "FaultTwins$State" U ∧ va_Nw (.methodLinkNest RX0 17 yX4_init RX9) U ∧ va_Nw (.methodLinkNest RX4 9 yX1_init RX9) U ∧ va_Nw (.methodLinkNest RX4 18 yX8_init RX9) U)) (va_Qv (fun _ : Nat × (Nat → Nat → Nat) => True) (fun a t => va_P Γ.1 vwCl (wHis Γ h0 a.1 a.2) t.heap ∧ va_D (va_A [(h0, .inr (0, [.null, .int 0, .int 0]))] sz) (wHis Γ h0 a.1 a.2)) (va_A [(h0, .inr (0, [.null, .int 0, .int 0]))] sz)) 43 552 (va_A [(h0, .inr (0, [.null, .int 0, .int 0]))] sz) := by
  refine Met.ofW (cc := cX0_init) (maxL := 2) (ret := none) (by decide) rfl ?_
  intro p e s m args below meth c s₁ B hml hv
  obtain ⟨rfl, hsz, hP, hK, hD0, hAO, hN17, hN9, hN18⟩ := hv
  have hx := B.exec
  have hb := B.bytes
  have hr := B.returns
  have hts := atoms_spec (ws := wsX0_init) B.pre
  have hown : s.vm.findClass RX0 = some m.cls := findClass_of_methodNamed B.named
  have hin : meth.name = "<init>" := (name_of_methodNamed B.named B.method).1
  subst hsz
  have hD := hD0.self (sz := s.heap.size)
  generalize hAe : va_A [(h0, .inr (0, [.null, .int 0, .int 0]))] s.heap.size = A at hD ⊢
  have hA : ∀ q : Nat, s.heap.size ≤ q → A q := fun q h => by rw [← hAe]; exact Or.inr h
  have hS : va_S A s.heap s.heap [] := va_S.rf
  have hP : va_P Γ.1 vwCl [(h0, .inr (0, [.null, .int 0, .int 0]))] s.heap := hP
  have hl := lv_entry ([.ref h0]) (n := 2) (Nat.le_of_ble_eq_true rfl)
  rw [lg_entry_eq]
  generalize (lg_sl ([.ref h0]) ++ List.replicate (2 - (lg_sl ([.ref h0])).length) Slot.unset).toArray = ls at hl ⊢
  have hl : lv_has ls 2 [(0, .ref h0)] := hl
  refine lv_aload_n hx hb dX0_init_0 rfl (lv_at hl 0 rfl) ?_
  refine W.objInit hx hb hown (hts (.methodLink RX0 3 objectInit) (by decide +kernel)) (hts (.instanceMethod objectInit) (by decide +kernel)) (hts (.code objectInit ⟨#[0xb1]⟩ 1 none) (List.mem_cons_of_mem _ (List.mem_append_left _ (List.mem_append_left _ (List.mem_append_left _ (List.mem_append_left _ (List.mem_append_left _ (List.mem_of_getElem? (i := 2) rfl)))))))) rfl (by rw [hml]; exact hl.1) rfl dX0_init_1 (Nat.le_of_ble_eq_true rfl) (Nat.le_of_ble_eq_true rfl) ?_
  refine W.eq (g2 := F0 m 4 ls []) rfl ?_
  refine lv_aload_n hx hb dX0_init_4 rfl (lv_at hl 0 rfl) ?_
  refine lv_bipush hx hb dX0_init_5 (v := 6) rfl ?_
  refine ft_newq hx hb hown (hts (.classLink RX0 9 RX4) (by decide +kernel)) hAO hK hP hD hS hA 6 (by decide) (by decide) (by decide) (by decide) (by decide) dX0_init_7 (fun r7 H hP hD hS => ?_)
  refine va_putF (D := Γ.1) (ci := 0) (v := .ref r7) (ty := .array (.object "FaultTwins$State")) (C := RX0) (T := TX0) (N := 3) hx hb hts (by decide +kernel) tyX0 tyX0_ok nmX0 hown hK hP hD hS 0 rfl rfl 0 (by decide) (hts (.fieldLink RX0 11 "FaultTwins$History" "states" "[LFaultTwins$State;") (by decide +kernel)) (fun _ h9 => h9) rfl hin rfl (by decide +kernel) rfl rfl (Nat.le_of_ble_eq_true rfl) dX0_init_10 (fun H locs hP hD hS => ?_)
  have hP : va_P Γ.1 vwCl ([(h0, .inr (0, [.ref r7, .int 0, .int 0])), (r7, .inl (Γ.2.1.2.2.2, 6, .inr (.inr (.inr (.inr (fun _ => none))))))]) H := hP
  have hD : va_D A ([(h0, .inr (0, [.ref r7, .int 0, .int 0])), (r7, .inl (Γ.2.1.2.2.2, 6, .inr (.inr (.inr (.inr (fun _ => none))))))]) := hD
  refine lv_iconst (v := 0) hx hb dX0_init_13 (by decide) ?_
  refine lv_istore_n (lv' := [(1, .int 0), (0, .ref h0)]) hx hb dX0_init_14 rfl hl (by decide) rfl (fun ls hl => ?_)
  refine lv_iload_n hx hb dX0_init_15 rfl (lv_at hl 0 rfl) ?_
  refine lv_bipush hx hb dX0_init_16 (v := 6) rfl ?_
  refine lv_icmp_ge (tgt := 40) hx hb dX0_init_18 (by decide) (fun h => absurd h (by decide)) (fun _ => ?_)
  refine lv_aload_n hx hb dX0_init_21 rfl (lv_at hl 1 rfl) ?_
  refine va_get (T := TX0) (N := 3) hx hb hts (by decide +kernel) hown hK hP 0 rfl rfl 0 (by decide) (hts (.fieldLink RX0 11 "FaultTwins$History" "states" "[LFaultTwins$State;") (by decide +kernel)) (fun _ h9 => h9) rfl dX0_init_22 ?_
  refine lv_iload_n hx hb dX0_init_25 rfl (lv_at hl 0 rfl) ?_
  refine va_new (ci := 4) (fs := [.null, .null]) (C := RX4) (T := TX4) (N := 2) hx hb hts (by decide +kernel) tyX4 tyX4_ok hown (hts (.classLink RX0 9 RX4) (by decide +kernel)) (hts (.instantiable RX4 2) (by decide +kernel)) (hts (.initialized RX4) (by decide +kernel)) hK hP hD hS hA rfl (by decide +kernel) (by decide) (by decide) dX0_init_26 (fun q0 H hP hD hS => ?_)
  have hP : va_P Γ.1 vwCl ([(h0, .inr (0, [.ref r7, .int 0, .int 0])), (r7, .inl (Γ.2.1.2.2.2, 6, .inr (.inr (.inr (.inr (fun _ => none))))))] ++ [(q0, .inr (4, [.null, .null]))]) H := hP
  have hD : va_D A ([(h0, .inr (0, [.ref r7, .int 0, .int 0])), (r7, .inl (Γ.2.1.2.2.2, 6, .inr (.inr (.inr (.inr (fun _ => none))))))] ++ [(q0, .inr (4, [.null, .null]))]) := hD
  refine lv_dup hx hb dX0_init_29 rfl ?_
  have hPc := hP.sub (ws' := [(q0, .inr (4, [.null, .null]))]) [2] rfl
  have hDc := hD.sub (ws' := [(q0, .inr (4, [.null, .null]))]) [2] (by decide) rfl
  have hFc := va_free (wc := [(q0, .inr (4, [.null, .null]))]) hD hS hA [2] rfl
  refine va_callv (va_runIN (As := []) (rest := [.ref q0, .int 0, .ref r7]) ⟨hx, hb, hml, hown, hts⟩ (k_X4_init l Γ q0 H.size) ⟨va_cnB 0 hts gX0_init_X4_init_n17 rfl rfl rfl hN17 (hts (.initialized RX4) (by decide +kernel)) (by decide +kernel) ⟨Nat.le_of_ble_eq_true rfl, Nat.le_of_ble_eq_true rfl⟩, rfl, hts (.instanceMethod yX4_init) (by decide +kernel)⟩ ⟨fun a U g mk q => by obtain ⟨q0, q1, qP, qK, qD, n1, n2⟩ := q; exact ⟨q0, q1, qP, va_K.moved (u := U) (U := U.calling g mk a) (Vm.Alike.refl U.vm) qK, qD, va_Nw.same rfl (show U.vm = (U.calling g mk a).vm from rfl) n1, va_Nw.same rfl (show U.vm = (U.calling g mk a).vm from rfl) n2⟩, fun U hU hW => ⟨rfl, by rw [hU], by rw [hU]; exact hPc, va_K.moved hW.alike hK, hDc.weaken (fun _ _ _ _ => trivial), va_Nw.warmM hW hN9, va_Nw.warmM hW hN18⟩⟩ rfl rfl hl.1 rfl (lv_room (Nat.le_of_ble_eq_true rfl)) dX0_init_30 ⟨by decide, by decide⟩) hS (fun q _ h => hFc q h) hFc (fun b0 t H1 locs ht hvm h5 hB hz1 hk1 hS => ?_)
  obtain ⟨hP1, hD1⟩ := hB
  rw [ht] at hP1
  obtain ⟨hPj, hDj⟩ := va_join (wr := [(h0, .inr (0, [.ref r7, .int 0, .int 0])), (r7, .inl (Γ.2.1.2.2.2, 6, .inr (.inr (.inr (.inr (fun _ => none))))))]) (w1 := wSt Γ b0) hP hD [2] [0, 1] rfl rfl (by decide) (by decide) hk1 hFc hP1 hD1
  have h5 : b0 0 = q0 := h5
  clear hPc hDc hFc hP1 hD1 hk1 hz1 hP hD
  subst h5
  generalize H1 = H at hPj hS ⊢
  have hP := hPj
  have hD := hDj
  refine va_astq hx hb hK hP hD hS 1 3 2 4 (r := (RX4, TX4, 2)) rfl rfl rfl rfl (i := 0) (vp_in_nI (n := 0) (by decide) (by decide)) dX0_init_33 (fun H locs hP hD hS => ?_)
  have hP : va_P Γ.1 vwCl (([(h0, .inr (0, [.ref r7, .int 0, .int 0])), (r7, .inl (Γ.2.1.2.2.2, 6, .inr (.inr (.inr (.inr (va_up (fun _ => none) (Int32.toNatClampNeg 0) (some (b0 0))))))))] ++ wSt Γ b0)) H := hP
  have hD : va_D A (([(h0, .inr (0, [.ref r7, .int 0, .int 0])), (r7, .inl (Γ.2.1.2.2.2, 6, .inr (.inr (.inr (.inr (va_up (fun _ => none) (Int32.toNatClampNeg 0) (some (b0 0))))))))] ++ wSt Γ b0)) := hD
  refine lv_iinc (v := 1) (lv' := [(1, .int 1), (0, .ref h0)]) hx hb dX0_init_34 hl (k := 0) rfl (by decide) (by decide) rfl (fun ls hl => ?_)
  refine lv_goto (tgt := 15) hx hb dX0_init_37 (by decide) ?_
  refine lv_iload_n hx hb dX0_init_15 rfl (lv_at hl 0 rfl) ?_
  refine lv_bipush hx hb dX0_init_16 (v := 6) rfl ?_
  refine lv_icmp_ge (tgt := 40) hx hb dX0_init_18 (by decide) (fun h => absurd h (by decide)) (fun _ => ?_)
  refine lv_aload_n hx hb dX0_init_21 rfl (lv_at hl 1 rfl) ?_
  refine va_get (T := TX0) (N := 3) hx hb hts (by decide +kernel) hown hK hP 0 rfl rfl 0 (by decide) (hts (.fieldLink RX0 11 "FaultTwins$History" "states" "[LFaultTwins$State;") (by decide +kernel)) (fun _ h9 => h9) rfl dX0_init_22 ?_
  refine lv_iload_n hx hb dX0_init_25 rfl (lv_at hl 0 rfl) ?_
  refine va_new (ci := 4) (fs := [.null, .null]) (C := RX4) (T := TX4) (N := 2) hx hb hts (by decide +kernel) tyX4 tyX4_ok hown (hts (.classLink RX0 9 RX4) (by decide +kernel)) (hts (.instantiable RX4 2) (by decide +kernel)) (hts (.initialized RX4) (by decide +kernel)) hK hP hD hS hA rfl (by decide +kernel) (by decide) (by decide) dX0_init_26 (fun q1 H hP hD hS => ?_)
  have hP : va_P Γ.1 vwCl (([(h0, .inr (0, [.ref r7, .int 0, .int 0])), (r7, .inl (Γ.2.1.2.2.2, 6, .inr (.inr (.inr (.inr (va_up (fun _ => none) (Int32.toNatClampNeg 0) (some (b0 0))))))))] ++ wSt Γ b0) ++ [(q1, .inr (4, [.null, .null]))]) H := hP
  have hD : va_D A (([(h0, .inr (0, [.ref r7, .int 0, .int 0])), (r7, .inl (Γ.2.1.2.2.2, 6, .inr (.inr (.inr (.inr (va_up (fun _ => none) (Int32.toNatClampNeg 0) (some (b0 0))))))))] ++ wSt Γ b0) ++ [(q1, .inr (4, [.null, .null]))]) := hD
  refine lv_dup hx hb dX0_init_29 rfl ?_
  have hPc := hP.sub (ws' := [(q1, .inr (4, [.null, .null]))]) [9] rfl
  have hDc := hD.sub (ws' := [(q1, .inr (4, [.null, .null]))]) [9] (by decide) rfl
  have hFc := va_free (wc := [(q1, .inr (4, [.null, .null]))]) hD hS hA [9] rfl
  refine va_callv (va_runIN (As := []) (rest := [.ref q1, .int 1, .ref r7]) ⟨hx, hb, hml, hown, hts⟩ (k_X4_init l Γ q1 H.size) ⟨va_cnB 0 hts gX0_init_X4_init_n17 rfl rfl rfl hN17 (hts (.initialized RX4) (by decide +kernel)) (by decide +kernel) ⟨Nat.le_of_ble_eq_true rfl, Nat.le_of_ble_eq_true rfl⟩, rfl, hts (.instanceMethod yX4_init) (by decide +kernel)⟩ ⟨fun a U g mk q => by obtain ⟨q0, q1, qP, qK, qD, n1, n2⟩ := q; exact ⟨q0, q1, qP, va_K.moved (u := U) (U := U.calling g mk a) (Vm.Alike.refl U.vm) qK, qD, va_Nw.same rfl (show U.vm = (U.calling g mk a).vm from rfl) n1, va_Nw.same rfl (show U.vm = (U.calling g mk a).vm from rfl) n2⟩, fun U hU hW => ⟨rfl, by rw [hU], by rw [hU]; exact hPc, va_K.moved hW.alike hK, hDc.weaken (fun _ _ _ _ => trivial), va_Nw.warmM hW hN9, va_Nw.warmM hW hN18⟩⟩ rfl rfl hl.1 rfl (lv_room (Nat.le_of_ble_eq_true rfl)) dX0_init_30 ⟨by decide, by decide⟩) hS (fun q _ h => hFc q h) hFc (fun b1 t H1 locs ht hvm h5 hB hz1 hk1 hS => ?_)
  obtain ⟨hP1, hD1⟩ := hB
  rw [ht] at hP1
  obtain ⟨hPj, hDj⟩ := va_join (wr := ([(h0, .inr (0, [.ref r7, .int 0, .int 0])), (r7, .inl (Γ.2.1.2.2.2, 6, .inr (.inr (.inr (.inr (va_up (fun _ => none) (Int32.toNatClampNeg 0) (some (b0 0))))))))] ++ wSt Γ b0)) (w1 := wSt Γ b1) hP hD [9] [0, 1, 2, 3, 4, 5, 6, 7, 8] rfl rfl (by decide) (by decide) hk1 hFc hP1 hD1
  have h5 : b1 0 = q1 := h5
  clear hPc hDc hFc hP1 hD1 hk1 hz1 hP hD
  subst h5
  generalize H1 = H at hPj hS ⊢
  have hP := hPj
  have hD := hDj
  refine va_astq hx hb hK hP hD hS 1 3 9 4 (r := (RX4, TX4, 2)) rfl rfl rfl rfl (i := 1) (vp_in_nI (n := 1) (by decide) (by decide)) dX0_init_33 (fun H locs hP hD hS => ?_)
  have hP : va_P Γ.1 vwCl ((([(h0, .inr (0, [.ref r7, .int 0, .int 0])), (r7, .inl (Γ.2.1.2.2.2, 6, .inr (.inr (.inr (.inr (va_up (va_up (fun _ => none) (Int32.toNatClampNeg 0) (some (b0 0))) (Int32.toNatClampNeg 1) (some (b1 0))))))))] ++ wSt Γ b0) ++ wSt Γ b1)) H := hP
  have hD : va_D A ((([(h0, .inr (0, [.ref r7, .int 0, .int 0])), (r7, .inl (Γ.2.1.2.2.2, 6, .inr (.inr (.inr (.inr (va_up (va_up (fun _ => none) (Int32.toNatClampNeg 0) (some (b0 0))) (Int32.toNatClampNeg 1) (some (b1 0))))))))] ++ wSt Γ b0) ++ wSt Γ b1)) := hD
  refine lv_iinc (v := 2) (lv' := [(1, .int 2), (0, .ref h0)]) hx hb dX0_init_34 hl (k := 0) rfl (by decide) (by decide) rfl (fun ls hl => ?_)
  refine lv_goto (tgt := 15) hx hb dX0_init_37 (by decide) ?_
  refine lv_iload_n hx hb dX0_init_15 rfl (lv_at hl 0 rfl) ?_
  refine lv_bipush hx hb dX0_init_16 (v := 6) rfl ?_
  refine lv_icmp_ge (tgt := 40) hx hb dX0_init_18 (by decide) (fun h => absurd h (by decide)) (fun _ => ?_)
  refine lv_aload_n hx hb dX0_init_21 rfl (lv_at hl 1 rfl) ?_
  refine va_get (T := TX0) (N := 3) hx hb hts (by decide +kernel) hown hK hP 0 rfl rfl 0 (by decide) (hts (.fieldLink RX0 11 "FaultTwins$History" "states" "[LFaultTwins$State;") (by decide +kernel)) (fun _ h9 => h9) rfl dX0_init_22 ?_
  refine lv_iload_n hx hb dX0_init_25 rfl (lv_at hl 0 rfl) ?_
  refine va_new (ci := 4) (fs := [.null, .null]) (C := RX4) (T := TX4) (N := 2) hx hb hts (by decide +kernel) tyX4 tyX4_ok hown (hts (.classLink RX0 9 RX4) (by decide +kernel)) (hts (.instantiable RX4 2) (by decide +kernel)) (hts (.initialized RX4) (by decide +kernel)) hK hP hD hS hA rfl (by decide +kernel) (by decide) (by decide) dX0_init_26 (fun q2 H hP hD hS => ?_)
  have hP : va_P Γ.1 vwCl ((([(h0, .inr (0, [.ref r7, .int 0, .int 0])), (r7, .inl (Γ.2.1.2.2.2, 6, .inr (.inr (.inr (.inr (va_up (va_up (fun _ => none) (Int32.toNatClampNeg 0) (some (b0 0))) (Int32.toNatClampNeg 1) (some (b1 0))))))))] ++ wSt Γ b0) ++ wSt Γ b1) ++ [(q2, .inr (4, [.null, .null]))]) H := hP
  have hD : va_D A ((([(h0, .inr (0, [.ref r7, .int 0, .int 0])), (r7, .inl (Γ.2.1.2.2.2, 6, .inr (.inr (.inr (.inr (va_up (va_up (fun _ => none) (Int32.toNatClampNeg 0) (some (b0 0))) (Int32.toNatClampNeg 1) (some (b1 0))))))))] ++ wSt Γ b0) ++ wSt Γ b1) ++ [(q2, .inr (4, [.null, .null]))]) := hD
  refine lv_dup hx hb dX0_init_29 rfl ?_
  have hPc := hP.sub (ws' := [(q2, .inr (4, [.null, .null]))]) [16] rfl
  have hDc := hD.sub (ws' := [(q2, .inr (4, [.null, .null]))]) [16] (by decide) rfl
  have hFc := va_free (wc := [(q2, .inr (4, [.null, .null]))]) hD hS hA [16] rfl
  refine va_callv (va_runIN (As := []) (rest := [.ref q2, .int 2, .ref r7]) ⟨hx, hb, hml, hown, hts⟩ (k_X4_init l Γ q2 H.size) ⟨va_cnB 0 hts gX0_init_X4_init_n17 rfl rfl rfl hN17 (hts (.initialized RX4) (by decide +kernel)) (by decide +kernel) ⟨Nat.le_of_ble_eq_true rfl, Nat.le_of_ble_eq_true rfl⟩, rfl, hts (.instanceMethod yX4_init) (by decide +kernel)⟩ ⟨fun a U g mk q => by obtain ⟨q0, q1, qP, qK, qD, n1, n2⟩ := q; exact ⟨q0, q1, qP, va_K.moved (u := U) (U := U.calling g mk a) (Vm.Alike.refl U.vm) qK, qD, va_Nw.same rfl (show U.vm = (U.calling g mk a).vm from rfl) n1, va_Nw.same rfl (show U.vm = (U.calling g mk a).vm from rfl) n2⟩, fun U hU hW => ⟨rfl, by rw [hU], by rw [hU]; exact hPc, va_K.moved hW.alike hK, hDc.weaken (fun _ _ _ _ => trivial), va_Nw.warmM hW hN9, va_Nw.warmM hW hN18⟩⟩ rfl rfl hl.1 rfl (lv_room (Nat.le_of_ble_eq_true rfl)) dX0_init_30 ⟨by decide, by decide⟩) hS (fun q _ h => hFc q h) hFc (fun b2 t H1 locs ht hvm h5 hB hz1 hk1 hS => ?_)
  obtain ⟨hP1, hD1⟩ := hB
  rw [ht] at hP1
  obtain ⟨hPj, hDj⟩ := va_join (wr := (([(h0, .inr (0, [.ref r7, .int 0, .int 0])), (r7, .inl (Γ.2.1.2.2.2, 6, .inr (.inr (.inr (.inr (va_up (va_up (fun _ => none) (Int32.toNatClampNeg 0) (some (b0 0))) (Int32.toNatClampNeg 1) (some (b1 0))))))))] ++ wSt Γ b0) ++ wSt Γ b1)) (w1 := wSt Γ b2) hP hD [16] [0, 1, 2, 3, 4, 5, 6, 7, 8, 9, 10, 11, 12, 13, 14, 15] rfl rfl (by decide) (by decide) hk1 hFc hP1 hD1
  have h5 : b2 0 = q2 := h5
  clear hPc hDc hFc hP1 hD1 hk1 hz1 hP hD
  subst h5
  generalize H1 = H at hPj hS ⊢
  have hP := hPj
  have hD := hDj
  refine va_astq hx hb hK hP hD hS 1 3 16 4 (r := (RX4, TX4, 2)) rfl rfl rfl rfl (i := 2) (vp_in_nI (n := 2) (by decide) (by decide)) dX0_init_33 (fun H locs hP hD hS => ?_)
  have hP : va_P Γ.1 vwCl (((([(h0, .inr (0, [.ref r7, .int 0, .int 0])), (r7, .inl (Γ.2.1.2.2.2, 6, .inr (.inr (.inr (.inr (va_up (va_up (va_up (fun _ => none) (Int32.toNatClampNeg 0) (some (b0 0))) (Int32.toNatClampNeg 1) (some (b1 0))) (Int32.toNatClampNeg 2) (some (b2 0))))))))] ++ wSt Γ b0) ++ wSt Γ b1) ++ wSt Γ b2)) H := hP
  have hD : va_D A (((([(h0, .inr (0, [.ref r7, .int 0, .int 0])), (r7, .inl (Γ.2.1.2.2.2, 6, .inr (.inr (.inr (.inr (va_up (va_up (va_up (fun _ => none) (Int32.toNatClampNeg 0) (some (b0 0))) (Int32.toNatClampNeg 1) (some (b1 0))) (Int32.toNatClampNeg 2) (some (b2 0))))))))] ++ wSt Γ b0) ++ wSt Γ b1) ++ wSt Γ b2)) := hD
  refine lv_iinc (v := 3) (lv' := [(1, .int 3), (0, .ref h0)]) hx hb dX0_init_34 hl (k := 0) rfl (by decide) (by decide) rfl (fun ls hl => ?_)
  refine lv_goto (tgt := 15) hx hb dX0_init_37 (by decide) ?_
  refine lv_iload_n hx hb dX0_init_15 rfl (lv_at hl 0 rfl) ?_
  refine lv_bipush hx hb dX0_init_16 (v := 6) rfl ?_
  refine lv_icmp_ge (tgt := 40) hx hb dX0_init_18 (by decide) (fun h => absurd h (by decide)) (fun _ => ?_)
  refine lv_aload_n hx hb dX0_init_21 rfl (lv_at hl 1 rfl) ?_
  refine va_get (T := TX0) (N := 3) hx hb hts (by decide +kernel) hown hK hP 0 rfl rfl 0 (by decide) (hts (.fieldLink RX0 11 "FaultTwins$History" "states" "[LFaultTwins$State;") (by decide +kernel)) (fun _ h9 => h9) rfl dX0_init_22 ?_
  refine lv_iload_n hx hb dX0_init_25 rfl (lv_at hl 0 rfl) ?_
  refine va_new (ci := 4) (fs := [.null, .null]) (C := RX4) (T := TX4) (N := 2) hx hb hts (by decide +kernel) tyX4 tyX4_ok hown (hts (.classLink RX0 9 RX4) (by decide +kernel)) (hts (.instantiable RX4 2) (by decide +kernel)) (hts (.initialized RX4) (by decide +kernel)) hK hP hD hS hA rfl (by decide +kernel) (by decide) (by decide) dX0_init_26 (fun q3 H hP hD hS => ?_)
  have hP : va_P Γ.1 vwCl (((([(h0, .inr (0, [.ref r7, .int 0, .int 0])), (r7, .inl (Γ.2.1.2.2.2, 6, .inr (.inr (.inr (.inr (va_up (va_up (va_up (fun _ => none) (Int32.toNatClampNeg 0) (some (b0 0))) (Int32.toNatClampNeg 1) (some (b1 0))) (Int32.toNatClampNeg 2) (some (b2 0))))))))] ++ wSt Γ b0) ++ wSt Γ b1) ++ wSt Γ b2) ++ [(q3, .inr (4, [.null, .null]))]) H := hP
  have hD : va_D A (((([(h0, .inr (0, [.ref r7, .int 0, .int 0])), (r7, .inl (Γ.2.1.2.2.2, 6, .inr (.inr (.inr (.inr (va_up (va_up (va_up (fun _ => none) (Int32.toNatClampNeg 0) (some (b0 0))) (Int32.toNatClampNeg 1) (some (b1 0))) (Int32.toNatClampNeg 2) (some (b2 0))))))))] ++ wSt Γ b0) ++ wSt Γ b1) ++ wSt Γ b2) ++ [(q3, .inr (4, [.null, .null]))]) := hD
  refine lv_dup hx hb dX0_init_29 rfl ?_
  have hPc := hP.sub (ws' := [(q3, .inr (4, [.null, .null]))]) [23] rfl
  have hDc := hD.sub (ws' := [(q3, .inr (4, [.null, .null]))]) [23] (by decide) rfl
  have hFc := va_free (wc := [(q3, .inr (4, [.null, .null]))]) hD hS hA [23] rfl
  refine va_callv (va_runIN (As := []) (rest := [.ref q3, .int 3, .ref r7]) ⟨hx, hb, hml, hown, hts⟩ (k_X4_init l Γ q3 H.size) ⟨va_cnB 0 hts gX0_init_X4_init_n17 rfl rfl rfl hN17 (hts (.initialized RX4) (by decide +kernel)) (by decide +kernel) ⟨Nat.le_of_ble_eq_true rfl, Nat.le_of_ble_eq_true rfl⟩, rfl, hts (.instanceMethod yX4_init) (by decide +kernel)⟩ ⟨fun a U g mk q => by obtain ⟨q0, q1, qP, qK, qD, n1, n2⟩ := q; exact ⟨q0, q1, qP, va_K.moved (u := U) (U := U.calling g mk a) (Vm.Alike.refl U.vm) qK, qD, va_Nw.same rfl (show U.vm = (U.calling g mk a).vm from rfl) n1, va_Nw.same rfl (show U.vm = (U.calling g mk a).vm from rfl) n2⟩, fun U hU hW => ⟨rfl, by rw [hU], by rw [hU]; exact hPc, va_K.moved hW.alike hK, hDc.weaken (fun _ _ _ _ => trivial), va_Nw.warmM hW hN9, va_Nw.warmM hW hN18⟩⟩ rfl rfl hl.1 rfl (lv_room (Nat.le_of_ble_eq_true rfl)) dX0_init_30 ⟨by decide, by decide⟩) hS (fun q _ h => hFc q h) hFc (fun b3 t H1 locs ht hvm h5 hB hz1 hk1 hS => ?_)
  obtain ⟨hP1, hD1⟩ := hB
  rw [ht] at hP1
  obtain ⟨hPj, hDj⟩ := va_join (wr := ((([(h0, .inr (0, [.ref r7, .int 0, .int 0])), (r7, .inl (Γ.2.1.2.2.2, 6, .inr (.inr (.inr (.inr (va_up (va_up (va_up (fun _ => none) (Int32.toNatClampNeg 0) (some (b0 0))) (Int32.toNatClampNeg 1) (some (b1 0))) (Int32.toNatClampNeg 2) (some (b2 0))))))))] ++ wSt Γ b0) ++ wSt Γ b1) ++ wSt Γ b2)) (w1 := wSt Γ b3) hP hD [23] [0, 1, 2, 3, 4, 5, 6, 7, 8, 9, 10, 11, 12, 13, 14, 15, 16, 17, 18, 19, 20, 21, 22] rfl rfl (by decide) (by decide) hk1 hFc hP1 hD1
  have h5 : b3 0 = q3 := h5
  clear hPc hDc hFc hP1 hD1 hk1 hz1 hP hD
  subst h5
  generalize H1 = H at hPj hS ⊢
  have hP := hPj
  have hD := hDj
  refine va_astq hx hb hK hP hD hS 1 3 23 4 (r := (RX4, TX4, 2)) rfl rfl rfl rfl (i := 3) (vp_in_nI (n := 3) (by decide) (by decide)) dX0_init_33 (fun H locs hP hD hS => ?_)
  have hP : va_P Γ.1 vwCl ((((([(h0, .inr (0, [.ref r7, .int 0, .int 0])), (r7, .inl (Γ.2.1.2.2.2, 6, .inr (.inr (.inr (.inr (va_up (va_up (va_up (va_up (fun _ => none) (Int32.toNatClampNeg 0) (some (b0 0))) (Int32.toNatClampNeg 1) (some (b1 0))) (Int32.toNatClampNeg 2) (some (b2 0))) (Int32.toNatClampNeg 3) (some (b3 0))))))))] ++ wSt Γ b0) ++ wSt Γ b1) ++ wSt Γ b2) ++ wSt Γ b3)) H := hP
  have hD : va_D A ((((([(h0, .inr (0, [.ref r7, .int 0, .int 0])), (r7, .inl (Γ.2.1.2.2.2, 6, .inr (.inr (.inr (.inr (va_up (va_up (va_up (va_up (fun _ => none) (Int32.toNatClampNeg 0) (some (b0 0))) (Int32.toNatClampNeg 1) (some (b1 0))) (Int32.toNatClampNeg 2) (some (b2 0))) (Int32.toNatClampNeg 3) (some (b3 0))))))))] ++ wSt Γ b0) ++ wSt Γ b1) ++ wSt Γ b2) ++ wSt Γ b3)) := hD
  refine lv_iinc (v := 4) (lv' := [(1, .int 4), (0, .ref h0)]) hx hb dX0_init_34 hl (k := 0) rfl (by decide) (by decide) rfl (fun ls hl => ?_)
  refine lv_goto (tgt := 15) hx hb dX0_init_37 (by decide) ?_
  refine lv_iload_n hx hb dX0_init_15 rfl (lv_at hl 0 rfl) ?_
  refine lv_bipush hx hb dX0_init_16 (v := 6) rfl ?_
  refine lv_icmp_ge (tgt := 40) hx hb dX0_init_18 (by decide) (fun h => absurd h (by decide)) (fun _ => ?_)
  refine lv_aload_n hx hb dX0_init_21 rfl (lv_at hl 1 rfl) ?_
  refine va_get (T := TX0) (N := 3) hx hb hts (by decide +kernel) hown hK hP 0 rfl rfl 0 (by decide) (hts (.fieldLink RX0 11 "FaultTwins$History" "states" "[LFaultTwins$State;") (by decide +kernel)) (fun _ h9 => h9) rfl dX0_init_22 ?_
  refine lv_iload_n hx hb dX0_init_25 rfl (lv_at hl 0 rfl) ?_
  refine va_new (ci := 4) (fs := [.null, .null]) (C := RX4) (T := TX4) (N := 2) hx hb hts (by decide +kernel) tyX4 tyX4_ok hown (hts (.classLink RX0 9 RX4) (by decide +kernel)) (hts (.instantiable RX4 2) (by decide +kernel)) (hts (.initialized RX4) (by decide +kernel)) hK hP hD hS hA rfl (by decide +kernel) (by decide) (by decide) dX0_init_26 (fun q4 H hP hD hS => ?_)
  have hP : va_P Γ.1 vwCl ((((([(h0, .inr (0, [.ref r7, .int 0, .int 0])), (r7, .inl (Γ.2.1.2.2.2, 6, .inr (.inr (.inr (.inr (va_up (va_up (va_up (va_up (fun _ => none) (Int32.toNatClampNeg 0) (some (b0 0))) (Int32.toNatClampNeg 1) (some (b1 0))) (Int32.toNatClampNeg 2) (some (b2 0))) (Int32.toNatClampNeg 3) (some (b3 0))))))))] ++ wSt Γ b0) ++ wSt Γ b1) ++ wSt Γ b2) ++ wSt Γ b3) ++ [(q4, .inr (4, [.null, .null]))]) H := hP
  have hD : va_D A ((((([(h0, .inr (0, [.ref r7, .int 0, .int 0])), (r7, .inl (Γ.2.1.2.2.2, 6, .inr (.inr (.inr (.inr (va_up (va_up (va_up (va_up (fun _ => none) (Int32.toNatClampNeg 0) (some (b0 0))) (Int32.toNatClampNeg 1) (some (b1 0))) (Int32.toNatClampNeg 2) (some (b2 0))) (Int32.toNatClampNeg 3) (some (b3 0))))))))] ++ wSt Γ b0) ++ wSt Γ b1) ++ wSt Γ b2) ++ wSt Γ b3) ++ [(q4, .inr (4, [.null, .null]))]) := hD
  refine lv_dup hx hb dX0_init_29 rfl ?_
  have hPc := hP.sub (ws' := [(q4, .inr (4, [.null, .null]))]) [30] rfl
  have hDc := hD.sub (ws' := [(q4, .inr (4, [.null, .null]))]) [30] (by decide) rfl
  have hFc := va_free (wc := [(q4, .inr (4, [.null, .null]))]) hD hS hA [30] rfl
  refine va_callv (va_runIN (As := []) (rest := [.ref q4, .int 4, .ref r7]) ⟨hx, hb, hml, hown, hts⟩ (k_X4_init l Γ q4 H.size) ⟨va_cnB 0 hts gX0_init_X4_init_n17 rfl rfl rfl hN17 (hts (.initialized RX4) (by decide +kernel)) (by decide +kernel) ⟨Nat.le_of_ble_eq_true rfl, Nat.le_of_ble_eq_true rfl⟩, rfl, hts (.instanceMethod yX4_init) (by decide +kernel)⟩ ⟨fun a U g mk q => by obtain ⟨q0, q1, qP, qK, qD, n1, n2⟩ := q; exact ⟨q0, q1, qP, va_K.moved (u := U) (U := U.calling g mk a) (Vm.Alike.refl U.vm) qK, qD, va_Nw.same rfl (show U.vm = (U.calling g mk a).vm from rfl) n1, va_Nw.same rfl (show U.vm = (U.calling g mk a).vm from rfl) n2⟩, fun U hU hW => ⟨rfl, by rw [hU], by rw [hU]; exact hPc, va_K.moved hW.alike hK, hDc.weaken (fun _ _ _ _ => trivial), va_Nw.warmM hW hN9, va_Nw.warmM hW hN18⟩⟩ rfl rfl hl.1 rfl (lv_room (Nat.le_of_ble_eq_true rfl)) dX0_init_30 ⟨by decide, by decide⟩) hS (fun q _ h => hFc q h) hFc (fun b4 t H1 locs ht hvm h5 hB hz1 hk1 hS => ?_)
  obtain ⟨hP1, hD1⟩ := hB
  rw [ht] at hP1
  obtain ⟨hPj, hDj⟩ := va_join (wr := (((([(h0, .inr (0, [.ref r7, .int 0, .int 0])), (r7, .inl (Γ.2.1.2.2.2, 6, .inr (.inr (.inr (.inr (va_up (va_up (va_up (va_up (fun _ => none) (Int32.toNatClampNeg 0) (some (b0 0))) (Int32.toNatClampNeg 1) (some (b1 0))) (Int32.toNatClampNeg 2) (some (b2 0))) (Int32.toNatClampNeg 3) (some (b3 0))))))))] ++ wSt Γ b0) ++ wSt Γ b1) ++ wSt Γ b2) ++ wSt Γ b3)) (w1 := wSt Γ b4) hP hD [30] [0, 1, 2, 3, 4, 5, 6, 7, 8, 9, 10, 11, 12, 13, 14, 15, 16, 17, 18, 19, 20, 21, 22, 23, 24, 25, 26, 27, 28, 29] rfl rfl (by decide) (by decide) hk1 hFc hP1 hD1
  have h5 : b4 0 = q4 := h5
  clear hPc hDc hFc hP1 hD1 hk1 hz1 hP hD
  subst h5
  generalize H1 = H at hPj hS ⊢
  have hP := hPj
  have hD := hDj
  refine va_astq hx hb hK hP hD hS 1 3 30 4 (r := (RX4, TX4, 2)) rfl rfl rfl rfl (i := 4) (vp_in_nI (n := 4) (by decide) (by decide)) dX0_init_33 (fun H locs hP hD hS => ?_)
  have hP : va_P Γ.1 vwCl (((((([(h0, .inr (0, [.ref r7, .int 0, .int 0])), (r7, .inl (Γ.2.1.2.2.2, 6, .inr (.inr (.inr (.inr (va_up (va_up (va_up (va_up (va_up (fun _ => none) (Int32.toNatClampNeg 0) (some (b0 0))) (Int32.toNatClampNeg 1) (some (b1 0))) (Int32.toNatClampNeg 2) (some (b2 0))) (Int32.toNatClampNeg 3) (some (b3 0))) (Int32.toNatClampNeg 4) (some (b4 0))))))))] ++ wSt Γ b0) ++ wSt Γ b1) ++ wSt Γ b2) ++ wSt Γ b3) ++ wSt Γ b4)) H := hP
  have hD : va_D A (((((([(h0, .inr (0, [.ref r7, .int 0, .int 0])), (r7, .inl (Γ.2.1.2.2.2, 6, .inr (.inr (.inr (.inr (va_up (va_up (va_up (va_up (va_up (fun _ => none) (Int32.toNatClampNeg 0) (some (b0 0))) (Int32.toNatClampNeg 1) (some (b1 0))) (Int32.toNatClampNeg 2) (some (b2 0))) (Int32.toNatClampNeg 3) (some (b3 0))) (Int32.toNatClampNeg 4) (some (b4 0))))))))] ++ wSt Γ b0) ++ wSt Γ b1) ++ wSt Γ b2) ++ wSt Γ b3) ++ wSt Γ b4)) := hD
  refine lv_iinc (v := 5) (lv' := [(1, .int 5), (0, .ref h0)]) hx hb dX0_init_34 hl (k := 0) rfl (by decide) (by decide) rfl (fun ls hl => ?_)
  refine lv_goto (tgt := 15) hx hb dX0_init_37 (by decide) ?_
  refine lv_iload_n hx hb dX0_init_15 rfl (lv_at hl 0 rfl) ?_
  refine lv_bipush hx hb dX0_init_16 (v := 6) rfl ?_
  refine lv_icmp_ge (tgt := 40) hx hb dX0_init_18 (by decide) (fun h => absurd h (by decide)) (fun _ => ?_)
  refine lv_aload_n hx hb dX0_init_21 rfl (lv_at hl 1 rfl) ?_
  refine va_get (T := TX0) (N := 3) hx hb hts (by decide +kernel) hown hK hP 0 rfl rfl 0 (by decide) (hts (.fieldLink RX0 11 "FaultTwins$History" "states" "[LFaultTwins$State;") (by decide +kernel)) (fun _ h9 => h9) rfl dX0_init_22 ?_
  refine lv_iload_n hx hb dX0_init_25 rfl (lv_at hl 0 rfl) ?_
  refine va_new (ci := 4) (fs := [.null, .null]) (C := RX4) (T := TX4) (N := 2) hx hb hts (by decide +kernel) tyX4 tyX4_ok hown (hts (.classLink RX0 9 RX4) (by decide +kernel)) (hts (.instantiable RX4 2) (by decide +kernel)) (hts (.initialized RX4) (by decide +kernel)) hK hP hD hS hA rfl (by decide +kernel) (by decide) (by decide) dX0_init_26 (fun q5 H hP hD hS => ?_)
  have hP : va_P Γ.1 vwCl (((((([(h0, .inr (0, [.ref r7, .int 0, .int 0])), (r7, .inl (Γ.2.1.2.2.2, 6, .inr (.inr (.inr (.inr (va_up (va_up (va_up (va_up (va_up (fun _ => none) (Int32.toNatClampNeg 0) (some (b0 0))) (Int32.toNatClampNeg 1) (some (b1 0))) (Int32.toNatClampNeg 2) (some (b2 0))) (Int32.toNatClampNeg 3) (some (b3 0))) (Int32.toNatClampNeg 4) (some (b4 0))))))))] ++ wSt Γ b0) ++ wSt Γ b1) ++ wSt Γ b2) ++ wSt Γ b3) ++ wSt Γ b4) ++ [(q5, .inr (4, [.null, .null]))]) H := hP
  have hD : va_D A (((((([(h0, .inr (0, [.ref r7, .int 0, .int 0])), (r7, .inl (Γ.2.1.2.2.2, 6, .inr (.inr (.inr (.inr (va_up (va_up (va_up (va_up (va_up (fun _ => none) (Int32.toNatClampNeg 0) (some (b0 0))) (Int32.toNatClampNeg 1) (some (b1 0))) (Int32.toNatClampNeg 2) (some (b2 0))) (Int32.toNatClampNeg 3) (some (b3 0))) (Int32.toNatClampNeg 4) (some (b4 0))))))))] ++ wSt Γ b0) ++ wSt Γ b1) ++ wSt Γ b2) ++ wSt Γ b3) ++ wSt Γ b4) ++ [(q5, .inr (4, [.null, .null]))]) := hD
  refine lv_dup hx hb dX0_init_29 rfl ?_
  have hPc := hP.sub (ws' := [(q5, .inr (4, [.null, .null]))]) [37] rfl
  have hDc := hD.sub (ws' := [(q5, .inr (4, [.null, .null]))]) [37] (by decide) rfl
  have hFc := va_free (wc := [(q5, .inr (4, [.null, .null]))]) hD hS hA [37] rfl
  refine va_callv (va_runIN (As := []) (rest := [.ref q5, .int 5, .ref r7]) ⟨hx, hb, hml, hown, hts⟩ (k_X4_init l Γ q5 H.size) ⟨va_cnB 0 hts gX0_init_X4_init_n17 rfl rfl rfl hN17 (hts (.initialized RX4) (by decide +kernel)) (by decide +kernel) ⟨Nat.le_of_ble_eq_true rfl, Nat.le_of_ble_eq_true rfl⟩, rfl, hts (.instanceMethod yX4_init) (by decide +kernel)⟩ ⟨fun a U g mk q => by obtain ⟨q0, q1, qP, qK, qD, n1, n2⟩ := q; exact ⟨q0, q1, qP, va_K.moved (u := U) (U := U.calling g mk a) (Vm.Alike.refl U.vm) qK, qD, va_Nw.same rfl (show U.vm = (U.calling g mk a).vm from rfl) n1, va_Nw.same rfl (show U.vm = (U.calling g mk a).vm from rfl) n2⟩, fun U hU hW => ⟨rfl, by rw [hU], by rw [hU]; exact hPc, va_K.moved hW.alike hK, hDc.weaken (fun _ _ _ _ => trivial), va_Nw.warmM hW hN9, va_Nw.warmM hW hN18⟩⟩ rfl rfl hl.1 rfl (lv_room (Nat.le_of_ble_eq_true rfl)) dX0_init_30 ⟨by decide, by decide⟩) hS (fun q _ h => hFc q h) hFc (fun b5 t H1 locs ht hvm h5 hB hz1 hk1 hS => ?_)
  obtain ⟨hP1, hD1⟩ := hB
  rw [ht] at hP1
  obtain ⟨hPj, hDj⟩ := va_join (wr := ((((([(h0, .inr (0, [.ref r7, .int 0, .int 0])), (r7, .inl (Γ.2.1.2.2.2, 6, .inr (.inr (.inr (.inr (va_up (va_up (va_up (va_up (va_up (fun _ => none) (Int32.toNatClampNeg 0) (some (b0 0))) (Int32.toNatClampNeg 1) (some (b1 0))) (Int32.toNatClampNeg 2) (some (b2 0))) (Int32.toNatClampNeg 3) (some (b3 0))) (Int32.toNatClampNeg 4) (some (b4 0))))))))] ++ wSt Γ b0) ++ wSt Γ b1) ++ wSt Γ b2) ++ wSt Γ b3) ++ wSt Γ b4)) (w1 := wSt Γ b5) hP hD [37] [0, 1, 2, 3, 4, 5, 6, 7, 8, 9, 10, 11, 12, 13, 14, 15, 16, 17, 18, 19, 20, 21, 22, 23, 24, 25, 26, 27, 28, 29, 30, 31, 32, 33, 34, 35, 36] rfl rfl (by decide) (by decide) hk1 hFc hP1 hD1
  have h5 : b5 0 = q5 := h5
  clear hPc hDc hFc hP1 hD1 hk1 hz1 hP hD
  subst h5
  generalize H1 = H at hPj hS ⊢
  have hP := hPj
  have hD := hDj
  refine va_astq hx hb hK hP hD hS 1 3 37 4 (r := (RX4, TX4, 2)) rfl rfl rfl rfl (i := 5) (vp_in_nI (n := 5) (by decide) (by decide)) dX0_init_33 (fun H locs hP hD hS => ?_)
  have hP : va_P Γ.1 vwCl ((((((([(h0, .inr (0, [.ref r7, .int 0, .int 0])), (r7, .inl (Γ.2.1.2.2.2, 6, .inr (.inr (.inr (.inr (va_up (va_up (va_up (va_up (va_up (va_up (fun _ => none) (Int32.toNatClampNeg 0) (some (b0 0))) (Int32.toNatClampNeg 1) (some (b1 0))) (Int32.toNatClampNeg 2) (some (b2 0))) (Int32.toNatClampNeg 3) (some (b3 0))) (Int32.toNatClampNeg 4) (some (b4 0))) (Int32.toNatClampNeg 5) (some (b5 0))))))))] ++ wSt Γ b0) ++ wSt Γ b1) ++ wSt Γ b2) ++ wSt Γ b3) ++ wSt Γ b4) ++ wSt Γ b5)) H := hP
  have hD : va_D A ((((((([(h0, .inr (0, [.ref r7, .int 0, .int 0])), (r7, .inl (Γ.2.1.2.2.2, 6, .inr (.inr (.inr (.inr (va_up (va_up (va_up (va_up (va_up (va_up (fun _ => none) (Int32.toNatClampNeg 0) (some (b0 0))) (Int32.toNatClampNeg 1) (some (b1 0))) (Int32.toNatClampNeg 2) (some (b2 0))) (Int32.toNatClampNeg 3) (some (b3 0))) (Int32.toNatClampNeg 4) (some (b4 0))) (Int32.toNatClampNeg 5) (some (b5 0))))))))] ++ wSt Γ b0) ++ wSt Γ b1) ++ wSt Γ b2) ++ wSt Γ b3) ++ wSt Γ b4) ++ wSt Γ b5)) := hD
  refine lv_iinc (v := 6) (lv' := [(1, .int 6), (0, .ref h0)]) hx hb dX0_init_34 hl (k := 0) rfl (by decide) (by decide) rfl (fun ls hl => ?_)
  refine lv_goto (tgt := 15) hx hb dX0_init_37 (by decide) ?_
  refine lv_iload_n hx hb dX0_init_15 rfl (lv_at hl 0 rfl) ?_
  refine lv_bipush hx hb dX0_init_16 (v := 6) rfl ?_
  refine lv_icmp_ge (tgt := 40) hx hb dX0_init_18 (by decide) (fun _ => ?_) (fun h => absurd (by decide) h)
  have hP9 : va_P Γ.1 vwCl (wHis Γ h0 r7 (fun j => if j = 0 then b0 else if j = 1 then b1 else if j = 2 then b2 else if j = 3 then b3 else if j = 4 then b4 else b5)) H := fun k q hk => by
    match k with
    | 1 =>
      have e := (Option.some.inj hk).symm
      subst e
      refine ft_refs (hP 1 _ rfl) (fun j hj => ?_)
      have : j = 0 ∨ j = 1 ∨ j = 2 ∨ j = 3 ∨ j = 4 ∨ j = 5 := by omega
      rcases this with e | e | e | e | e | e <;> subst e <;> rfl
    | 0 => exact hP 0 q hk
    | k + 2 => exact hP (k + 2) q hk
  have hD9 : va_D A (wHis Γ h0 r7 (fun j => if j = 0 then b0 else if j = 1 then b1 else if j = 2 then b2 else if j = 3 then b3 else if j = 4 then b4 else b5)) := va_D_fst hD rfl
  exact W.vret hx hb hr (fun t ht hW => ⟨⟨(r7, fun j => if j = 0 then b0 else if j = 1 then b1 else if j = 2 then b2 else if j = 3 then b3 else if j = 4 then b4 else b5), rfl, trivial, by rw [ht]; exact hP9, hD9⟩, hS.F ht⟩) hS.2.2 dX0_init_40
