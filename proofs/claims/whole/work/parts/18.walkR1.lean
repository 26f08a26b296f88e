theorem q_X10_bad_1 : (Cond.fieldLink RX10 7 "FaultTwinsModel" "refused" "[I") ∈ wsX10_bad := List.mem_of_getElem? (i := 1) (by decide +kernel)
set_option maxHeartbeats 4000000 in
set_option maxRecDepth 100000 in
theorem c_X10_bad (l : Launch) (Γ : ft_G) (hI : cR_I Γ)  (σ : ft_St) (Φ : Int32 → ft_St → Prop) (hw : w_X10_bad  σ Φ) : cR_Mi l yX10_bad wsX10_bad ({ frames := 0, cells := 0, slots := 0, locals := 0 } : Room) Γ σ [.ref (Γ.2.2 0)] Φ := by
  refine Met.ofW (cc := cX10_bad) (maxL := 1) (ret := (some .int)) (by decide) rfl ?_
  intro p e s m args below meth c s₁ B hml hv
  obtain ⟨rfl, hP, hK, hN⟩ := hv
  have hx := B.exec
  have hb := B.bytes
  have hr := B.returns
  have hts := atoms_spec (ws := wsX10_bad) B.pre
  have hown : s.vm.findClass RX10 = some m.cls := findClass_of_methodNamed B.named
  have hlocks := B.notSynchronized
  have i10 : ∀ w ∈ wsX100, w ∈ wsX10_bad := fun w h => List.mem_cons_of_mem _ (List.mem_append_right _ h)
  have hP : cR_P Γ s σ s.heap [] := ⟨hP, va_S.rf⟩
  have hl := lv_entry ([.ref (Γ.2.2 0)]) (n := 1) (Nat.le_of_ble_eq_true rfl)
  rw [lg_entry_eq]
  generalize (lg_sl ([.ref (Γ.2.2 0)]) ++ List.replicate (1 - (lg_sl ([.ref (Γ.2.2 0)])).length) Slot.unset).toArray = ls at hl ⊢
  have hl : lv_has ls 1 [(0, .ref (Γ.2.2 0))] := hl
  unfold w_X10_bad at hw
  refine lv_aload_n hx hb dX10_bad_0 rfl (lv_at hl 0 rfl) ?_
  refine gR_10_0 hx hb hts i10 hown hK hP hR_0 (hts _ q_X10_bad_1) dX10_bad_1 ?_
  refine lv_iconst (v := 0) hx hb dX10_bad_4 (by decide) ?_
  refine lv_dup2_11 hx hb dX10_bad_5 rfl rfl ?_
  refine aR_ld hx hb hK hP hR_1 mR_1 hw.1 dX10_bad_6 ?_
  replace hw := hw.2
  refine lv_iconst (v := 1) hx hb dX10_bad_7 (by decide) ?_
  refine lv_iadd hx hb dX10_bad_8 ?_
  refine aR_st hx hb hK hI hP hR_1 mR_1 hw.1 dX10_bad_9 (fun H locs hP => ?_)
  replace hw := hw.2
  obtain ⟨s1, hs1⟩ : ∃ u, u = ft_sA σ 1 (upd (σ.2.1 1) (Int32.toNatClampNeg 0) ((σ.2.1 1 (Int32.toNatClampNeg 0)) + 1)) := ⟨_, rfl⟩
  rw [← hs1] at hP
  replace hw := hw s1 hs1
  refine lv_bipush (v := (-2)) hx hb dX10_bad_10 (by decide) ?_
  exact W.iret hx hb hr (cR_ri hP hw) hP.2.2.2 dX10_bad_12
theorem q_X10_no_1 : (Cond.fieldLink RX10 7 "FaultTwinsModel" "refused" "[I") ∈ wsX10_no := List.mem_of_getElem? (i := 1) (by decide +kernel)
set_option maxHeartbeats 4000000 in
set_option maxRecDepth 100000 in
theorem c_X10_no (l : Launch) (Γ : ft_G) (hI : cR_I Γ)  (σ : ft_St) (Φ : Int32 → ft_St → Prop) (hw : w_X10_no  σ Φ) : cR_Mi l yX10_no wsX10_no ({ frames := 0, cells := 0, slots := 0, locals := 0 } : Room) Γ σ [.ref (Γ.2.2 0)] Φ := by
  refine Met.ofW (cc := cX10_no) (maxL := 1) (ret := (some .int)) (by decide) rfl ?_
  intro p e s m args below meth c s₁ B hml hv
  obtain ⟨rfl, hP, hK, hN⟩ := hv
  have hx := B.exec
  have hb := B.bytes
  have hr := B.returns
  have hts := atoms_spec (ws := wsX10_no) B.pre
  have hown : s.vm.findClass RX10 = some m.cls := findClass_of_methodNamed B.named
  have hlocks := B.notSynchronized
  have i10 : ∀ w ∈ wsX100, w ∈ wsX10_no := fun w h => List.mem_cons_of_mem _ (List.mem_append_right _ h)
  have hP : cR_P Γ s σ s.heap [] := ⟨hP, va_S.rf⟩
  have hl := lv_entry ([.ref (Γ.2.2 0)]) (n := 1) (Nat.le_of_ble_eq_true rfl)
  rw [lg_entry_eq]
  generalize (lg_sl ([.ref (Γ.2.2 0)]) ++ List.replicate (1 - (lg_sl ([.ref (Γ.2.2 0)])).length) Slot.unset).toArray = ls at hl ⊢
  have hl : lv_has ls 1 [(0, .ref (Γ.2.2 0))] := hl
  unfold w_X10_no at hw
  refine lv_aload_n hx hb dX10_no_0 rfl (lv_at hl 0 rfl) ?_
  refine gR_10_0 hx hb hts i10 hown hK hP hR_0 (hts _ q_X10_no_1) dX10_no_1 ?_
  refine lv_iconst (v := 1) hx hb dX10_no_4 (by decide) ?_
  refine lv_dup2_11 hx hb dX10_no_5 rfl rfl ?_
  refine aR_ld hx hb hK hP hR_1 mR_1 hw.1 dX10_no_6 ?_
  replace hw := hw.2
  refine lv_iconst (v := 1) hx hb dX10_no_7 (by decide) ?_
  refine lv_iadd hx hb dX10_no_8 ?_
  refine aR_st hx hb hK hI hP hR_1 mR_1 hw.1 dX10_no_9 (fun H locs hP => ?_)
  replace hw := hw.2
  obtain ⟨s1, hs1⟩ : ∃ u, u = ft_sA σ 1 (upd (σ.2.1 1) (Int32.toNatClampNeg 1) ((σ.2.1 1 (Int32.toNatClampNeg 1)) + 1)) := ⟨_, rfl⟩
  rw [← hs1] at hP
  replace hw := hw s1 hs1
  refine lv_bipush (v := (-3)) hx hb dX10_no_10 (by decide) ?_
  exact W.iret hx hb hr (cR_ri hP hw) hP.2.2.2 dX10_no_12
theorem q_X10_full_1 : (Cond.fieldLink RX10 7 "FaultTwinsModel" "refused" "[I") ∈ wsX10_full := List.mem_of_getElem? (i := 1) (by decide +kernel)
set_option maxHeartbeats 4000000 in
set_option maxRecDepth 100000 in
theorem c_X10_full (l : Launch) (Γ : ft_G) (hI : cR_I Γ)  (σ : ft_St) (Φ : Int32 → ft_St → Prop) (hw : w_X10_full  σ Φ) : cR_Mi l yX10_full wsX10_full ({ frames := 0, cells := 0, slots := 0, locals := 0 } : Room) Γ σ [.ref (Γ.2.2 0)] Φ := by
  refine Met.ofW (cc := cX10_full) (maxL := 1) (ret := (some .int)) (by decide) rfl ?_
  intro p e s m args below meth c s₁ B hml hv
  obtain ⟨rfl, hP, hK, hN⟩ := hv
  have hx := B.exec
  have hb := B.bytes
  have hr := B.returns
  have hts := atoms_spec (ws := wsX10_full) B.pre
  have hown : s.vm.findClass RX10 = some m.cls := findClass_of_methodNamed B.named
  have hlocks := B.notSynchronized
  have i10 : ∀ w ∈ wsX100, w ∈ wsX10_full := fun w h => List.mem_cons_of_mem _ (List.mem_append_right _ h)
  have hP : cR_P Γ s σ s.heap [] := ⟨hP, va_S.rf⟩
  have hl := lv_entry ([.ref (Γ.2.2 0)]) (n := 1) (Nat.le_of_ble_eq_true rfl)
  rw [lg_entry_eq]
  generalize (lg_sl ([.ref (Γ.2.2 0)]) ++ List.replicate (1 - (lg_sl ([.ref (Γ.2.2 0)])).length) Slot.unset).toArray = ls at hl ⊢
  have hl : lv_has ls 1 [(0, .ref (Γ.2.2 0))] := hl
  unfold w_X10_full at hw
  refine lv_aload_n hx hb dX10_full_0 rfl (lv_at hl 0 rfl) ?_
  refine gR_10_0 hx hb hts i10 hown hK hP hR_0 (hts _ q_X10_full_1) dX10_full_1 ?_
  refine lv_iconst (v := 2) hx hb dX10_full_4 (by decide) ?_
  refine lv_dup2_11 hx hb dX10_full_5 rfl rfl ?_
  refine aR_ld hx hb hK hP hR_1 mR_1 hw.1 dX10_full_6 ?_
  replace hw := hw.2
  refine lv_iconst (v := 1) hx hb dX10_full_7 (by decide) ?_
  refine lv_iadd hx hb dX10_full_8 ?_
  refine aR_st hx hb hK hI hP hR_1 mR_1 hw.1 dX10_full_9 (fun H locs hP => ?_)
  replace hw := hw.2
  obtain ⟨s1, hs1⟩ : ∃ u, u = ft_sA σ 1 (upd (σ.2.1 1) (Int32.toNatClampNeg 2) ((σ.2.1 1 (Int32.toNatClampNeg 2)) + 1)) := ⟨_, rfl⟩
  rw [← hs1] at hP
  replace hw := hw s1 hs1
  refine lv_bipush (v := (-4)) hx hb dX10_full_10 (by decide) ?_
  exact W.iret hx hb hr (cR_ri hP hw) hP.2.2.2 dX10_full_12
set_option maxHeartbeats 4000000 in
set_option maxRecDepth 100000 in
theorem c_X10_in (l : Launch) (Γ : ft_G) (hI : cR_I Γ) (a0 : Int32) (a1 : Int32) (a2 : Int32) (σ : ft_St) (Φ : Int32 → Prop) (hw : w_X10_in a0 a1 a2  Φ) : cR_Mip l yX10_in wsX10_in ({ frames := 0, cells := 0, slots := 0, locals := 0 } : Room) Γ σ [.int a0, .int a1, .int a2] Φ := by
  refine Met.ofW (cc := cX10_in) (maxL := 3) (ret := (some .boolean)) (by decide) rfl ?_
  intro p e s m args below meth c s₁ B hml hv
  obtain ⟨rfl, hP, hK, hN⟩ := hv
  have hx := B.exec
  have hb := B.bytes
  have hr := B.returns
  have hts := atoms_spec (ws := wsX10_in) B.pre
  have hown : s.vm.findClass RX10 = some m.cls := findClass_of_methodNamed B.named
  have hlocks := B.notSynchronized
  have hP : cR_P Γ s σ s.heap [] := ⟨hP, va_S.rf⟩
  have hl := lv_entry ([.int a0, .int a1, .int a2]) (n := 3) (Nat.le_of_ble_eq_true rfl)
  rw [lg_entry_eq]
  generalize (lg_sl ([.int a0, .int a1, .int a2]) ++ List.replicate (3 - (lg_sl ([.int a0, .int a1, .int a2])).length) Slot.unset).toArray = ls at hl ⊢
  have hl : lv_has ls 3 [(0, .int a0), (1, .int a1), (2, .int a2)] := hl
  unfold w_X10_in at hw
  refine lv_iload_n hx hb dX10_in_0 rfl (lv_at hl 0 rfl) ?_
  refine lv_iload_n hx hb dX10_in_1 rfl (lv_at hl 1 rfl) ?_
  refine ft_cut (hw (∀ (H : Heap) (locs : List Loc) (ls : Array Slot), cR_P Γ s σ H locs → lv_has ls 3 [] → cR_Wi p l e ({ frames := 0, cells := 0, slots := 0, locals := 0 } : Room) s m [.int a0, .int a1, .int a2] below meth c Γ (fun r u => u = σ ∧ Φ r) H locs 14 ls []) (fun  hw H locs ls hP hl => ?_)) (fun hw => ?_)
  · refine lv_iconst (v := 0) hx hb dX10_in_14 (by decide) ?_
    exact W.zret hx hb hr rfl (cR_ri hP ⟨rfl, hw⟩) hP.2.2.2 dX10_in_15
  · refine lv_icmp_lt (tgt := 14) hx hb dX10_in_2 (by decide) (fun h => ?_) (fun h => ?_)
    · replace hw := hw.1 h
      exact hw _ _ _ hP (lv_sub hl [] rfl)
    · replace hw := hw.2 h
      refine lv_iload_n hx hb dX10_in_5 rfl (lv_at hl 0 rfl) ?_
      refine lv_iload_n hx hb dX10_in_6 rfl (lv_at hl 2 rfl) ?_
      refine lv_icmp_gt (tgt := 14) hx hb dX10_in_7 (by decide) (fun h => ?_) (fun h => ?_)
      · replace hw := hw.1 h
        exact hw _ _ _ hP (lv_sub hl [] rfl)
      · replace hw := hw.2 h
        refine lv_iconst (v := 1) hx hb dX10_in_10 (by decide) ?_
        refine lv_goto (tgt := 15) hx hb dX10_in_11 (by decide) ?_
        exact W.zret hx hb hr rfl (cR_ri hP ⟨rfl, hw⟩) hP.2.2.2 dX10_in_15
set_option maxHeartbeats 4000000 in
set_option maxRecDepth 100000 in
theorem c_X10_isPlace (l : Launch) (Γ : ft_G) (hI : cR_I Γ) (a0 : Int32) (σ : ft_St) (Φ : Int32 → Prop) (hw : w_X10_isPlace a0  Φ) : cR_Mip l yX10_isPlace wsX10_isPlace ({ frames := 1, cells := 0, slots := 0, locals := 22 } : Room) Γ σ [.int a0] Φ := by
  refine Met.ofW (cc := cX10_isPlace) (maxL := 1) (ret := (some .boolean)) (by decide) rfl ?_
  intro p e s m args below meth c s₁ B hml hv
  obtain ⟨rfl, hP, hK, hN⟩ := hv
  have hx := B.exec
  have hb := B.bytes
  have hr := B.returns
  have hts := atoms_spec (ws := wsX10_isPlace) B.pre
  have hown : s.vm.findClass RX10 = some m.cls := findClass_of_methodNamed B.named
  have hlocks := B.notSynchronized
  have hP : cR_P Γ s σ s.heap [] := ⟨hP, va_S.rf⟩
  have hl := lv_entry ([.int a0]) (n := 1) (Nat.le_of_ble_eq_true rfl)
  rw [lg_entry_eq]
  generalize (lg_sl ([.int a0]) ++ List.replicate (1 - (lg_sl ([.int a0])).length) Slot.unset).toArray = ls at hl ⊢
  have hl : lv_has ls 1 [(0, .int a0)] := hl
  unfold w_X10_isPlace at hw
  refine lv_iload_n hx hb dX10_isPlace_0 rfl (lv_at hl 0 rfl) ?_
  refine lv_iconst (v := 0) hx hb dX10_isPlace_1 (by decide) ?_
  refine lv_bipush (v := 9) hx hb dX10_isPlace_2 (by decide) ?_
  refine cR_Sip (rest := []) ⟨hx, hb, hml, hown, hts⟩ (c_X10_in l Γ hI a0 0 9 σ _ hw) (va_cwS 3 hts gX10_isPlace_X10_in rfl rfl rfl (by decide +kernel) ⟨Nat.le_of_ble_eq_true rfl, Nat.le_of_ble_eq_true rfl⟩) hK hN hP rfl hl.1 rfl (Nat.le_of_ble_eq_true rfl) dX10_isPlace_4 ⟨Nat.le_refl _, Nat.le_refl _⟩ (fun r1 H locs hw hP => ?_)
  exact W.zret hx hb hr (ft_bz_n hw.1) (cR_ri hP ⟨rfl, hw.2⟩) hP.2.2.2 dX10_isPlace_7
set_option maxHeartbeats 4000000 in
set_option maxRecDepth 100000 in
theorem c_X10_isDeed (l : Launch) (Γ : ft_G) (hI : cR_I Γ) (a0 : Int32) (σ : ft_St) (Φ : Int32 → Prop) (hw : w_X10_isDeed a0  Φ) : cR_Mip l yX10_isDeed wsX10_isDeed ({ frames := 1, cells := 0, slots := 0, locals := 22 } : Room) Γ σ [.int a0] Φ := by
  refine Met.ofW (cc := cX10_isDeed) (maxL := 1) (ret := (some .boolean)) (by decide) rfl ?_
  intro p e s m args below meth c s₁ B hml hv
  obtain ⟨rfl, hP, hK, hN⟩ := hv
  have hx := B.exec
  have hb := B.bytes
  have hr := B.returns
  have hts := atoms_spec (ws := wsX10_isDeed) B.pre
  have hown : s.vm.findClass RX10 = some m.cls := findClass_of_methodNamed B.named
  have hlocks := B.notSynchronized
  have hP : cR_P Γ s σ s.heap [] := ⟨hP, va_S.rf⟩
  have hl := lv_entry ([.int a0]) (n := 1) (Nat.le_of_ble_eq_true rfl)
  rw [lg_entry_eq]
  generalize (lg_sl ([.int a0]) ++ List.replicate (1 - (lg_sl ([.int a0])).length) Slot.unset).toArray = ls at hl ⊢
  have hl : lv_has ls 1 [(0, .int a0)] := hl
  unfold w_X10_isDeed at hw
  refine lv_iload_n hx hb dX10_isDeed_0 rfl (lv_at hl 0 rfl) ?_
  refine lv_iconst (v := 0) hx hb dX10_isDeed_1 (by decide) ?_
  refine lv_bipush (v := 7) hx hb dX10_isDeed_2 (by decide) ?_
  refine cR_Sip (rest := []) ⟨hx, hb, hml, hown, hts⟩ (c_X10_in l Γ hI a0 0 7 σ _ hw) (va_cwS 3 hts gX10_isDeed_X10_in rfl rfl rfl (by decide +kernel) ⟨Nat.le_of_ble_eq_true rfl, Nat.le_of_ble_eq_true rfl⟩) hK hN hP rfl hl.1 rfl (Nat.le_of_ble_eq_true rfl) dX10_isDeed_4 ⟨Nat.le_refl _, Nat.le_refl _⟩ (fun r1 H locs hw hP => ?_)
  exact W.zret hx hb hr (ft_bz_n hw.1) (cR_ri hP ⟨rfl, hw.2⟩) hP.2.2.2 dX10_isDeed_7
theorem q_X10_leavesState_1 : (Cond.fieldLink RX10 67 "FaultTwinsModel" "states" "I") ∈ wsX10_leavesState := List.mem_of_getElem? (i := 1) (by decide +kernel)
theorem q_X10_leavesState_2 : (Cond.fieldLink RX10 32 "FaultTwinsModel" "kept" "[I") ∈ wsX10_leavesState := List.mem_of_getElem? (i := 2) (by decide +kernel)
theorem q_X10_leavesState_3 : (Cond.fieldLink RX10 70 "FaultTwinsModel" "many" "I") ∈ wsX10_leavesState := List.mem_of_getElem? (i := 3) (by decide +kernel)
theorem q_X10_leavesState_4 : (Cond.fieldLink RX10 22 "FaultTwinsModel" "seen" "I") ∈ wsX10_leavesState := List.mem_of_getElem? (i := 4) (by decide +kernel)
theorem q_X10_leavesState_5 : (Cond.fieldLink RX10 73 "FaultTwinsModel" "faults" "I") ∈ wsX10_leavesState := List.mem_of_getElem? (i := 5) (by decide +kernel)
theorem q_X10_leavesState_6 : (Cond.fieldLink RX10 26 "FaultTwinsModel" "known" "I") ∈ wsX10_leavesState := List.mem_of_getElem? (i := 6) (by decide +kernel)
theorem q_X10_leavesState_7 : (Cond.fieldLink RX10 76 "FaultTwinsModel" "sights" "I") ∈ wsX10_leavesState := List.mem_of_getElem? (i := 7) (by decide +kernel)
theorem q_X10_leavesState_8 : (Cond.fieldLink RX10 13 "FaultTwinsModel" "from" "[I") ∈ wsX10_leavesState := List.mem_of_getElem? (i := 8) (by decide +kernel)
theorem q_X10_leavesState_9 : (Cond.fieldLink RX10 16 "FaultTwinsModel" "by" "[I") ∈ wsX10_leavesState := List.mem_of_getElem? (i := 9) (by decide +kernel)
theorem q_X10_leavesState_10 : (Cond.fieldLink RX10 19 "FaultTwinsModel" "to" "[I") ∈ wsX10_leavesState := List.mem_of_getElem? (i := 10) (by decide +kernel)
theorem q_X10_leavesState_11 : (Cond.fieldLink RX10 29 "FaultTwinsModel" "sight" "[I") ∈ wsX10_leavesState := List.mem_of_getElem? (i := 11) (by decide +kernel)
set_option maxHeartbeats 4000000 in
set_option maxRecDepth 100000 in
theorem c_X10_leavesState (l : Launch) (Γ : ft_G) (hI : cR_I Γ)  (σ : ft_St) (Φ : ft_St → Prop) (hw : w_X10_leavesState  σ Φ) : cR_Mv l yX10_leavesState wsX10_leavesState ({ frames := 0, cells := 0, slots := 0, locals := 0 } : Room) Γ σ [.ref (Γ.2.2 0)] Φ := by
  refine Met.ofW (cc := cX10_leavesState) (maxL := 3) (ret := none) (by decide) rfl ?_
  intro p e s m args below meth c s₁ B hml hv
  obtain ⟨rfl, hP, hK, hN⟩ := hv
  have hx := B.exec
  have hb := B.bytes
  have hr := B.returns
  have hts := atoms_spec (ws := wsX10_leavesState) B.pre
  have hown : s.vm.findClass RX10 = some m.cls := findClass_of_methodNamed B.named
  have hlocks := B.notSynchronized
  have i10 : ∀ w ∈ wsX100, w ∈ wsX10_leavesState := fun w h => List.mem_cons_of_mem _ (List.mem_append_right _ h)
  have hP : cR_P Γ s σ s.heap [] := ⟨hP, va_S.rf⟩
  have hl := lv_entry ([.ref (Γ.2.2 0)]) (n := 3) (Nat.le_of_ble_eq_true rfl)
  rw [lg_entry_eq]
  generalize (lg_sl ([.ref (Γ.2.2 0)]) ++ List.replicate (3 - (lg_sl ([.ref (Γ.2.2 0)])).length) Slot.unset).toArray = ls at hl ⊢
  have hl : lv_has ls 3 [(0, .ref (Γ.2.2 0))] := hl
  unfold w_X10_leavesState at hw
  refine lv_aload_n hx hb dX10_leavesState_0 rfl (lv_at hl 0 rfl) ?_
  refine gR_10_10 hx hb hts i10 hown hK hP hR_0 (hts _ q_X10_leavesState_1) dX10_leavesState_1 ?_
  refine lv_bipush (v := 6) hx hb dX10_leavesState_4 (by decide) ?_
  refine ft_cut (hw (fun (s1 : ft_St) => ∀ (H : Heap) (locs : List Loc) (ls : Array Slot), cR_P Γ s s1 H locs → lv_has ls 3 [(0, .ref (Γ.2.2 0))] → cR_Wv p l e ({ frames := 0, cells := 0, slots := 0, locals := 0 } : Room) s m [.ref (Γ.2.2 0)] below meth c Γ Φ H locs 49 ls []) (fun s1 hw H locs ls hP hl => ?_)) (fun hw => ?_)
  · refine lv_bipush (v := 85) hx hb dX10_leavesState_49 (by decide) ?_
    refine lv_aload_n hx hb dX10_leavesState_51 rfl (lv_at hl 0 rfl) ?_
    refine gR_10_10 hx hb hts i10 hown hK hP hR_0 (hts _ q_X10_leavesState_1) dX10_leavesState_52 ?_
    refine lv_imul hx hb dX10_leavesState_55 ?_
    refine lv_istore_n (lv' := [(1, .int (85 * (s1.1 0 10))), (0, .ref (Γ.2.2 0))]) hx hb dX10_leavesState_56 rfl hl (by decide) rfl (fun ls hl => ?_)
    refine lv_aload_n hx hb dX10_leavesState_57 rfl (lv_at hl 1 rfl) ?_
    refine gR_10_11 hx hb hts i10 hown hK hP hR_0 (hts _ q_X10_leavesState_2) dX10_leavesState_58 ?_
    refine lv_iload_n hx hb dX10_leavesState_61 rfl (lv_at hl 0 rfl) ?_
    refine lv_aload_n hx hb dX10_leavesState_62 rfl (lv_at hl 1 rfl) ?_
    refine gR_10_1 hx hb hts i10 hown hK hP hR_0 (hts _ q_X10_leavesState_3) dX10_leavesState_63 ?_
    refine aR_st hx hb hK hI hP hR_6 mR_6 hw.1 dX10_leavesState_66 (fun H locs hP => ?_)
    replace hw := hw.2
    obtain ⟨s3, hs3⟩ : ∃ u, u = ft_sA s1 6 (upd (s1.2.1 6) (Int32.toNatClampNeg (85 * (s1.1 0 10))) (s1.1 0 1)) := ⟨_, rfl⟩
    rw [← hs3] at hP
    replace hw := hw s3 hs3
    refine lv_aload_n hx hb dX10_leavesState_67 rfl (lv_at hl 1 rfl) ?_
    refine gR_10_11 hx hb hts i10 hown hK hP hR_0 (hts _ q_X10_leavesState_2) dX10_leavesState_68 ?_
    refine lv_iload_n hx hb dX10_leavesState_71 rfl (lv_at hl 0 rfl) ?_
    refine lv_iconst (v := 1) hx hb dX10_leavesState_72 (by decide) ?_
    refine lv_iadd hx hb dX10_leavesState_73 ?_
    refine lv_aload_n hx hb dX10_leavesState_74 rfl (lv_at hl 1 rfl) ?_
    refine gR_10_5 hx hb hts i10 hown hK hP hR_0 (hts _ q_X10_leavesState_4) dX10_leavesState_75 ?_
    refine aR_st hx hb hK hI hP hR_6 mR_6 hw.1 dX10_leavesState_78 (fun H locs hP => ?_)
    replace hw := hw.2
    obtain ⟨s4, hs4⟩ : ∃ u, u = ft_sA s3 6 (upd (s3.2.1 6) (Int32.toNatClampNeg ((85 * (s1.1 0 10)) + 1)) (s3.1 0 5)) := ⟨_, rfl⟩
    rw [← hs4] at hP
    replace hw := hw s4 hs4
    refine lv_aload_n hx hb dX10_leavesState_79 rfl (lv_at hl 1 rfl) ?_
    refine gR_10_11 hx hb hts i10 hown hK hP hR_0 (hts _ q_X10_leavesState_2) dX10_leavesState_80 ?_
    refine lv_iload_n hx hb dX10_leavesState_83 rfl (lv_at hl 0 rfl) ?_
    refine lv_iconst (v := 2) hx hb dX10_leavesState_84 (by decide) ?_
    refine lv_iadd hx hb dX10_leavesState_85 ?_
    refine lv_aload_n hx hb dX10_leavesState_86 rfl (lv_at hl 1 rfl) ?_
    refine gR_10_6 hx hb hts i10 hown hK hP hR_0 (hts _ q_X10_leavesState_5) dX10_leavesState_87 ?_
    refine aR_st hx hb hK hI hP hR_6 mR_6 hw.1 dX10_leavesState_90 (fun H locs hP => ?_)
    replace hw := hw.2
    obtain ⟨s5, hs5⟩ : ∃ u, u = ft_sA s4 6 (upd (s4.2.1 6) (Int32.toNatClampNeg ((85 * (s1.1 0 10)) + 2)) (s4.1 0 6)) := ⟨_, rfl⟩
    rw [← hs5] at hP
    replace hw := hw s5 hs5
    refine lv_aload_n hx hb dX10_leavesState_91 rfl (lv_at hl 1 rfl) ?_
    refine gR_10_11 hx hb hts i10 hown hK hP hR_0 (hts _ q_X10_leavesState_2) dX10_leavesState_92 ?_
    refine lv_iload_n hx hb dX10_leavesState_95 rfl (lv_at hl 0 rfl) ?_
    refine lv_iconst (v := 3) hx hb dX10_leavesState_96 (by decide) ?_
    refine lv_iadd hx hb dX10_leavesState_97 ?_
    refine lv_aload_n hx hb dX10_leavesState_98 rfl (lv_at hl 1 rfl) ?_
    refine gR_10_7 hx hb hts i10 hown hK hP hR_0 (hts _ q_X10_leavesState_6) dX10_leavesState_99 ?_
    refine aR_st hx hb hK hI hP hR_6 mR_6 hw.1 dX10_leavesState_102 (fun H locs hP => ?_)
    replace hw := hw.2
    obtain ⟨s6, hs6⟩ : ∃ u, u = ft_sA s5 6 (upd (s5.2.1 6) (Int32.toNatClampNeg ((85 * (s1.1 0 10)) + 3)) (s5.1 0 7)) := ⟨_, rfl⟩
    rw [← hs6] at hP
    replace hw := hw s6 hs6
    refine lv_aload_n hx hb dX10_leavesState_103 rfl (lv_at hl 1 rfl) ?_
    refine gR_10_11 hx hb hts i10 hown hK hP hR_0 (hts _ q_X10_leavesState_2) dX10_leavesState_104 ?_
    refine lv_iload_n hx hb dX10_leavesState_107 rfl (lv_at hl 0 rfl) ?_
    refine lv_iconst (v := 4) hx hb dX10_leavesState_108 (by decide) ?_
    refine lv_iadd hx hb dX10_leavesState_109 ?_
    refine lv_aload_n hx hb dX10_leavesState_110 rfl (lv_at hl 1 rfl) ?_
    refine gR_10_8 hx hb hts i10 hown hK hP hR_0 (hts _ q_X10_leavesState_7) dX10_leavesState_111 ?_
    refine aR_st hx hb hK hI hP hR_6 mR_6 hw.1 dX10_leavesState_114 (fun H locs hP => ?_)
    replace hw := hw.2
    obtain ⟨s7, hs7⟩ : ∃ u, u = ft_sA s6 6 (upd (s6.2.1 6) (Int32.toNatClampNeg ((85 * (s1.1 0 10)) + 4)) (s6.1 0 8)) := ⟨_, rfl⟩
    rw [← hs7] at hP
    replace hw := hw s7 hs7
    refine lv_iconst (v := 0) hx hb dX10_leavesState_115 (by decide) ?_
    refine lv_istore_n (lv' := [(2, .int 0), (1, .int (85 * (s1.1 0 10))), (0, .ref (Γ.2.2 0))]) hx hb dX10_leavesState_116 rfl hl (by decide) rfl (fun ls hl => ?_)
    refine hw (fun (x8 : Int32) (s9 : ft_St) => ∀ (H : Heap) (locs : List Loc) (ls : Array Slot), cR_P Γ s s9 H locs → lv_has ls 3 [(0, .ref (Γ.2.2 0)), (1, .int (85 * (s1.1 0 10))), (2, .int x8)] → cR_Wv p l e ({ frames := 0, cells := 0, slots := 0, locals := 0 } : Room) s m [.ref (Γ.2.2 0)] below meth c Γ Φ H locs 117 ls []) (fun x8 s9 hw H locs ls hP hl => ?_) _ _ _ hP (lv_sub hl [2, 1, 0] rfl)
    refine lv_iload_n hx hb dX10_leavesState_117 rfl (lv_at hl 2 rfl) ?_
    refine lv_bipush (v := 24) hx hb dX10_leavesState_118 (by decide) ?_
    refine lv_icmp_ge (tgt := 179) hx hb dX10_leavesState_120 (by decide) (fun h => ?_) (fun h => ?_)
    · replace hw := hw.1 h
      refine lv_iconst (v := 0) hx hb dX10_leavesState_179 (by decide) ?_
      refine lv_istore_n (lv' := [(2, .int 0), (0, .ref (Γ.2.2 0)), (1, .int (85 * (s1.1 0 10)))]) hx hb dX10_leavesState_180 rfl hl (by decide) rfl (fun ls hl => ?_)
      refine hw (fun (x11 : Int32) (s12 : ft_St) => ∀ (H : Heap) (locs : List Loc) (ls : Array Slot), cR_P Γ s s12 H locs → lv_has ls 3 [(0, .ref (Γ.2.2 0)), (1, .int (85 * (s1.1 0 10))), (2, .int x11)] → cR_Wv p l e ({ frames := 0, cells := 0, slots := 0, locals := 0 } : Room) s m [.ref (Γ.2.2 0)] below meth c Γ Φ H locs 181 ls []) (fun x11 s12 hw H locs ls hP hl => ?_) _ _ _ hP (lv_sub hl [1, 2, 0] rfl)
      refine lv_iload_n hx hb dX10_leavesState_181 rfl (lv_at hl 2 rfl) ?_
      refine lv_bipush (v := 8) hx hb dX10_leavesState_182 (by decide) ?_
      refine lv_icmp_ge (tgt := 210) hx hb dX10_leavesState_184 (by decide) (fun h => ?_) (fun h => ?_)
      · replace hw := hw.1 h
        refine lv_aload_n hx hb dX10_leavesState_210 rfl (lv_at hl 0 rfl) ?_
        refine lv_dup hx hb dX10_leavesState_211 rfl ?_
        refine gR_10_10 hx hb hts i10 hown hK hP hR_0 (hts _ q_X10_leavesState_1) dX10_leavesState_212 ?_
        refine lv_iconst (v := 1) hx hb dX10_leavesState_215 (by decide) ?_
        refine lv_iadd hx hb dX10_leavesState_216 ?_
        refine pR_10_10 hx hb hts i10 hown hK hI hP hR_0 (hts _ q_X10_leavesState_1) dX10_leavesState_217 (fun H locs hP => ?_)
        obtain ⟨s14, hs14⟩ : ∃ u, u = ft_sF s12 0 10 ((s12.1 0 10) + 1) := ⟨_, rfl⟩
        rw [← hs14] at hP
        replace hw := hw s14 hs14
        exact W.vret hx hb hr (cR_rv hP hw) hP.2.2.2 dX10_leavesState_220
      · replace hw := hw.2 h
        refine lv_aload_n hx hb dX10_leavesState_187 rfl (lv_at hl 0 rfl) ?_
        refine gR_10_11 hx hb hts i10 hown hK hP hR_0 (hts _ q_X10_leavesState_2) dX10_leavesState_188 ?_
        refine lv_iload_n hx hb dX10_leavesState_191 rfl (lv_at hl 1 rfl) ?_
        refine lv_bipush (v := 77) hx hb dX10_leavesState_192 (by decide) ?_
        refine lv_iadd hx hb dX10_leavesState_194 ?_
        refine lv_iload_n hx hb dX10_leavesState_195 rfl (lv_at hl 2 rfl) ?_
        refine lv_iadd hx hb dX10_leavesState_196 ?_
        refine lv_aload_n hx hb dX10_leavesState_197 rfl (lv_at hl 0 rfl) ?_
        refine gR_10_9 hx hb hts i10 hown hK hP hR_0 (hts _ q_X10_leavesState_11) dX10_leavesState_198 ?_
        refine lv_iload_n hx hb dX10_leavesState_201 rfl (lv_at hl 2 rfl) ?_
        refine aR_ld hx hb hK hP hR_5 mR_5 hw.1 dX10_leavesState_202 ?_
        replace hw := hw.2
        refine aR_st hx hb hK hI hP hR_6 mR_6 hw.1 dX10_leavesState_203 (fun H locs hP => ?_)
        replace hw := hw.2
        obtain ⟨s15, hs15⟩ : ∃ u, u = ft_sA s12 6 (upd (s12.2.1 6) (Int32.toNatClampNeg (((85 * (s1.1 0 10)) + 77) + x11)) (s12.2.1 5 (Int32.toNatClampNeg x11))) := ⟨_, rfl⟩
        rw [← hs15] at hP
        replace hw := hw s15 hs15
        refine lv_iinc (v := x11 + 1) (lv' := [(2, .int (x11 + 1)), (0, .ref (Γ.2.2 0)), (1, .int (85 * (s1.1 0 10)))]) hx hb dX10_leavesState_204 hl (k := 2) rfl (congrArg (fun z => x11 + z) (by decide)) (by decide) rfl (fun ls hl => ?_)
        refine lv_goto (tgt := 181) hx hb dX10_leavesState_207 (by decide) ?_
        exact hw _ _ _ hP (lv_sub hl [1, 2, 0] rfl)
    · replace hw := hw.2 h
      refine lv_aload_n hx hb dX10_leavesState_123 rfl (lv_at hl 0 rfl) ?_
      refine gR_10_11 hx hb hts i10 hown hK hP hR_0 (hts _ q_X10_leavesState_2) dX10_leavesState_124 ?_
      refine lv_iload_n hx hb dX10_leavesState_127 rfl (lv_at hl 1 rfl) ?_
      refine lv_iconst (v := 5) hx hb dX10_leavesState_128 (by decide) ?_
      refine lv_iadd hx hb dX10_leavesState_129 ?_
      refine lv_iload_n hx hb dX10_leavesState_130 rfl (lv_at hl 2 rfl) ?_
      refine lv_iadd hx hb dX10_leavesState_131 ?_
      refine lv_aload_n hx hb dX10_leavesState_132 rfl (lv_at hl 0 rfl) ?_
      refine gR_10_2 hx hb hts i10 hown hK hP hR_0 (hts _ q_X10_leavesState_8) dX10_leavesState_133 ?_
      refine lv_iload_n hx hb dX10_leavesState_136 rfl (lv_at hl 2 rfl) ?_
      refine aR_ld hx hb hK hP hR_2 mR_2 hw.1 dX10_leavesState_137 ?_
      replace hw := hw.2
      refine aR_st hx hb hK hI hP hR_6 mR_6 hw.1 dX10_leavesState_138 (fun H locs hP => ?_)
      replace hw := hw.2
      obtain ⟨s16, hs16⟩ : ∃ u, u = ft_sA s9 6 (upd (s9.2.1 6) (Int32.toNatClampNeg (((85 * (s1.1 0 10)) + 5) + x8)) (s9.2.1 2 (Int32.toNatClampNeg x8))) := ⟨_, rfl⟩
      rw [← hs16] at hP
      replace hw := hw s16 hs16
      refine lv_aload_n hx hb dX10_leavesState_139 rfl (lv_at hl 0 rfl) ?_
      refine gR_10_11 hx hb hts i10 hown hK hP hR_0 (hts _ q_X10_leavesState_2) dX10_leavesState_140 ?_
      refine lv_iload_n hx hb dX10_leavesState_143 rfl (lv_at hl 1 rfl) ?_
      refine lv_bipush (v := 29) hx hb dX10_leavesState_144 (by decide) ?_
      refine lv_iadd hx hb dX10_leavesState_146 ?_
      refine lv_iload_n hx hb dX10_leavesState_147 rfl (lv_at hl 2 rfl) ?_
      refine lv_iadd hx hb dX10_leavesState_148 ?_
      refine lv_aload_n hx hb dX10_leavesState_149 rfl (lv_at hl 0 rfl) ?_
      refine gR_10_3 hx hb hts i10 hown hK hP hR_0 (hts _ q_X10_leavesState_9) dX10_leavesState_150 ?_
      refine lv_iload_n hx hb dX10_leavesState_153 rfl (lv_at hl 2 rfl) ?_
      refine aR_ld hx hb hK hP hR_3 mR_3 hw.1 dX10_leavesState_154 ?_
      replace hw := hw.2
      refine aR_st hx hb hK hI hP hR_6 mR_6 hw.1 dX10_leavesState_155 (fun H locs hP => ?_)
      replace hw := hw.2
      obtain ⟨s17, hs17⟩ : ∃ u, u = ft_sA s16 6 (upd (s16.2.1 6) (Int32.toNatClampNeg (((85 * (s1.1 0 10)) + 29) + x8)) (s16.2.1 3 (Int32.toNatClampNeg x8))) := ⟨_, rfl⟩
      rw [← hs17] at hP
      replace hw := hw s17 hs17
      refine lv_aload_n hx hb dX10_leavesState_156 rfl (lv_at hl 0 rfl) ?_
      refine gR_10_11 hx hb hts i10 hown hK hP hR_0 (hts _ q_X10_leavesState_2) dX10_leavesState_157 ?_
      refine lv_iload_n hx hb dX10_leavesState_160 rfl (lv_at hl 1 rfl) ?_
      refine lv_bipush (v := 53) hx hb dX10_leavesState_161 (by decide) ?_
      refine lv_iadd hx hb dX10_leavesState_163 ?_
      refine lv_iload_n hx hb dX10_leavesState_164 rfl (lv_at hl 2 rfl) ?_
      refine lv_iadd hx hb dX10_leavesState_165 ?_
      refine lv_aload_n hx hb dX10_leavesState_166 rfl (lv_at hl 0 rfl) ?_
      refine gR_10_4 hx hb hts i10 hown hK hP hR_0 (hts _ q_X10_leavesState_10) dX10_leavesState_167 ?_
      refine lv_iload_n hx hb dX10_leavesState_170 rfl (lv_at hl 2 rfl) ?_
      refine aR_ld hx hb hK hP hR_4 mR_4 hw.1 dX10_leavesState_171 ?_
      replace hw := hw.2
      refine aR_st hx hb hK hI hP hR_6 mR_6 hw.1 dX10_leavesState_172 (fun H locs hP => ?_)
      replace hw := hw.2
      obtain ⟨s18, hs18⟩ : ∃ u, u = ft_sA s17 6 (upd (s17.2.1 6) (Int32.toNatClampNeg (((85 * (s1.1 0 10)) + 53) + x8)) (s17.2.1 4 (Int32.toNatClampNeg x8))) := ⟨_, rfl⟩
      rw [← hs18] at hP
      replace hw := hw s18 hs18
      refine lv_iinc (v := x8 + 1) (lv' := [(2, .int (x8 + 1)), (0, .ref (Γ.2.2 0)), (1, .int (85 * (s1.1 0 10)))]) hx hb dX10_leavesState_173 hl (k := 2) rfl (congrArg (fun z => x8 + z) (by decide)) (by decide) rfl (fun ls hl => ?_)
      refine lv_goto (tgt := 117) hx hb dX10_leavesState_176 (by decide) ?_
      exact hw _ _ _ hP (lv_sub hl [1, 2, 0] rfl)
  · refine lv_icmp_ne (tgt := 49) hx hb dX10_leavesState_6 (by decide) (fun h => ?_) (fun h => ?_)
    · replace hw := hw.1 h
      exact hw _ _ _ hP (lv_sub hl [0] rfl)
    · replace hw := hw.2 h
      refine lv_iconst (v := 0) hx hb dX10_leavesState_9 (by decide) ?_
      refine lv_istore_n (lv' := [(1, .int 0), (0, .ref (Γ.2.2 0))]) hx hb dX10_leavesState_10 rfl hl (by decide) rfl (fun ls hl => ?_)
      refine hw (fun (x19 : Int32) (s20 : ft_St) => ∀ (H : Heap) (locs : List Loc) (ls : Array Slot), cR_P Γ s s20 H locs → lv_has ls 3 [(0, .ref (Γ.2.2 0)), (1, .int x19)] → cR_Wv p l e ({ frames := 0, cells := 0, slots := 0, locals := 0 } : Room) s m [.ref (Γ.2.2 0)] below meth c Γ Φ H locs 11 ls []) (fun x19 s20 hw H locs ls hP hl => ?_) _ _ _ hP (lv_sub hl [1, 0] rfl)
      refine lv_iload_n hx hb dX10_leavesState_11 rfl (lv_at hl 1 rfl) ?_
      refine lv_sipush (v := 425) hx hb dX10_leavesState_12 (by decide) ?_
      refine lv_icmp_ge (tgt := 39) hx hb dX10_leavesState_15 (by decide) (fun h => ?_) (fun h => ?_)
      · replace hw := hw.1 h
        refine lv_aload_n hx hb dX10_leavesState_39 rfl (lv_at hl 0 rfl) ?_
        refine lv_dup hx hb dX10_leavesState_40 rfl ?_
        refine gR_10_10 hx hb hts i10 hown hK hP hR_0 (hts _ q_X10_leavesState_1) dX10_leavesState_41 ?_
        refine lv_iconst (v := 1) hx hb dX10_leavesState_44 (by decide) ?_
        refine lv_isub hx hb dX10_leavesState_45 ?_
        refine pR_10_10 hx hb hts i10 hown hK hI hP hR_0 (hts _ q_X10_leavesState_1) dX10_leavesState_46 (fun H locs hP => ?_)
        obtain ⟨s22, hs22⟩ : ∃ u, u = ft_sF s20 0 10 ((s20.1 0 10) - 1) := ⟨_, rfl⟩
        rw [← hs22] at hP
        replace hw := hw s22 hs22
        exact hw _ _ _ hP (lv_sub hl [0] rfl)
      · replace hw := hw.2 h
        refine lv_aload_n hx hb dX10_leavesState_18 rfl (lv_at hl 0 rfl) ?_
        refine gR_10_11 hx hb hts i10 hown hK hP hR_0 (hts _ q_X10_leavesState_2) dX10_leavesState_19 ?_
        refine lv_iload_n hx hb dX10_leavesState_22 rfl (lv_at hl 1 rfl) ?_
        refine lv_aload_n hx hb dX10_leavesState_23 rfl (lv_at hl 0 rfl) ?_
        refine gR_10_11 hx hb hts i10 hown hK hP hR_0 (hts _ q_X10_leavesState_2) dX10_leavesState_24 ?_
        refine lv_iload_n hx hb dX10_leavesState_27 rfl (lv_at hl 1 rfl) ?_
        refine lv_bipush (v := 85) hx hb dX10_leavesState_28 (by decide) ?_
        refine lv_iadd hx hb dX10_leavesState_30 ?_
        refine aR_ld hx hb hK hP hR_6 mR_6 hw.1 dX10_leavesState_31 ?_
        replace hw := hw.2
        refine aR_st hx hb hK hI hP hR_6 mR_6 hw.1 dX10_leavesState_32 (fun H locs hP => ?_)
        replace hw := hw.2
        obtain ⟨s23, hs23⟩ : ∃ u, u = ft_sA s20 6 (upd (s20.2.1 6) (Int32.toNatClampNeg x19) (s20.2.1 6 (Int32.toNatClampNeg (x19 + 85)))) := ⟨_, rfl⟩
        rw [← hs23] at hP
        replace hw := hw s23 hs23
        refine lv_iinc (v := x19 + 1) (lv' := [(1, .int (x19 + 1)), (0, .ref (Γ.2.2 0))]) hx hb dX10_leavesState_33 hl (k := 1) rfl (congrArg (fun z => x19 + z) (by decide)) (by decide) rfl (fun ls hl => ?_)
        refine lv_goto (tgt := 11) hx hb dX10_leavesState_36 (by decide) ?_
        exact hw _ _ _ hP (lv_sub hl [1, 0] rfl)
theorem q_X10_back_1 : (Cond.fieldLink RX10 67 "FaultTwinsModel" "states" "I") ∈ wsX10_back := List.mem_of_getElem? (i := 1) (by decide +kernel)
theorem q_X10_back_2 : (Cond.fieldLink RX10 32 "FaultTwinsModel" "kept" "[I") ∈ wsX10_back := List.mem_of_getElem? (i := 2) (by decide +kernel)
theorem q_X10_back_3 : (Cond.fieldLink RX10 70 "FaultTwinsModel" "many" "I") ∈ wsX10_back := List.mem_of_getElem? (i := 3) (by decide +kernel)
theorem q_X10_back_4 : (Cond.fieldLink RX10 22 "FaultTwinsModel" "seen" "I") ∈ wsX10_back := List.mem_of_getElem? (i := 4) (by decide +kernel)
theorem q_X10_back_5 : (Cond.fieldLink RX10 73 "FaultTwinsModel" "faults" "I") ∈ wsX10_back := List.mem_of_getElem? (i := 5) (by decide +kernel)
theorem q_X10_back_6 : (Cond.fieldLink RX10 26 "FaultTwinsModel" "known" "I") ∈ wsX10_back := List.mem_of_getElem? (i := 6) (by decide +kernel)
theorem q_X10_back_7 : (Cond.fieldLink RX10 76 "FaultTwinsModel" "sights" "I") ∈ wsX10_back := List.mem_of_getElem? (i := 7) (by decide +kernel)
theorem q_X10_back_8 : (Cond.fieldLink RX10 13 "FaultTwinsModel" "from" "[I") ∈ wsX10_back := List.mem_of_getElem? (i := 8) (by decide +kernel)
theorem q_X10_back_9 : (Cond.fieldLink RX10 16 "FaultTwinsModel" "by" "[I") ∈ wsX10_back := List.mem_of_getElem? (i := 9) (by decide +kernel)
theorem q_X10_back_10 : (Cond.fieldLink RX10 19 "FaultTwinsModel" "to" "[I") ∈ wsX10_back := List.mem_of_getElem? (i := 10) (by decide +kernel)
theorem q_X10_back_11 : (Cond.fieldLink RX10 29 "FaultTwinsModel" "sight" "[I") ∈ wsX10_back := List.mem_of_getElem? (i := 11) (by decide +kernel)
set_option maxHeartbeats 4000000 in
set_option maxRecDepth 100000 in
theorem c_X10_back (l : Launch) (Γ : ft_G) (hI : cR_I Γ)  (σ : ft_St) (Φ : Int32 → ft_St → Prop) (hw : w_X10_back  σ Φ) : cR_Mi l yX10_back wsX10_back ({ frames := 1, cells := 0, slots := 0, locals := 20 } : Room) Γ σ [.ref (Γ.2.2 0)] Φ := by
  refine Met.ofW (cc := cX10_back) (maxL := 3) (ret := (some .int)) (by decide) rfl ?_
  intro p e s m args below meth c s₁ B hml hv
  obtain ⟨rfl, hP, hK, hN⟩ := hv
  have hx := B.exec
  have hb := B.bytes
  have hr := B.returns
  have hts := atoms_spec (ws := wsX10_back) B.pre
  have hown : s.vm.findClass RX10 = some m.cls := findClass_of_methodNamed B.named
  have hlocks := B.notSynchronized
  have i10 : ∀ w ∈ wsX100, w ∈ wsX10_back := fun w h => List.mem_cons_of_mem _ (List.mem_append_right _ h)
  have hP : cR_P Γ s σ s.heap [] := ⟨hP, va_S.rf⟩
  have hl := lv_entry ([.ref (Γ.2.2 0)]) (n := 3) (Nat.le_of_ble_eq_true rfl)
  rw [lg_entry_eq]
  generalize (lg_sl ([.ref (Γ.2.2 0)]) ++ List.replicate (3 - (lg_sl ([.ref (Γ.2.2 0)])).length) Slot.unset).toArray = ls at hl ⊢
  have hl : lv_has ls 3 [(0, .ref (Γ.2.2 0))] := hl
  unfold w_X10_back at hw
  refine lv_aload_n hx hb dX10_back_0 rfl (lv_at hl 0 rfl) ?_
  refine gR_10_10 hx hb hts i10 hown hK hP hR_0 (hts _ q_X10_back_1) dX10_back_1 ?_
  refine lv_if_ne (tgt := 12) hx hb dX10_back_4 (by decide) (fun h => ?_) (fun h => ?_)
  · replace hw := hw.1 h
    refine lv_aload_n hx hb dX10_back_12 rfl (lv_at hl 0 rfl) ?_
    refine lv_dup hx hb dX10_back_13 rfl ?_
    refine gR_10_10 hx hb hts i10 hown hK hP hR_0 (hts _ q_X10_back_1) dX10_back_14 ?_
    refine lv_iconst (v := 1) hx hb dX10_back_17 (by decide) ?_
    refine lv_isub hx hb dX10_back_18 ?_
    refine pR_10_10 hx hb hts i10 hown hK hI hP hR_0 (hts _ q_X10_back_1) dX10_back_19 (fun H locs hP => ?_)
    obtain ⟨s1, hs1⟩ : ∃ u, u = ft_sF σ 0 10 ((σ.1 0 10) - 1) := ⟨_, rfl⟩
    rw [← hs1] at hP
    replace hw := hw s1 hs1
    refine lv_bipush (v := 85) hx hb dX10_back_22 (by decide) ?_
    refine lv_aload_n hx hb dX10_back_24 rfl (lv_at hl 0 rfl) ?_
    refine gR_10_10 hx hb hts i10 hown hK hP hR_0 (hts _ q_X10_back_1) dX10_back_25 ?_
    refine lv_imul hx hb dX10_back_28 ?_
    refine lv_istore_n (lv' := [(1, .int (85 * (s1.1 0 10))), (0, .ref (Γ.2.2 0))]) hx hb dX10_back_29 rfl hl (by decide) rfl (fun ls hl => ?_)
    refine lv_aload_n hx hb dX10_back_30 rfl (lv_at hl 1 rfl) ?_
    refine lv_aload_n hx hb dX10_back_31 rfl (lv_at hl 1 rfl) ?_
    refine gR_10_11 hx hb hts i10 hown hK hP hR_0 (hts _ q_X10_back_2) dX10_back_32 ?_
    refine lv_iload_n hx hb dX10_back_35 rfl (lv_at hl 0 rfl) ?_
    refine aR_ld hx hb hK hP hR_6 mR_6 hw.1 dX10_back_36 ?_
    replace hw := hw.2
    refine pR_10_1 hx hb hts i10 hown hK hI hP hR_0 (hts _ q_X10_back_3) dX10_back_37 (fun H locs hP => ?_)
    obtain ⟨s2, hs2⟩ : ∃ u, u = ft_sF s1 0 1 (s1.2.1 6 (Int32.toNatClampNeg (85 * (s1.1 0 10)))) := ⟨_, rfl⟩
    rw [← hs2] at hP
    replace hw := hw s2 hs2
    refine lv_aload_n hx hb dX10_back_40 rfl (lv_at hl 1 rfl) ?_
    refine lv_aload_n hx hb dX10_back_41 rfl (lv_at hl 1 rfl) ?_
    refine gR_10_11 hx hb hts i10 hown hK hP hR_0 (hts _ q_X10_back_2) dX10_back_42 ?_
    refine lv_iload_n hx hb dX10_back_45 rfl (lv_at hl 0 rfl) ?_
    refine lv_iconst (v := 1) hx hb dX10_back_46 (by decide) ?_
    refine lv_iadd hx hb dX10_back_47 ?_
    refine aR_ld hx hb hK hP hR_6 mR_6 hw.1 dX10_back_48 ?_
    replace hw := hw.2
    refine pR_10_5 hx hb hts i10 hown hK hI hP hR_0 (hts _ q_X10_back_4) dX10_back_49 (fun H locs hP => ?_)
    obtain ⟨s3, hs3⟩ : ∃ u, u = ft_sF s2 0 5 (s2.2.1 6 (Int32.toNatClampNeg ((85 * (s1.1 0 10)) + 1))) := ⟨_, rfl⟩
    rw [← hs3] at hP
    replace hw := hw s3 hs3
    refine lv_aload_n hx hb dX10_back_52 rfl (lv_at hl 1 rfl) ?_
    refine lv_aload_n hx hb dX10_back_53 rfl (lv_at hl 1 rfl) ?_
    refine gR_10_11 hx hb hts i10 hown hK hP hR_0 (hts _ q_X10_back_2) dX10_back_54 ?_
    refine lv_iload_n hx hb dX10_back_57 rfl (lv_at hl 0 rfl) ?_
    refine lv_iconst (v := 2) hx hb dX10_back_58 (by decide) ?_
    refine lv_iadd hx hb dX10_back_59 ?_
    refine aR_ld hx hb hK hP hR_6 mR_6 hw.1 dX10_back_60 ?_
    replace hw := hw.2
    refine pR_10_6 hx hb hts i10 hown hK hI hP hR_0 (hts _ q_X10_back_5) dX10_back_61 (fun H locs hP => ?_)
    obtain ⟨s4, hs4⟩ : ∃ u, u = ft_sF s3 0 6 (s3.2.1 6 (Int32.toNatClampNeg ((85 * (s1.1 0 10)) + 2))) := ⟨_, rfl⟩
    rw [← hs4] at hP
    replace hw := hw s4 hs4
    refine lv_aload_n hx hb dX10_back_64 rfl (lv_at hl 1 rfl) ?_
    refine lv_aload_n hx hb dX10_back_65 rfl (lv_at hl 1 rfl) ?_
    refine gR_10_11 hx hb hts i10 hown hK hP hR_0 (hts _ q_X10_back_2) dX10_back_66 ?_
    refine lv_iload_n hx hb dX10_back_69 rfl (lv_at hl 0 rfl) ?_
    refine lv_iconst (v := 3) hx hb dX10_back_70 (by decide) ?_
    refine lv_iadd hx hb dX10_back_71 ?_
    refine aR_ld hx hb hK hP hR_6 mR_6 hw.1 dX10_back_72 ?_
    replace hw := hw.2
    refine pR_10_7 hx hb hts i10 hown hK hI hP hR_0 (hts _ q_X10_back_6) dX10_back_73 (fun H locs hP => ?_)
    obtain ⟨s5, hs5⟩ : ∃ u, u = ft_sF s4 0 7 (s4.2.1 6 (Int32.toNatClampNeg ((85 * (s1.1 0 10)) + 3))) := ⟨_, rfl⟩
    rw [← hs5] at hP
    replace hw := hw s5 hs5
    refine lv_aload_n hx hb dX10_back_76 rfl (lv_at hl 1 rfl) ?_
    refine lv_aload_n hx hb dX10_back_77 rfl (lv_at hl 1 rfl) ?_
    refine gR_10_11 hx hb hts i10 hown hK hP hR_0 (hts _ q_X10_back_2) dX10_back_78 ?_
    refine lv_iload_n hx hb dX10_back_81 rfl (lv_at hl 0 rfl) ?_
    refine lv_iconst (v := 4) hx hb dX10_back_82 (by decide) ?_
    refine lv_iadd hx hb dX10_back_83 ?_
    refine aR_ld hx hb hK hP hR_6 mR_6 hw.1 dX10_back_84 ?_
    replace hw := hw.2
    refine pR_10_8 hx hb hts i10 hown hK hI hP hR_0 (hts _ q_X10_back_7) dX10_back_85 (fun H locs hP => ?_)
    obtain ⟨s6, hs6⟩ : ∃ u, u = ft_sF s5 0 8 (s5.2.1 6 (Int32.toNatClampNeg ((85 * (s1.1 0 10)) + 4))) := ⟨_, rfl⟩
    rw [← hs6] at hP
    replace hw := hw s6 hs6
    refine lv_iconst (v := 0) hx hb dX10_back_88 (by decide) ?_
    refine lv_istore_n (lv' := [(2, .int 0), (1, .int (85 * (s1.1 0 10))), (0, .ref (Γ.2.2 0))]) hx hb dX10_back_89 rfl hl (by decide) rfl (fun ls hl => ?_)
    refine hw (fun (x7 : Int32) (s8 : ft_St) => ∀ (H : Heap) (locs : List Loc) (ls : Array Slot), cR_P Γ s s8 H locs → lv_has ls 3 [(0, .ref (Γ.2.2 0)), (1, .int (85 * (s1.1 0 10))), (2, .int x7)] → cR_Wi p l e ({ frames := 1, cells := 0, slots := 0, locals := 20 } : Room) s m [.ref (Γ.2.2 0)] below meth c Γ Φ H locs 90 ls []) (fun x7 s8 hw H locs ls hP hl => ?_) _ _ _ hP (lv_sub hl [2, 1, 0] rfl)
    refine lv_iload_n hx hb dX10_back_90 rfl (lv_at hl 2 rfl) ?_
    refine lv_bipush (v := 24) hx hb dX10_back_91 (by decide) ?_
    refine lv_icmp_ge (tgt := 152) hx hb dX10_back_93 (by decide) (fun h => ?_) (fun h => ?_)
    · replace hw := hw.1 h
      refine lv_iconst (v := 0) hx hb dX10_back_152 (by decide) ?_
      refine lv_istore_n (lv' := [(2, .int 0), (0, .ref (Γ.2.2 0)), (1, .int (85 * (s1.1 0 10)))]) hx hb dX10_back_153 rfl hl (by decide) rfl (fun ls hl => ?_)
      refine hw (fun (x10 : Int32) (s11 : ft_St) => ∀ (H : Heap) (locs : List Loc) (ls : Array Slot), cR_P Γ s s11 H locs → lv_has ls 3 [(0, .ref (Γ.2.2 0)), (1, .int (85 * (s1.1 0 10))), (2, .int x10)] → cR_Wi p l e ({ frames := 1, cells := 0, slots := 0, locals := 20 } : Room) s m [.ref (Γ.2.2 0)] below meth c Γ Φ H locs 154 ls []) (fun x10 s11 hw H locs ls hP hl => ?_) _ _ _ hP (lv_sub hl [1, 2, 0] rfl)
      refine lv_iload_n hx hb dX10_back_154 rfl (lv_at hl 2 rfl) ?_
      refine lv_bipush (v := 8) hx hb dX10_back_155 (by decide) ?_
      refine lv_icmp_ge (tgt := 183) hx hb dX10_back_157 (by decide) (fun h => ?_) (fun h => ?_)
      · replace hw := hw.1 h
        refine lv_aload_n hx hb dX10_back_183 rfl (lv_at hl 0 rfl) ?_
        refine gR_10_10 hx hb hts i10 hown hK hP hR_0 (hts _ q_X10_back_1) dX10_back_184 ?_
        exact W.iret hx hb hr (cR_ri hP hw) hP.2.2.2 dX10_back_187
      · replace hw := hw.2 h
        refine lv_aload_n hx hb dX10_back_160 rfl (lv_at hl 0 rfl) ?_
        refine gR_10_9 hx hb hts i10 hown hK hP hR_0 (hts _ q_X10_back_11) dX10_back_161 ?_
        refine lv_iload_n hx hb dX10_back_164 rfl (lv_at hl 2 rfl) ?_
        refine lv_aload_n hx hb dX10_back_165 rfl (lv_at hl 0 rfl) ?_
        refine gR_10_11 hx hb hts i10 hown hK hP hR_0 (hts _ q_X10_back_2) dX10_back_166 ?_
        refine lv_iload_n hx hb dX10_back_169 rfl (lv_at hl 1 rfl) ?_
        refine lv_bipush (v := 77) hx hb dX10_back_170 (by decide) ?_
        refine lv_iadd hx hb dX10_back_172 ?_
        refine lv_iload_n hx hb dX10_back_173 rfl (lv_at hl 2 rfl) ?_
        refine lv_iadd hx hb dX10_back_174 ?_
        refine aR_ld hx hb hK hP hR_6 mR_6 hw.1 dX10_back_175 ?_
        replace hw := hw.2
        refine aR_st hx hb hK hI hP hR_5 mR_5 hw.1 dX10_back_176 (fun H locs hP => ?_)
        replace hw := hw.2
        obtain ⟨s13, hs13⟩ : ∃ u, u = ft_sA s11 5 (upd (s11.2.1 5) (Int32.toNatClampNeg x10) (s11.2.1 6 (Int32.toNatClampNeg (((85 * (s1.1 0 10)) + 77) + x10)))) := ⟨_, rfl⟩
        rw [← hs13] at hP
        replace hw := hw s13 hs13
        refine lv_iinc (v := x10 + 1) (lv' := [(2, .int (x10 + 1)), (0, .ref (Γ.2.2 0)), (1, .int (85 * (s1.1 0 10)))]) hx hb dX10_back_177 hl (k := 2) rfl (congrArg (fun z => x10 + z) (by decide)) (by decide) rfl (fun ls hl => ?_)
        refine lv_goto (tgt := 154) hx hb dX10_back_180 (by decide) ?_
        exact hw _ _ _ hP (lv_sub hl [1, 2, 0] rfl)
    · replace hw := hw.2 h
      refine lv_aload_n hx hb dX10_back_96 rfl (lv_at hl 0 rfl) ?_
      refine gR_10_2 hx hb hts i10 hown hK hP hR_0 (hts _ q_X10_back_8) dX10_back_97 ?_
      refine lv_iload_n hx hb dX10_back_100 rfl (lv_at hl 2 rfl) ?_
      refine lv_aload_n hx hb dX10_back_101 rfl (lv_at hl 0 rfl) ?_
      refine gR_10_11 hx hb hts i10 hown hK hP hR_0 (hts _ q_X10_back_2) dX10_back_102 ?_
      refine lv_iload_n hx hb dX10_back_105 rfl (lv_at hl 1 rfl) ?_
      refine lv_iconst (v := 5) hx hb dX10_back_106 (by decide) ?_
      refine lv_iadd hx hb dX10_back_107 ?_
      refine lv_iload_n hx hb dX10_back_108 rfl (lv_at hl 2 rfl) ?_
      refine lv_iadd hx hb dX10_back_109 ?_
      refine aR_ld hx hb hK hP hR_6 mR_6 hw.1 dX10_back_110 ?_
      replace hw := hw.2
      refine aR_st hx hb hK hI hP hR_2 mR_2 hw.1 dX10_back_111 (fun H locs hP => ?_)
      replace hw := hw.2
      obtain ⟨s14, hs14⟩ : ∃ u, u = ft_sA s8 2 (upd (s8.2.1 2) (Int32.toNatClampNeg x7) (s8.2.1 6 (Int32.toNatClampNeg (((85 * (s1.1 0 10)) + 5) + x7)))) := ⟨_, rfl⟩
      rw [← hs14] at hP
      replace hw := hw s14 hs14
      refine lv_aload_n hx hb dX10_back_112 rfl (lv_at hl 0 rfl) ?_
      refine gR_10_3 hx hb hts i10 hown hK hP hR_0 (hts _ q_X10_back_9) dX10_back_113 ?_
      refine lv_iload_n hx hb dX10_back_116 rfl (lv_at hl 2 rfl) ?_
      refine lv_aload_n hx hb dX10_back_117 rfl (lv_at hl 0 rfl) ?_
      refine gR_10_11 hx hb hts i10 hown hK hP hR_0 (hts _ q_X10_back_2) dX10_back_118 ?_
      refine lv_iload_n hx hb dX10_back_121 rfl (lv_at hl 1 rfl) ?_
      refine lv_bipush (v := 29) hx hb dX10_back_122 (by decide) ?_
      refine lv_iadd hx hb dX10_back_124 ?_
      refine lv_iload_n hx hb dX10_back_125 rfl (lv_at hl 2 rfl) ?_
      refine lv_iadd hx hb dX10_back_126 ?_
      refine aR_ld hx hb hK hP hR_6 mR_6 hw.1 dX10_back_127 ?_
      replace hw := hw.2
      refine aR_st hx hb hK hI hP hR_3 mR_3 hw.1 dX10_back_128 (fun H locs hP => ?_)
      replace hw := hw.2
      obtain ⟨s15, hs15⟩ : ∃ u, u = ft_sA s14 3 (upd (s14.2.1 3) (Int32.toNatClampNeg x7) (s14.2.1 6 (Int32.toNatClampNeg (((85 * (s1.1 0 10)) + 29) + x7)))) := ⟨_, rfl⟩
      rw [← hs15] at hP
      replace hw := hw s15 hs15
      refine lv_aload_n hx hb dX10_back_129 rfl (lv_at hl 0 rfl) ?_
      refine gR_10_4 hx hb hts i10 hown hK hP hR_0 (hts _ q_X10_back_10) dX10_back_130 ?_
      refine lv_iload_n hx hb dX10_back_133 rfl (lv_at hl 2 rfl) ?_
      refine lv_aload_n hx hb dX10_back_134 rfl (lv_at hl 0 rfl) ?_
      refine gR_10_11 hx hb hts i10 hown hK hP hR_0 (hts _ q_X10_back_2) dX10_back_135 ?_
      refine lv_iload_n hx hb dX10_back_138 rfl (lv_at hl 1 rfl) ?_
      refine lv_bipush (v := 53) hx hb dX10_back_139 (by decide) ?_
      refine lv_iadd hx hb dX10_back_141 ?_
      refine lv_iload_n hx hb dX10_back_142 rfl (lv_at hl 2 rfl) ?_
      refine lv_iadd hx hb dX10_back_143 ?_
      refine aR_ld hx hb hK hP hR_6 mR_6 hw.1 dX10_back_144 ?_
      replace hw := hw.2
      refine aR_st hx hb hK hI hP hR_4 mR_4 hw.1 dX10_back_145 (fun H locs hP => ?_)
      replace hw := hw.2
      obtain ⟨s16, hs16⟩ : ∃ u, u = ft_sA s15 4 (upd (s15.2.1 4) (Int32.toNatClampNeg x7) (s15.2.1 6 (Int32.toNatClampNeg (((85 * (s1.1 0 10)) + 53) + x7)))) := ⟨_, rfl⟩
      rw [← hs16] at hP
      replace hw := hw s16 hs16
      refine lv_iinc (v := x7 + 1) (lv' := [(2, .int (x7 + 1)), (0, .ref (Γ.2.2 0)), (1, .int (85 * (s1.1 0 10)))]) hx hb dX10_back_146 hl (k := 2) rfl (congrArg (fun z => x7 + z) (by decide)) (by decide) rfl (fun ls hl => ?_)
      refine lv_goto (tgt := 90) hx hb dX10_back_149 (by decide) ?_
      exact hw _ _ _ hP (lv_sub hl [1, 2, 0] rfl)
  · replace hw := hw.2 h
    refine lv_aload_n hx hb dX10_back_7 rfl (lv_at hl 0 rfl) ?_
    refine cR_Vi (rest := []) ⟨hx, hb, hml, hown, hts⟩ (c_X10_no l Γ hI  σ _ hw) (cwV 0 hts gX10_back_X10_no rfl rfl rfl (by decide +kernel) ⟨Nat.le_of_ble_eq_true rfl, Nat.le_of_ble_eq_true rfl⟩) hK hN hP (cR_lt hR_0 (by decide)) (cR_E10 hR_0) rfl rfl rfl hl.1 rfl (Nat.le_of_ble_eq_true rfl) dX10_back_8 ⟨Nat.le_refl _, Nat.le_refl _⟩ (fun r17 s18 H locs hw hP => ?_)
    exact W.iret hx hb hr (cR_ri hP hw) hP.2.2.2 dX10_back_11
theorem q_X10_isThere_1 : (Cond.fieldLink RX10 70 "FaultTwinsModel" "many" "I") ∈ wsX10_isThere := List.mem_of_getElem? (i := 1) (by decide +kernel)
theorem q_X10_isThere_2 : (Cond.fieldLink RX10 13 "FaultTwinsModel" "from" "[I") ∈ wsX10_isThere := List.mem_of_getElem? (i := 2) (by decide +kernel)
theorem q_X10_isThere_3 : (Cond.fieldLink RX10 16 "FaultTwinsModel" "by" "[I") ∈ wsX10_isThere := List.mem_of_getElem? (i := 3) (by decide +kernel)
theorem q_X10_isThere_4 : (Cond.fieldLink RX10 19 "FaultTwinsModel" "to" "[I") ∈ wsX10_isThere := List.mem_of_getElem? (i := 4) (by decide +kernel)
set_option maxHeartbeats 4000000 in
set_option maxRecDepth 100000 in
theorem c_X10_isThere (l : Launch) (Γ : ft_G) (hI : cR_I Γ) (a1 : Int32) (a2 : Int32) (a3 : Int32) (σ : ft_St) (Φ : Int32 → Prop) (hw : w_X10_isThere a1 a2 a3 σ Φ) : cR_Mip l yX10_isThere wsX10_isThere ({ frames := 0, cells := 0, slots := 0, locals := 0 } : Room) Γ σ [.ref (Γ.2.2 0), .int a1, .int a2, .int a3] Φ := by
  refine Met.ofW (cc := cX10_isThere) (maxL := 6) (ret := (some .boolean)) (by decide) rfl ?_
  intro p e s m args below meth c s₁ B hml hv
  obtain ⟨rfl, hP, hK, hN⟩ := hv
  have hx := B.exec
  have hb := B.bytes
  have hr := B.returns
  have hts := atoms_spec (ws := wsX10_isThere) B.pre
  have hown : s.vm.findClass RX10 = some m.cls := findClass_of_methodNamed B.named
  have hlocks := B.notSynchronized
  have i10 : ∀ w ∈ wsX100, w ∈ wsX10_isThere := fun w h => List.mem_cons_of_mem _ (List.mem_append_right _ h)
  have hP : cR_P Γ s σ s.heap [] := ⟨hP, va_S.rf⟩
  have hl := lv_entry ([.ref (Γ.2.2 0), .int a1, .int a2, .int a3]) (n := 6) (Nat.le_of_ble_eq_true rfl)
  rw [lg_entry_eq]
  generalize (lg_sl ([.ref (Γ.2.2 0), .int a1, .int a2, .int a3]) ++ List.replicate (6 - (lg_sl ([.ref (Γ.2.2 0), .int a1, .int a2, .int a3])).length) Slot.unset).toArray = ls at hl ⊢
  have hl : lv_has ls 6 [(0, .ref (Γ.2.2 0)), (1, .int a1), (2, .int a2), (3, .int a3)] := hl
  unfold w_X10_isThere at hw
  refine lv_iconst (v := 0) hx hb dX10_isThere_0 (by decide) ?_
  refine lv_istore (lv' := [(4, .int 0), (0, .ref (Γ.2.2 0)), (1, .int a1), (2, .int a2), (3, .int a3)]) hx hb dX10_isThere_1 hl (by decide) rfl (fun ls hl => ?_)
  refine lv_iconst (v := 0) hx hb dX10_isThere_3 (by decide) ?_
  refine lv_istore (lv' := [(5, .int 0), (4, .int 0), (0, .ref (Γ.2.2 0)), (1, .int a1), (2, .int a2), (3, .int a3)]) hx hb dX10_isThere_4 hl (by decide) rfl (fun ls hl => ?_)
  refine hw (fun (x1 : Int32) (x2 : Int32) => ∀ (H : Heap) (locs : List Loc) (ls : Array Slot), cR_P Γ s σ H locs → lv_has ls 6 [(0, .ref (Γ.2.2 0)), (1, .int a1), (2, .int a2), (3, .int a3), (4, .int x1), (5, .int x2)] → cR_Wi p l e ({ frames := 0, cells := 0, slots := 0, locals := 0 } : Room) s m [.ref (Γ.2.2 0), .int a1, .int a2, .int a3] below meth c Γ (fun r u => u = σ ∧ Φ r) H locs 6 ls []) (fun x1 x2 hw H locs ls hP hl => ?_) _ _ _ hP (lv_sub hl [2, 3, 4, 5, 1, 0] rfl)
  refine lv_iload hx hb dX10_isThere_6 (lv_at hl 5 rfl) ?_
  refine lv_aload_n hx hb dX10_isThere_8 rfl (lv_at hl 0 rfl) ?_
  refine gR_10_1 hx hb hts i10 hown hK hP hR_0 (hts _ q_X10_isThere_1) dX10_isThere_9 ?_
  refine lv_icmp_ge (tgt := 66) hx hb dX10_isThere_12 (by decide) (fun h => ?_) (fun h => ?_)
  · replace hw := hw.1 h
    refine lv_iload hx hb dX10_isThere_66 (lv_at hl 4 rfl) ?_
    exact W.zret hx hb hr (ft_bz_n hw.1) (cR_ri hP ⟨rfl, hw.2⟩) hP.2.2.2 dX10_isThere_68
  · replace hw := hw.2 h
    refine lv_iload hx hb dX10_isThere_15 (lv_at hl 4 rfl) ?_
    refine ft_cut (hw (∀ (H : Heap) (locs : List Loc) (ls : Array Slot), cR_P Γ s σ H locs → lv_has ls 6 [(0, .ref (Γ.2.2 0)), (1, .int a1), (2, .int a2), (3, .int a3), (5, .int x2)] → cR_Wi p l e ({ frames := 0, cells := 0, slots := 0, locals := 0 } : Room) s m [.ref (Γ.2.2 0), .int a1, .int a2, .int a3] below meth c Γ (fun r u => u = σ ∧ Φ r) H locs 53 ls []) (fun  hw H locs ls hP hl => ?_)) (fun hw => ?_)
    · refine lv_iconst (v := 1) hx hb dX10_isThere_53 (by decide) ?_
      refine lv_goto (tgt := 58) hx hb dX10_isThere_54 (by decide) ?_
      refine lv_istore (lv' := [(4, .int 1), (0, .ref (Γ.2.2 0)), (1, .int a1), (2, .int a2), (3, .int a3), (5, .int x2)]) hx hb dX10_isThere_58 hl (by decide) rfl (fun ls hl => ?_)
      refine lv_iinc (v := x2 + 1) (lv' := [(5, .int (x2 + 1)), (4, .int 1), (0, .ref (Γ.2.2 0)), (1, .int a1), (2, .int a2), (3, .int a3)]) hx hb dX10_isThere_60 hl (k := 5) rfl (congrArg (fun z => x2 + z) (by decide)) (by decide) rfl (fun ls hl => ?_)
      refine lv_goto (tgt := 6) hx hb dX10_isThere_63 (by decide) ?_
      exact hw _ _ _ hP (lv_sub hl [2, 3, 4, 5, 1, 0] rfl)
    · refine lv_if_ne (tgt := 53) hx hb dX10_isThere_17 (by decide) (fun h => ?_) (fun h => ?_)
      · replace hw := hw.1 h
        exact hw _ _ _ hP (lv_sub hl [0, 1, 2, 3, 5] rfl)
      · replace hw := hw.2 h
        refine lv_aload_n hx hb dX10_isThere_20 rfl (lv_at hl 0 rfl) ?_
        refine gR_10_2 hx hb hts i10 hown hK hP hR_0 (hts _ q_X10_isThere_2) dX10_isThere_21 ?_
        refine lv_iload hx hb dX10_isThere_24 (lv_at hl 5 rfl) ?_
        refine aR_ld hx hb hK hP hR_2 mR_2 hw.1 dX10_isThere_26 ?_
        replace hw := hw.2
        refine lv_iload_n hx hb dX10_isThere_27 rfl (lv_at hl 1 rfl) ?_
        refine ft_cut (hw (∀ (H : Heap) (locs : List Loc) (ls : Array Slot), cR_P Γ s σ H locs → lv_has ls 6 [(0, .ref (Γ.2.2 0)), (1, .int a1), (2, .int a2), (3, .int a3), (5, .int x2)] → cR_Wi p l e ({ frames := 0, cells := 0, slots := 0, locals := 0 } : Room) s m [.ref (Γ.2.2 0), .int a1, .int a2, .int a3] below meth c Γ (fun r u => u = σ ∧ Φ r) H locs 57 ls []) (fun  hw H locs ls hP hl => ?_)) (fun hw => ?_)
        · refine lv_iconst (v := 0) hx hb dX10_isThere_57 (by decide) ?_
          refine lv_istore (lv' := [(4, .int 0), (0, .ref (Γ.2.2 0)), (1, .int a1), (2, .int a2), (3, .int a3), (5, .int x2)]) hx hb dX10_isThere_58 hl (by decide) rfl (fun ls hl => ?_)
          refine lv_iinc (v := x2 + 1) (lv' := [(5, .int (x2 + 1)), (4, .int 0), (0, .ref (Γ.2.2 0)), (1, .int a1), (2, .int a2), (3, .int a3)]) hx hb dX10_isThere_60 hl (k := 5) rfl (congrArg (fun z => x2 + z) (by decide)) (by decide) rfl (fun ls hl => ?_)
          refine lv_goto (tgt := 6) hx hb dX10_isThere_63 (by decide) ?_
          exact hw _ _ _ hP (lv_sub hl [2, 3, 4, 5, 1, 0] rfl)
        · refine lv_icmp_ne (tgt := 57) hx hb dX10_isThere_28 (by decide) (fun h => ?_) (fun h => ?_)
          · replace hw := hw.1 h
            exact hw _ _ _ hP (lv_sub hl [0, 1, 2, 3, 5] rfl)
          · replace hw := hw.2 h
            refine lv_aload_n hx hb dX10_isThere_31 rfl (lv_at hl 0 rfl) ?_
            refine gR_10_3 hx hb hts i10 hown hK hP hR_0 (hts _ q_X10_isThere_3) dX10_isThere_32 ?_
            refine lv_iload hx hb dX10_isThere_35 (lv_at hl 5 rfl) ?_
            refine aR_ld hx hb hK hP hR_3 mR_3 hw.1 dX10_isThere_37 ?_
            replace hw := hw.2
            refine lv_iload_n hx hb dX10_isThere_38 rfl (lv_at hl 2 rfl) ?_
            refine lv_icmp_ne (tgt := 57) hx hb dX10_isThere_39 (by decide) (fun h => ?_) (fun h => ?_)
            · replace hw := hw.1 h
              exact hw _ _ _ hP (lv_sub hl [0, 1, 2, 3, 5] rfl)
            · replace hw := hw.2 h
              refine lv_aload_n hx hb dX10_isThere_42 rfl (lv_at hl 0 rfl) ?_
              refine gR_10_4 hx hb hts i10 hown hK hP hR_0 (hts _ q_X10_isThere_4) dX10_isThere_43 ?_
              refine lv_iload hx hb dX10_isThere_46 (lv_at hl 5 rfl) ?_
              refine aR_ld hx hb hK hP hR_4 mR_4 hw.1 dX10_isThere_48 ?_
              replace hw := hw.2
              refine lv_iload_n hx hb dX10_isThere_49 rfl (lv_at hl 3 rfl) ?_
              refine lv_icmp_ne (tgt := 57) hx hb dX10_isThere_50 (by decide) (fun h => ?_) (fun h => ?_)
              · replace hw := hw.1 h
                exact hw _ _ _ hP (lv_sub hl [0, 1, 2, 3, 5] rfl)
              · replace hw := hw.2 h
                exact hw _ _ _ hP (lv_sub hl [0, 1, 2, 3, 5] rfl)
theorem q_X10_isSeen_1 : (Cond.fieldLink RX10 22 "FaultTwinsModel" "seen" "I") ∈ wsX10_isSeen := List.mem_of_getElem? (i := 1) (by decide +kernel)
set_option maxHeartbeats 4000000 in
set_option maxRecDepth 100000 in
theorem c_X10_isSeen (l : Launch) (Γ : ft_G) (hI : cR_I Γ) (a1 : Int32) (σ : ft_St) (Φ : Int32 → Prop) (hw : w_X10_isSeen a1 σ Φ) : cR_Mip l yX10_isSeen wsX10_isSeen ({ frames := 0, cells := 0, slots := 0, locals := 0 } : Room) Γ σ [.ref (Γ.2.2 0), .int a1] Φ := by
  refine Met.ofW (cc := cX10_isSeen) (maxL := 2) (ret := (some .boolean)) (by decide) rfl ?_
  intro p e s m args below meth c s₁ B hml hv
  obtain ⟨rfl, hP, hK, hN⟩ := hv
  have hx := B.exec
  have hb := B.bytes
  have hr := B.returns
  have hts := atoms_spec (ws := wsX10_isSeen) B.pre
  have hown : s.vm.findClass RX10 = some m.cls := findClass_of_methodNamed B.named
  have hlocks := B.notSynchronized
  have i10 : ∀ w ∈ wsX100, w ∈ wsX10_isSeen := fun w h => List.mem_cons_of_mem _ (List.mem_append_right _ h)
  have hP : cR_P Γ s σ s.heap [] := ⟨hP, va_S.rf⟩
  have hl := lv_entry ([.ref (Γ.2.2 0), .int a1]) (n := 2) (Nat.le_of_ble_eq_true rfl)
  rw [lg_entry_eq]
  generalize (lg_sl ([.ref (Γ.2.2 0), .int a1]) ++ List.replicate (2 - (lg_sl ([.ref (Γ.2.2 0), .int a1])).length) Slot.unset).toArray = ls at hl ⊢
  have hl : lv_has ls 2 [(0, .ref (Γ.2.2 0)), (1, .int a1)] := hl
  unfold w_X10_isSeen at hw
  refine lv_aload_n hx hb dX10_isSeen_0 rfl (lv_at hl 0 rfl) ?_
  refine gR_10_5 hx hb hts i10 hown hK hP hR_0 (hts _ q_X10_isSeen_1) dX10_isSeen_1 ?_
  refine lv_iload_n hx hb dX10_isSeen_4 rfl (lv_at hl 1 rfl) ?_
  refine lv_ishr hx hb dX10_isSeen_5 ?_
  refine lv_iconst (v := 1) hx hb dX10_isSeen_6 (by decide) ?_
  refine lv_iand hx hb dX10_isSeen_7 ?_
  refine lv_iconst (v := 1) hx hb dX10_isSeen_8 (by decide) ?_
  refine lv_icmp_ne (tgt := 16) hx hb dX10_isSeen_9 (by decide) (fun h => ?_) (fun h => ?_)
  · replace hw := hw.1 h
    refine lv_iconst (v := 0) hx hb dX10_isSeen_16 (by decide) ?_
    exact W.zret hx hb hr rfl (cR_ri hP ⟨rfl, hw⟩) hP.2.2.2 dX10_isSeen_17
  · replace hw := hw.2 h
    refine lv_iconst (v := 1) hx hb dX10_isSeen_12 (by decide) ?_
    refine lv_goto (tgt := 17) hx hb dX10_isSeen_13 (by decide) ?_
    exact W.zret hx hb hr rfl (cR_ri hP ⟨rfl, hw⟩) hP.2.2.2 dX10_isSeen_17
theorem q_X10_isFault_1 : (Cond.fieldLink RX10 73 "FaultTwinsModel" "faults" "I") ∈ wsX10_isFault := List.mem_of_getElem? (i := 1) (by decide +kernel)
set_option maxHeartbeats 4000000 in
set_option maxRecDepth 100000 in
theorem c_X10_isFault (l : Launch) (Γ : ft_G) (hI : cR_I Γ) (a1 : Int32) (σ : ft_St) (Φ : Int32 → Prop) (hw : w_X10_isFault a1 σ Φ) : cR_Mip l yX10_isFault wsX10_isFault ({ frames := 0, cells := 0, slots := 0, locals := 0 } : Room) Γ σ [.ref (Γ.2.2 0), .int a1] Φ := by
  refine Met.ofW (cc := cX10_isFault) (maxL := 2) (ret := (some .boolean)) (by decide) rfl ?_
  intro p e s m args below meth c s₁ B hml hv
  obtain ⟨rfl, hP, hK, hN⟩ := hv
  have hx := B.exec
  have hb := B.bytes
  have hr := B.returns
  have hts := atoms_spec (ws := wsX10_isFault) B.pre
  have hown : s.vm.findClass RX10 = some m.cls := findClass_of_methodNamed B.named
  have hlocks := B.notSynchronized
  have i10 : ∀ w ∈ wsX100, w ∈ wsX10_isFault := fun w h => List.mem_cons_of_mem _ (List.mem_append_right _ h)
  have hP : cR_P Γ s σ s.heap [] := ⟨hP, va_S.rf⟩
  have hl := lv_entry ([.ref (Γ.2.2 0), .int a1]) (n := 2) (Nat.le_of_ble_eq_true rfl)
  rw [lg_entry_eq]
  generalize (lg_sl ([.ref (Γ.2.2 0), .int a1]) ++ List.replicate (2 - (lg_sl ([.ref (Γ.2.2 0), .int a1])).length) Slot.unset).toArray = ls at hl ⊢
  have hl : lv_has ls 2 [(0, .ref (Γ.2.2 0)), (1, .int a1)] := hl
  unfold w_X10_isFault at hw
  refine lv_aload_n hx hb dX10_isFault_0 rfl (lv_at hl 0 rfl) ?_
  refine gR_10_6 hx hb hts i10 hown hK hP hR_0 (hts _ q_X10_isFault_1) dX10_isFault_1 ?_
  refine lv_iload_n hx hb dX10_isFault_4 rfl (lv_at hl 1 rfl) ?_
  refine lv_ishr hx hb dX10_isFault_5 ?_
  refine lv_iconst (v := 1) hx hb dX10_isFault_6 (by decide) ?_
  refine lv_iand hx hb dX10_isFault_7 ?_
  refine lv_iconst (v := 1) hx hb dX10_isFault_8 (by decide) ?_
  refine lv_icmp_ne (tgt := 16) hx hb dX10_isFault_9 (by decide) (fun h => ?_) (fun h => ?_)
  · replace hw := hw.1 h
    refine lv_iconst (v := 0) hx hb dX10_isFault_16 (by decide) ?_
    exact W.zret hx hb hr rfl (cR_ri hP ⟨rfl, hw⟩) hP.2.2.2 dX10_isFault_17
  · replace hw := hw.2 h
    refine lv_iconst (v := 1) hx hb dX10_isFault_12 (by decide) ?_
    refine lv_goto (tgt := 17) hx hb dX10_isFault_13 (by decide) ?_
    exact W.zret hx hb hr rfl (cR_ri hP ⟨rfl, hw⟩) hP.2.2.2 dX10_isFault_17
theorem q_X10_stepped_1 : (Cond.fieldLink RX10 70 "FaultTwinsModel" "many" "I") ∈ wsX10_stepped := List.mem_of_getElem? (i := 1) (by decide +kernel)
theorem q_X10_stepped_2 : (Cond.fieldLink RX10 16 "FaultTwinsModel" "by" "[I") ∈ wsX10_stepped := List.mem_of_getElem? (i := 2) (by decide +kernel)
theorem q_X10_stepped_3 : (Cond.fieldLink RX10 13 "FaultTwinsModel" "from" "[I") ∈ wsX10_stepped := List.mem_of_getElem? (i := 3) (by decide +kernel)
theorem q_X10_stepped_4 : (Cond.fieldLink RX10 19 "FaultTwinsModel" "to" "[I") ∈ wsX10_stepped := List.mem_of_getElem? (i := 4) (by decide +kernel)
set_option maxHeartbeats 4000000 in
set_option maxRecDepth 100000 in
theorem c_X10_stepped (l : Launch) (Γ : ft_G) (hI : cR_I Γ) (a1 : Int32) (a2 : Int32) (σ : ft_St) (Φ : Int32 → Prop) (hw : w_X10_stepped a1 a2 σ Φ) : cR_Mip l yX10_stepped wsX10_stepped ({ frames := 1, cells := 0, slots := 0, locals := 21 } : Room) Γ σ [.ref (Γ.2.2 0), .int a1, .int a2] Φ := by
  refine Met.ofW (cc := cX10_stepped) (maxL := 8) (ret := (some .int)) (by decide) rfl ?_
  intro p e s m args below meth c s₁ B hml hv
  obtain ⟨rfl, hP, hK, hN⟩ := hv
  have hx := B.exec
  have hb := B.bytes
  have hr := B.returns
  have hts := atoms_spec (ws := wsX10_stepped) B.pre
  have hown : s.vm.findClass RX10 = some m.cls := findClass_of_methodNamed B.named
  have hlocks := B.notSynchronized
  have i10 : ∀ w ∈ wsX100, w ∈ wsX10_stepped := fun w h => List.mem_cons_of_mem _ (List.mem_append_right _ h)
  have hP : cR_P Γ s σ s.heap [] := ⟨hP, va_S.rf⟩
  have hl := lv_entry ([.ref (Γ.2.2 0), .int a1, .int a2]) (n := 8) (Nat.le_of_ble_eq_true rfl)
  rw [lg_entry_eq]
  generalize (lg_sl ([.ref (Γ.2.2 0), .int a1, .int a2]) ++ List.replicate (8 - (lg_sl ([.ref (Γ.2.2 0), .int a1, .int a2])).length) Slot.unset).toArray = ls at hl ⊢
  have hl : lv_has ls 8 [(0, .ref (Γ.2.2 0)), (1, .int a1), (2, .int a2)] := hl
  unfold w_X10_stepped at hw
  refine lv_iconst (v := 0) hx hb dX10_stepped_0 (by decide) ?_
  refine lv_istore_n (lv' := [(3, .int 0), (0, .ref (Γ.2.2 0)), (1, .int a1), (2, .int a2)]) hx hb dX10_stepped_1 rfl hl (by decide) rfl (fun ls hl => ?_)
  refine lv_iconst (v := 0) hx hb dX10_stepped_2 (by decide) ?_
  refine lv_istore (lv' := [(4, .int 0), (3, .int 0), (0, .ref (Γ.2.2 0)), (1, .int a1), (2, .int a2)]) hx hb dX10_stepped_3 hl (by decide) rfl (fun ls hl => ?_)
  refine hw (fun (x1 : Int32) (x2 : Int32) => ∀ (H : Heap) (locs : List Loc) (ls : Array Slot), cR_P Γ s σ H locs → lv_has ls 8 [(0, .ref (Γ.2.2 0)), (1, .int a1), (2, .int a2), (3, .int x1), (4, .int x2)] → cR_Wi p l e ({ frames := 1, cells := 0, slots := 0, locals := 21 } : Room) s m [.ref (Γ.2.2 0), .int a1, .int a2] below meth c Γ (fun r u => u = σ ∧ Φ r) H locs 5 ls []) (fun x1 x2 hw H locs ls hP hl => ?_) _ _ _ hP (lv_sub hl [2, 3, 4, 1, 0] rfl)
  refine lv_iload hx hb dX10_stepped_5 (lv_at hl 4 rfl) ?_
  refine lv_aload_n hx hb dX10_stepped_7 rfl (lv_at hl 0 rfl) ?_
  refine gR_10_1 hx hb hts i10 hown hK hP hR_0 (hts _ q_X10_stepped_1) dX10_stepped_8 ?_
  refine lv_icmp_ge (tgt := 136) hx hb dX10_stepped_11 (by decide) (fun h => ?_) (fun h => ?_)
  · replace hw := hw.1 h
    refine lv_iload_n hx hb dX10_stepped_136 rfl (lv_at hl 3 rfl) ?_
    exact W.iret hx hb hr (cR_ri hP ⟨rfl, hw⟩) hP.2.2.2 dX10_stepped_137
  · replace hw := hw.2 h
    refine lv_iload_n hx hb dX10_stepped_14 rfl (lv_at hl 2 rfl) ?_
    refine lv_aload_n hx hb dX10_stepped_15 rfl (lv_at hl 0 rfl) ?_
    refine gR_10_3 hx hb hts i10 hown hK hP hR_0 (hts _ q_X10_stepped_2) dX10_stepped_16 ?_
    refine lv_iload hx hb dX10_stepped_19 (lv_at hl 4 rfl) ?_
    refine aR_ld hx hb hK hP hR_3 mR_3 hw.1 dX10_stepped_21 ?_
    replace hw := hw.2
    refine lv_ishr hx hb dX10_stepped_22 ?_
    refine lv_iconst (v := 1) hx hb dX10_stepped_23 (by decide) ?_
    refine lv_iand hx hb dX10_stepped_24 ?_
    refine lv_iconst (v := 1) hx hb dX10_stepped_25 (by decide) ?_
    refine lv_icmp_ne (tgt := 130) hx hb dX10_stepped_26 (by decide) (fun h => ?_) (fun h => ?_)
    · replace hw := hw.1 h
      refine lv_iinc (v := x2 + 1) (lv' := [(4, .int (x2 + 1)), (0, .ref (Γ.2.2 0)), (1, .int a1), (2, .int a2), (3, .int x1)]) hx hb dX10_stepped_130 hl (k := 4) rfl (congrArg (fun z => x2 + z) (by decide)) (by decide) rfl (fun ls hl => ?_)
      refine lv_goto (tgt := 5) hx hb dX10_stepped_133 (by decide) ?_
      exact hw _ _ _ hP (lv_sub hl [1, 2, 3, 4, 0] rfl)
    · replace hw := hw.2 h
      refine lv_iload_n hx hb dX10_stepped_29 rfl (lv_at hl 1 rfl) ?_
      refine lv_aload_n hx hb dX10_stepped_30 rfl (lv_at hl 0 rfl) ?_
      refine gR_10_2 hx hb hts i10 hown hK hP hR_0 (hts _ q_X10_stepped_3) dX10_stepped_31 ?_
      refine lv_iload hx hb dX10_stepped_34 (lv_at hl 4 rfl) ?_
      refine aR_ld hx hb hK hP hR_2 mR_2 hw.1 dX10_stepped_36 ?_
      replace hw := hw.2
      refine lv_ishr hx hb dX10_stepped_37 ?_
      refine lv_iconst (v := 1) hx hb dX10_stepped_38 (by decide) ?_
      refine lv_iand hx hb dX10_stepped_39 ?_
      refine lv_topi (fun x4 ex4 => ?_)
      replace hw := hw x4 ex4
      refine lv_istore (lv' := [(5, .int x4), (0, .ref (Γ.2.2 0)), (1, .int a1), (2, .int a2), (3, .int x1), (4, .int x2)]) hx hb dX10_stepped_40 hl (by decide) rfl (fun ls hl => ?_)
      refine lv_iload_n hx hb dX10_stepped_42 rfl (lv_at hl 2 rfl) ?_
      refine lv_aload_n hx hb dX10_stepped_43 rfl (lv_at hl 1 rfl) ?_
      refine gR_10_2 hx hb hts i10 hown hK hP hR_0 (hts _ q_X10_stepped_3) dX10_stepped_44 ?_
      refine lv_iload hx hb dX10_stepped_47 (lv_at hl 5 rfl) ?_
      refine aR_ld hx hb hK hP hR_2 mR_2 hw.1 dX10_stepped_49 ?_
      replace hw := hw.2
      refine lv_bipush (v := 10) hx hb dX10_stepped_50 (by decide) ?_
      refine lv_iadd hx hb dX10_stepped_52 ?_
      refine lv_ishr hx hb dX10_stepped_53 ?_
      refine lv_iconst (v := 1) hx hb dX10_stepped_54 (by decide) ?_
      refine lv_iand hx hb dX10_stepped_55 ?_
      refine lv_topi (fun x5 ex5 => ?_)
      replace hw := hw x5 ex5
      refine lv_istore (lv' := [(6, .int x5), (5, .int x4), (0, .ref (Γ.2.2 0)), (1, .int a1), (2, .int a2), (3, .int x1), (4, .int x2)]) hx hb dX10_stepped_56 hl (by decide) rfl (fun ls hl => ?_)
      refine lv_aload_n hx hb dX10_stepped_58 rfl (lv_at hl 2 rfl) ?_
      refine lv_aload_n hx hb dX10_stepped_59 rfl (lv_at hl 2 rfl) ?_
      refine gR_10_3 hx hb hts i10 hown hK hP hR_0 (hts _ q_X10_stepped_2) dX10_stepped_60 ?_
      refine lv_iload hx hb dX10_stepped_63 (lv_at hl 6 rfl) ?_
      refine aR_ld hx hb hK hP hR_3 mR_3 hw.1 dX10_stepped_65 ?_
      replace hw := hw.2
      refine cR_Vip (rest := []) ⟨hx, hb, hml, hown, hts⟩ (c_X10_isFault l Γ hI (σ.2.1 3 (Int32.toNatClampNeg x2)) σ _ hw) (cwV 1 hts gX10_stepped_X10_isFault rfl rfl rfl (by decide +kernel) ⟨Nat.le_of_ble_eq_true rfl, Nat.le_of_ble_eq_true rfl⟩) hK hN hP (cR_lt hR_0 (by decide)) (cR_E10 hR_0) rfl rfl rfl hl.1 rfl (Nat.le_of_ble_eq_true rfl) dX10_stepped_66 ⟨Nat.le_refl _, Nat.le_refl _⟩ (fun r6 H locs hw hP => ?_)
      refine lv_istore (lv' := [(7, .int r6), (6, .int x5), (5, .int x4), (0, .ref (Γ.2.2 0)), (1, .int a1), (2, .int a2), (3, .int x1), (4, .int x2)]) hx hb dX10_stepped_69 hl (by decide) rfl (fun ls hl => ?_)
      refine lv_iload_n hx hb dX10_stepped_71 rfl (lv_at hl 6 rfl) ?_
      refine lv_iload hx hb dX10_stepped_72 (lv_at hl 2 rfl) ?_
      refine lv_iconst (v := 1) hx hb dX10_stepped_74 (by decide) ?_
      refine ft_cut (hw (fun (x7 : Int32) => ∀ (H : Heap) (locs : List Loc) (ls : Array Slot), cR_P Γ s σ H locs → lv_has ls 8 [(0, .ref (Γ.2.2 0)), (1, .int a1), (2, .int a2), (4, .int x2), (6, .int x5)] → cR_Wi p l e ({ frames := 1, cells := 0, slots := 0, locals := 21 } : Room) s m [.ref (Γ.2.2 0), .int a1, .int a2] below meth c Γ (fun r u => u = σ ∧ Φ r) H locs 103 ls [.int x7, .int x1]) (fun x7 hw H locs ls hP hl => ?_)) (fun hw => ?_)
      · refine lv_ior hx hb dX10_stepped_103 ?_
        refine lv_istore_n (lv' := [(3, .int (x1 ||| x7)), (0, .ref (Γ.2.2 0)), (1, .int a1), (2, .int a2), (4, .int x2), (6, .int x5)]) hx hb dX10_stepped_104 rfl hl (by decide) rfl (fun ls hl => ?_)
        refine lv_iload_n hx hb dX10_stepped_105 rfl (lv_at hl 0 rfl) ?_
        refine lv_iload hx hb dX10_stepped_106 (lv_at hl 5 rfl) ?_
        refine lv_iconst (v := 1) hx hb dX10_stepped_108 (by decide) ?_
        refine ft_cut (hw (fun (x9 : Int32) => ∀ (H : Heap) (locs : List Loc) (ls : Array Slot), cR_P Γ s σ H locs → lv_has ls 8 [(0, .ref (Γ.2.2 0)), (1, .int a1), (2, .int a2), (4, .int x2)] → cR_Wi p l e ({ frames := 1, cells := 0, slots := 0, locals := 21 } : Room) s m [.ref (Γ.2.2 0), .int a1, .int a2] below meth c Γ (fun r u => u = σ ∧ Φ r) H locs 128 ls [.int x9, .int (x1 ||| x7)]) (fun x9 hw H locs ls hP hl => ?_)) (fun hw => ?_)
        · refine lv_ior hx hb dX10_stepped_128 ?_
          refine lv_istore_n (lv' := [(3, .int ((x1 ||| x7) ||| x9)), (0, .ref (Γ.2.2 0)), (1, .int a1), (2, .int a2), (4, .int x2)]) hx hb dX10_stepped_129 rfl hl (by decide) rfl (fun ls hl => ?_)
          refine lv_iinc (v := x2 + 1) (lv' := [(4, .int (x2 + 1)), (3, .int ((x1 ||| x7) ||| x9)), (0, .ref (Γ.2.2 0)), (1, .int a1), (2, .int a2)]) hx hb dX10_stepped_130 hl (k := 4) rfl (congrArg (fun z => x2 + z) (by decide)) (by decide) rfl (fun ls hl => ?_)
          refine lv_goto (tgt := 5) hx hb dX10_stepped_133 (by decide) ?_
          exact hw _ _ _ hP (lv_sub hl [2, 3, 4, 1, 0] rfl)
        · refine lv_icmp_ne (tgt := 127) hx hb dX10_stepped_109 (by decide) (fun h => ?_) (fun h => ?_)
          · replace hw := hw.1 h
            refine lv_iconst (v := 0) hx hb dX10_stepped_127 (by decide) ?_
            exact hw _ _ _ hP (lv_sub hl [1, 2, 3, 4] rfl)
          · replace hw := hw.2 h
            refine lv_iconst (v := 1) hx hb dX10_stepped_112 (by decide) ?_
            refine lv_aload_n hx hb dX10_stepped_113 rfl (lv_at hl 1 rfl) ?_
            refine gR_10_4 hx hb hts i10 hown hK hP hR_0 (hts _ q_X10_stepped_4) dX10_stepped_114 ?_
            refine lv_iload hx hb dX10_stepped_117 (lv_at hl 4 rfl) ?_
            refine aR_ld hx hb hK hP hR_4 mR_4 hw.1 dX10_stepped_119 ?_
            replace hw := hw.2
            refine lv_bipush (v := 10) hx hb dX10_stepped_120 (by decide) ?_
            refine lv_iadd hx hb dX10_stepped_122 ?_
            refine lv_ishl hx hb dX10_stepped_123 ?_
            refine lv_goto (tgt := 128) hx hb dX10_stepped_124 (by decide) ?_
            exact hw _ _ _ hP (lv_sub hl [1, 2, 3, 4] rfl)
      · refine lv_icmp_ne (tgt := 102) hx hb dX10_stepped_75 (by decide) (fun h => ?_) (fun h => ?_)
        · replace hw := hw.1 h
          refine lv_iconst (v := 0) hx hb dX10_stepped_102 (by decide) ?_
          exact hw _ _ _ hP (lv_sub hl [3, 4, 5, 7, 1] rfl)
        · replace hw := hw.2 h
          refine lv_iconst (v := 1) hx hb dX10_stepped_78 (by decide) ?_
          refine lv_aload_n hx hb dX10_stepped_79 rfl (lv_at hl 3 rfl) ?_
          refine gR_10_4 hx hb hts i10 hown hK hP hR_0 (hts _ q_X10_stepped_4) dX10_stepped_80 ?_
          refine lv_iload hx hb dX10_stepped_83 (lv_at hl 7 rfl) ?_
          refine aR_ld hx hb hK hP hR_4 mR_4 hw.1 dX10_stepped_85 ?_
          replace hw := hw.2
          refine lv_iload hx hb dX10_stepped_86 (lv_at hl 0 rfl) ?_
          refine lv_if_eq (tgt := 96) hx hb dX10_stepped_88 (by decide) (fun h => ?_) (fun h => ?_)
          · replace hw := hw.1 h
            refine lv_iconst (v := 0) hx hb dX10_stepped_96 (by decide) ?_
            refine lv_iadd hx hb dX10_stepped_97 ?_
            refine lv_ishl hx hb dX10_stepped_98 ?_
            refine lv_goto (tgt := 103) hx hb dX10_stepped_99 (by decide) ?_
            exact hw _ _ _ hP (lv_sub hl [3, 4, 5, 7, 1] rfl)
          · replace hw := hw.2 h
            refine lv_bipush (v := 10) hx hb dX10_stepped_91 (by decide) ?_
            refine lv_goto (tgt := 97) hx hb dX10_stepped_93 (by decide) ?_
            refine lv_iadd hx hb dX10_stepped_97 ?_
            refine lv_ishl hx hb dX10_stepped_98 ?_
            refine lv_goto (tgt := 103) hx hb dX10_stepped_99 (by decide) ?_
            exact hw _ _ _ hP (lv_sub hl [3, 4, 5, 7, 1] rfl)
theorem q_X10_closed_1 : (Cond.fieldLink RX10 22 "FaultTwinsModel" "seen" "I") ∈ wsX10_closed := List.mem_of_getElem? (i := 1) (by decide +kernel)
set_option maxHeartbeats 4000000 in
set_option maxRecDepth 100000 in
theorem c_X10_closed (l : Launch) (Γ : ft_G) (hI : cR_I Γ) (a1 : Int32) (σ : ft_St) (Φ : Int32 → Prop) (hw : w_X10_closed a1 σ Φ) : cR_Mip l yX10_closed wsX10_closed ({ frames := 2, cells := 0, slots := 0, locals := 48 } : Room) Γ σ [.ref (Γ.2.2 0), .int a1] Φ := by
  refine Met.ofW (cc := cX10_closed) (maxL := 4) (ret := (some .int)) (by decide) rfl ?_
  intro p e s m args below meth c s₁ B hml hv
  obtain ⟨rfl, hP, hK, hN⟩ := hv
  have hx := B.exec
  have hb := B.bytes
  have hr := B.returns
  have hts := atoms_spec (ws := wsX10_closed) B.pre
  have hown : s.vm.findClass RX10 = some m.cls := findClass_of_methodNamed B.named
  have hlocks := B.notSynchronized
  have i10 : ∀ w ∈ wsX100, w ∈ wsX10_closed := fun w h => List.mem_cons_of_mem _ (List.mem_append_right _ h)
  have hP : cR_P Γ s σ s.heap [] := ⟨hP, va_S.rf⟩
  have hl := lv_entry ([.ref (Γ.2.2 0), .int a1]) (n := 4) (Nat.le_of_ble_eq_true rfl)
  rw [lg_entry_eq]
  generalize (lg_sl ([.ref (Γ.2.2 0), .int a1]) ++ List.replicate (4 - (lg_sl ([.ref (Γ.2.2 0), .int a1])).length) Slot.unset).toArray = ls at hl ⊢
  have hl : lv_has ls 4 [(0, .ref (Γ.2.2 0)), (1, .int a1)] := hl
  unfold w_X10_closed at hw
  refine lv_iload_n hx hb dX10_closed_0 rfl (lv_at hl 1 rfl) ?_
  refine lv_istore_n (lv' := [(2, .int a1), (0, .ref (Γ.2.2 0)), (1, .int a1)]) hx hb dX10_closed_1 rfl hl (by decide) rfl (fun ls hl => ?_)
  refine lv_iconst (v := 0) hx hb dX10_closed_2 (by decide) ?_
  refine lv_istore_n (lv' := [(3, .int 0), (2, .int a1), (0, .ref (Γ.2.2 0)), (1, .int a1)]) hx hb dX10_closed_3 rfl hl (by decide) rfl (fun ls hl => ?_)
  refine hw (fun (x1 : Int32) (x2 : Int32) => ∀ (H : Heap) (locs : List Loc) (ls : Array Slot), cR_P Γ s σ H locs → lv_has ls 4 [(0, .ref (Γ.2.2 0)), (2, .int x1), (3, .int x2)] → cR_Wi p l e ({ frames := 2, cells := 0, slots := 0, locals := 48 } : Room) s m [.ref (Γ.2.2 0), .int a1] below meth c Γ (fun r u => u = σ ∧ Φ r) H locs 4 ls []) (fun x1 x2 hw H locs ls hP hl => ?_) _ _ _ hP (lv_sub hl [2, 1, 0] rfl)
  refine lv_iload_n hx hb dX10_closed_4 rfl (lv_at hl 2 rfl) ?_
  refine lv_iload_n hx hb dX10_closed_5 rfl (lv_at hl 1 rfl) ?_
  refine lv_icmp_eq (tgt := 32) hx hb dX10_closed_6 (by decide) (fun h => ?_) (fun h => ?_)
  · replace hw := hw.1 h
    refine lv_iload_n hx hb dX10_closed_32 rfl (lv_at hl 1 rfl) ?_
    exact W.iret hx hb hr (cR_ri hP ⟨rfl, hw⟩) hP.2.2.2 dX10_closed_33
  · replace hw := hw.2 h
    refine lv_iload_n hx hb dX10_closed_9 rfl (lv_at hl 1 rfl) ?_
    refine lv_istore_n (lv' := [(3, .int x1), (0, .ref (Γ.2.2 0)), (2, .int x1)]) hx hb dX10_closed_10 rfl hl (by decide) rfl (fun ls hl => ?_)
    refine lv_iload_n hx hb dX10_closed_11 rfl (lv_at hl 2 rfl) ?_
    refine lv_aload_n hx hb dX10_closed_12 rfl (lv_at hl 1 rfl) ?_
    refine lv_iload_n hx hb dX10_closed_13 rfl (lv_at hl 2 rfl) ?_
    refine lv_sipush (v := 255) hx hb dX10_closed_14 (by decide) ?_
    refine lv_aload_n hx hb dX10_closed_17 rfl (lv_at hl 1 rfl) ?_
    refine gR_10_5 hx hb hts i10 hown hK hP hR_0 (hts _ q_X10_closed_1) dX10_closed_18 ?_
    refine lv_iconst (v := (-1)) hx hb dX10_closed_21 (by decide) ?_
    refine lv_ixor hx hb dX10_closed_22 ?_
    refine lv_iand hx hb dX10_closed_23 ?_
    refine cR_Vip (rest := [.int x1]) ⟨hx, hb, hml, hown, hts⟩ (c_X10_stepped l Γ hI x1 (255 &&& ((σ.1 0 5) ^^^ (-1))) σ _ hw) (cwV 2 hts gX10_closed_X10_stepped rfl rfl rfl (by decide +kernel) ⟨Nat.le_of_ble_eq_true rfl, Nat.le_of_ble_eq_true rfl⟩) hK hN hP (cR_lt hR_0 (by decide)) (cR_E10 hR_0) rfl rfl rfl hl.1 rfl (Nat.le_of_ble_eq_true rfl) dX10_closed_24 ⟨Nat.le_refl _, Nat.le_refl _⟩ (fun r4 H locs hw hP => ?_)
    refine lv_ior hx hb dX10_closed_27 ?_
    refine lv_istore_n (lv' := [(2, .int (x1 ||| r4)), (3, .int x1), (0, .ref (Γ.2.2 0))]) hx hb dX10_closed_28 rfl hl (by decide) rfl (fun ls hl => ?_)
    refine lv_goto (tgt := 4) hx hb dX10_closed_29 (by decide) ?_
    exact hw _ _ _ hP (lv_sub hl [2, 0, 1] rfl)
theorem q_X10_begins_1 : (Cond.fieldLink RX10 26 "FaultTwinsModel" "known" "I") ∈ wsX10_begins := List.mem_of_getElem? (i := 1) (by decide +kernel)
theorem q_X10_begins_2 : (Cond.fieldLink RX10 76 "FaultTwinsModel" "sights" "I") ∈ wsX10_begins := List.mem_of_getElem? (i := 2) (by decide +kernel)
set_option maxHeartbeats 4000000 in
set_option maxRecDepth 100000 in
theorem c_X10_begins (l : Launch) (Γ : ft_G) (hI : cR_I Γ)  (σ : ft_St) (Φ : ft_St → Prop) (hw : w_X10_begins  σ Φ) : cR_Mv l yX10_begins wsX10_begins ({ frames := 3, cells := 0, slots := 0, locals := 71 } : Room) Γ σ [.ref (Γ.2.2 0)] Φ := by
  refine Met.ofW (cc := cX10_begins) (maxL := 1) (ret := none) (by decide) rfl ?_
  intro p e s m args below meth c s₁ B hml hv
  obtain ⟨rfl, hP, hK, hN⟩ := hv
  have hx := B.exec
  have hb := B.bytes
  have hr := B.returns
  have hts := atoms_spec (ws := wsX10_begins) B.pre
  have hown : s.vm.findClass RX10 = some m.cls := findClass_of_methodNamed B.named
  have hlocks := B.notSynchronized
  have i10 : ∀ w ∈ wsX100, w ∈ wsX10_begins := fun w h => List.mem_cons_of_mem _ (List.mem_append_right _ h)
  have hP : cR_P Γ s σ s.heap [] := ⟨hP, va_S.rf⟩
  have hl := lv_entry ([.ref (Γ.2.2 0)]) (n := 1) (Nat.le_of_ble_eq_true rfl)
  rw [lg_entry_eq]
  generalize (lg_sl ([.ref (Γ.2.2 0)]) ++ List.replicate (1 - (lg_sl ([.ref (Γ.2.2 0)])).length) Slot.unset).toArray = ls at hl ⊢
  have hl : lv_has ls 1 [(0, .ref (Γ.2.2 0))] := hl
  unfold w_X10_begins at hw
  refine lv_aload_n hx hb dX10_begins_0 rfl (lv_at hl 0 rfl) ?_
  refine lv_aload_n hx hb dX10_begins_1 rfl (lv_at hl 0 rfl) ?_
  refine lv_iconst (v := 1) hx hb dX10_begins_2 (by decide) ?_
  refine cR_Vip (rest := [.ref (Γ.2.2 0)]) ⟨hx, hb, hml, hown, hts⟩ (c_X10_closed l Γ hI 1 σ _ hw) (cwV 1 hts gX10_begins_X10_closed rfl rfl rfl (by decide +kernel) ⟨Nat.le_of_ble_eq_true rfl, Nat.le_of_ble_eq_true rfl⟩) hK hN hP (cR_lt hR_0 (by decide)) (cR_E10 hR_0) rfl rfl rfl hl.1 rfl (Nat.le_of_ble_eq_true rfl) dX10_begins_3 ⟨Nat.le_refl _, Nat.le_refl _⟩ (fun r1 H locs hw hP => ?_)
  refine pR_10_7 hx hb hts i10 hown hK hI hP hR_0 (hts _ q_X10_begins_1) dX10_begins_6 (fun H locs hP => ?_)
  obtain ⟨s2, hs2⟩ : ∃ u, u = ft_sF σ 0 7 r1 := ⟨_, rfl⟩
  rw [← hs2] at hP
  replace hw := hw s2 hs2
  refine lv_aload_n hx hb dX10_begins_9 rfl (lv_at hl 0 rfl) ?_
  refine lv_iconst (v := 0) hx hb dX10_begins_10 (by decide) ?_
  refine pR_10_8 hx hb hts i10 hown hK hI hP hR_0 (hts _ q_X10_begins_2) dX10_begins_11 (fun H locs hP => ?_)
  obtain ⟨s3, hs3⟩ : ∃ u, u = ft_sF s2 0 8 0 := ⟨_, rfl⟩
  rw [← hs3] at hP
  replace hw := hw s3 hs3
  exact W.vret hx hb hr (cR_rv hP hw) hP.2.2.2 dX10_begins_14
theorem q_X10_comesWay_1 : (Cond.fieldLink RX10 13 "FaultTwinsModel" "from" "[I") ∈ wsX10_comesWay := List.mem_of_getElem? (i := 1) (by decide +kernel)
theorem q_X10_comesWay_2 : (Cond.fieldLink RX10 70 "FaultTwinsModel" "many" "I") ∈ wsX10_comesWay := List.mem_of_getElem? (i := 2) (by decide +kernel)
theorem q_X10_comesWay_3 : (Cond.fieldLink RX10 16 "FaultTwinsModel" "by" "[I") ∈ wsX10_comesWay := List.mem_of_getElem? (i := 3) (by decide +kernel)
theorem q_X10_comesWay_4 : (Cond.fieldLink RX10 19 "FaultTwinsModel" "to" "[I") ∈ wsX10_comesWay := List.mem_of_getElem? (i := 4) (by decide +kernel)
set_option maxHeartbeats 4000000 in
set_option maxRecDepth 100000 in
theorem c_X10_comesWay (l : Launch) (Γ : ft_G) (hI : cR_I Γ) (a1 : Int32) (a2 : Int32) (a3 : Int32) (σ : ft_St) (Φ : ft_St → Prop) (hw : w_X10_comesWay a1 a2 a3 σ Φ) : cR_Mv l yX10_comesWay wsX10_comesWay ({ frames := 0, cells := 0, slots := 0, locals := 0 } : Room) Γ σ [.ref (Γ.2.2 0), .int a1, .int a2, .int a3] Φ := by
  refine Met.ofW (cc := cX10_comesWay) (maxL := 4) (ret := none) (by decide) rfl ?_
  intro p e s m args below meth c s₁ B hml hv
  obtain ⟨rfl, hP, hK, hN⟩ := hv
  have hx := B.exec
  have hb := B.bytes
  have hr := B.returns
  have hts := atoms_spec (ws := wsX10_comesWay) B.pre
  have hown : s.vm.findClass RX10 = some m.cls := findClass_of_methodNamed B.named
  have hlocks := B.notSynchronized
  have i10 : ∀ w ∈ wsX100, w ∈ wsX10_comesWay := fun w h => List.mem_cons_of_mem _ (List.mem_append_right _ h)
  have hP : cR_P Γ s σ s.heap [] := ⟨hP, va_S.rf⟩
  have hl := lv_entry ([.ref (Γ.2.2 0), .int a1, .int a2, .int a3]) (n := 4) (Nat.le_of_ble_eq_true rfl)
  rw [lg_entry_eq]
  generalize (lg_sl ([.ref (Γ.2.2 0), .int a1, .int a2, .int a3]) ++ List.replicate (4 - (lg_sl ([.ref (Γ.2.2 0), .int a1, .int a2, .int a3])).length) Slot.unset).toArray = ls at hl ⊢
  have hl : lv_has ls 4 [(0, .ref (Γ.2.2 0)), (1, .int a1), (2, .int a2), (3, .int a3)] := hl
  unfold w_X10_comesWay at hw
  refine lv_aload_n hx hb dX10_comesWay_0 rfl (lv_at hl 0 rfl) ?_
  refine gR_10_2 hx hb hts i10 hown hK hP hR_0 (hts _ q_X10_comesWay_1) dX10_comesWay_1 ?_
  refine lv_aload_n hx hb dX10_comesWay_4 rfl (lv_at hl 0 rfl) ?_
  refine gR_10_1 hx hb hts i10 hown hK hP hR_0 (hts _ q_X10_comesWay_2) dX10_comesWay_5 ?_
  refine lv_iload_n hx hb dX10_comesWay_8 rfl (lv_at hl 1 rfl) ?_
  refine aR_st hx hb hK hI hP hR_2 mR_2 hw.1 dX10_comesWay_9 (fun H locs hP => ?_)
  replace hw := hw.2
  obtain ⟨s1, hs1⟩ : ∃ u, u = ft_sA σ 2 (upd (σ.2.1 2) (Int32.toNatClampNeg (σ.1 0 1)) a1) := ⟨_, rfl⟩
  rw [← hs1] at hP
  replace hw := hw s1 hs1
  refine lv_aload_n hx hb dX10_comesWay_10 rfl (lv_at hl 0 rfl) ?_
  refine gR_10_3 hx hb hts i10 hown hK hP hR_0 (hts _ q_X10_comesWay_3) dX10_comesWay_11 ?_
  refine lv_aload_n hx hb dX10_comesWay_14 rfl (lv_at hl 0 rfl) ?_
  refine gR_10_1 hx hb hts i10 hown hK hP hR_0 (hts _ q_X10_comesWay_2) dX10_comesWay_15 ?_
  refine lv_iload_n hx hb dX10_comesWay_18 rfl (lv_at hl 2 rfl) ?_
  refine aR_st hx hb hK hI hP hR_3 mR_3 hw.1 dX10_comesWay_19 (fun H locs hP => ?_)
  replace hw := hw.2
  obtain ⟨s2, hs2⟩ : ∃ u, u = ft_sA s1 3 (upd (s1.2.1 3) (Int32.toNatClampNeg (s1.1 0 1)) a2) := ⟨_, rfl⟩
  rw [← hs2] at hP
  replace hw := hw s2 hs2
  refine lv_aload_n hx hb dX10_comesWay_20 rfl (lv_at hl 0 rfl) ?_
  refine gR_10_4 hx hb hts i10 hown hK hP hR_0 (hts _ q_X10_comesWay_4) dX10_comesWay_21 ?_
  refine lv_aload_n hx hb dX10_comesWay_24 rfl (lv_at hl 0 rfl) ?_
  refine gR_10_1 hx hb hts i10 hown hK hP hR_0 (hts _ q_X10_comesWay_2) dX10_comesWay_25 ?_
  refine lv_iload_n hx hb dX10_comesWay_28 rfl (lv_at hl 3 rfl) ?_
  refine aR_st hx hb hK hI hP hR_4 mR_4 hw.1 dX10_comesWay_29 (fun H locs hP => ?_)
  replace hw := hw.2
  obtain ⟨s3, hs3⟩ : ∃ u, u = ft_sA s2 4 (upd (s2.2.1 4) (Int32.toNatClampNeg (s2.1 0 1)) a3) := ⟨_, rfl⟩
  rw [← hs3] at hP
  replace hw := hw s3 hs3
  refine lv_aload_n hx hb dX10_comesWay_30 rfl (lv_at hl 0 rfl) ?_
  refine lv_dup hx hb dX10_comesWay_31 rfl ?_
  refine gR_10_1 hx hb hts i10 hown hK hP hR_0 (hts _ q_X10_comesWay_2) dX10_comesWay_32 ?_
  refine lv_iconst (v := 1) hx hb dX10_comesWay_35 (by decide) ?_
  refine lv_iadd hx hb dX10_comesWay_36 ?_
  refine pR_10_1 hx hb hts i10 hown hK hI hP hR_0 (hts _ q_X10_comesWay_2) dX10_comesWay_37 (fun H locs hP => ?_)
  obtain ⟨s4, hs4⟩ : ∃ u, u = ft_sF s3 0 1 ((s3.1 0 1) + 1) := ⟨_, rfl⟩
  rw [← hs4] at hP
  replace hw := hw s4 hs4
  exact W.vret hx hb hr (cR_rv hP hw) hP.2.2.2 dX10_comesWay_40
theorem q_X10_way_1 : (Cond.fieldLink RX10 70 "FaultTwinsModel" "many" "I") ∈ wsX10_way := List.mem_of_getElem? (i := 1) (by decide +kernel)
set_option maxHeartbeats 4000000 in
set_option maxRecDepth 100000 in
theorem c_X10_way (l : Launch) (Γ : ft_G) (hI : cR_I Γ) (a1 : Int32) (a2 : Int32) (a3 : Int32) (σ : ft_St) (Φ : Int32 → ft_St → Prop) (hw : w_X10_way a1 a2 a3 σ Φ) : cR_Mi l yX10_way wsX10_way ({ frames := 4, cells := 0, slots := 0, locals := 91 } : Room) Γ σ [.ref (Γ.2.2 0), .int a1, .int a2, .int a3] Φ := by
  refine Met.ofW (cc := cX10_way) (maxL := 4) (ret := (some .int)) (by decide) rfl ?_
  intro p e s m args below meth c s₁ B hml hv
  obtain ⟨rfl, hP, hK, hN⟩ := hv
  have hx := B.exec
  have hb := B.bytes
  have hr := B.returns
  have hts := atoms_spec (ws := wsX10_way) B.pre
  have hown : s.vm.findClass RX10 = some m.cls := findClass_of_methodNamed B.named
  have hlocks := B.notSynchronized
  have i10 : ∀ w ∈ wsX100, w ∈ wsX10_way := fun w h => List.mem_cons_of_mem _ (List.mem_append_right _ h)
  have hP : cR_P Γ s σ s.heap [] := ⟨hP, va_S.rf⟩
  have hl := lv_entry ([.ref (Γ.2.2 0), .int a1, .int a2, .int a3]) (n := 4) (Nat.le_of_ble_eq_true rfl)
  rw [lg_entry_eq]
  generalize (lg_sl ([.ref (Γ.2.2 0), .int a1, .int a2, .int a3]) ++ List.replicate (4 - (lg_sl ([.ref (Γ.2.2 0), .int a1, .int a2, .int a3])).length) Slot.unset).toArray = ls at hl ⊢
  have hl : lv_has ls 4 [(0, .ref (Γ.2.2 0)), (1, .int a1), (2, .int a2), (3, .int a3)] := hl
  unfold w_X10_way at hw
  refine lv_iload_n hx hb dX10_way_0 rfl (lv_at hl 1 rfl) ?_
  refine cR_Sip (rest := []) ⟨hx, hb, hml, hown, hts⟩ (c_X10_isPlace l Γ hI a1 σ _ hw) (va_cwS 1 hts gX10_way_X10_isPlace rfl rfl rfl (by decide +kernel) ⟨Nat.le_of_ble_eq_true rfl, Nat.le_of_ble_eq_true rfl⟩) hK hN hP rfl hl.1 rfl (Nat.le_of_ble_eq_true rfl) dX10_way_1 ⟨Nat.le_refl _, Nat.le_refl _⟩ (fun r1 H locs hw hP => ?_)
  refine ft_cut (hw (∀ (H : Heap) (locs : List Loc) (ls : Array Slot), cR_P Γ s σ H locs → lv_has ls 4 [(0, .ref (Γ.2.2 0))] → cR_Wi p l e ({ frames := 4, cells := 0, slots := 0, locals := 91 } : Room) s m [.ref (Γ.2.2 0), .int a1, .int a2, .int a3] below meth c Γ Φ H locs 21 ls []) (fun  hw H locs ls hP hl => ?_)) (fun hw => ?_)
  · refine lv_aload_n hx hb dX10_way_21 rfl (lv_at hl 0 rfl) ?_
    refine cR_Vi (rest := []) ⟨hx, hb, hml, hown, hts⟩ (c_X10_bad l Γ hI  σ _ hw) (cwV 0 hts gX10_way_X10_bad rfl rfl rfl (by decide +kernel) ⟨Nat.le_of_ble_eq_true rfl, Nat.le_of_ble_eq_true rfl⟩) hK hN hP (cR_lt hR_0 (by decide)) (cR_E10 hR_0) rfl rfl rfl hl.1 rfl (Nat.le_of_ble_eq_true rfl) dX10_way_22 ⟨Nat.le_refl _, Nat.le_refl _⟩ (fun r3 s4 H locs hw hP => ?_)
    exact W.iret hx hb hr (cR_ri hP hw) hP.2.2.2 dX10_way_25
  · refine lv_if_eq (tgt := 21) hx hb dX10_way_4 (by decide) (fun h => ?_) (fun h => ?_)
    · replace hw := hw.1 h
      exact hw _ _ _ hP (lv_sub hl [0] rfl)
    · replace hw := hw.2 h
      refine lv_iload_n hx hb dX10_way_7 rfl (lv_at hl 2 rfl) ?_
      refine cR_Sip (rest := []) ⟨hx, hb, hml, hown, hts⟩ (c_X10_isDeed l Γ hI a2 σ _ hw) (va_cwS 1 hts gX10_way_X10_isDeed rfl rfl rfl (by decide +kernel) ⟨Nat.le_of_ble_eq_true rfl, Nat.le_of_ble_eq_true rfl⟩) hK hN hP rfl hl.1 rfl (Nat.le_of_ble_eq_true rfl) dX10_way_8 ⟨Nat.le_refl _, Nat.le_refl _⟩ (fun r5 H locs hw hP => ?_)
      refine lv_if_eq (tgt := 21) hx hb dX10_way_11 (by decide) (fun h => ?_) (fun h => ?_)
      · replace hw := hw.1 h
        exact hw _ _ _ hP (lv_sub hl [0] rfl)
      · replace hw := hw.2 h
        refine lv_iload_n hx hb dX10_way_14 rfl (lv_at hl 3 rfl) ?_
        refine cR_Sip (rest := []) ⟨hx, hb, hml, hown, hts⟩ (c_X10_isPlace l Γ hI a3 σ _ hw) (va_cwS 1 hts gX10_way_X10_isPlace rfl rfl rfl (by decide +kernel) ⟨Nat.le_of_ble_eq_true rfl, Nat.le_of_ble_eq_true rfl⟩) hK hN hP rfl hl.1 rfl (Nat.le_of_ble_eq_true rfl) dX10_way_15 ⟨Nat.le_refl _, Nat.le_refl _⟩ (fun r6 H locs hw hP => ?_)
        refine lv_if_ne (tgt := 26) hx hb dX10_way_18 (by decide) (fun h => ?_) (fun h => ?_)
        · replace hw := hw.1 h
          refine lv_aload_n hx hb dX10_way_26 rfl (lv_at hl 0 rfl) ?_
          refine lv_iload_n hx hb dX10_way_27 rfl (lv_at hl 1 rfl) ?_
          refine lv_iload_n hx hb dX10_way_28 rfl (lv_at hl 2 rfl) ?_
          refine lv_iload_n hx hb dX10_way_29 rfl (lv_at hl 3 rfl) ?_
          refine cR_Vip (rest := []) ⟨hx, hb, hml, hown, hts⟩ (c_X10_isThere l Γ hI a1 a2 a3 σ _ hw) (cwV 3 hts gX10_way_X10_isThere rfl rfl rfl (by decide +kernel) ⟨Nat.le_of_ble_eq_true rfl, Nat.le_of_ble_eq_true rfl⟩) hK hN hP (cR_lt hR_0 (by decide)) (cR_E10 hR_0) rfl rfl rfl hl.1 rfl (Nat.le_of_ble_eq_true rfl) dX10_way_30 ⟨Nat.le_refl _, Nat.le_refl _⟩ (fun r7 H locs hw hP => ?_)
          refine lv_if_eq (tgt := 41) hx hb dX10_way_33 (by decide) (fun h => ?_) (fun h => ?_)
          · replace hw := hw.1 h
            refine lv_aload_n hx hb dX10_way_41 rfl (lv_at hl 0 rfl) ?_
            refine gR_10_1 hx hb hts i10 hown hK hP hR_0 (hts _ q_X10_way_1) dX10_way_42 ?_
            refine lv_bipush (v := 24) hx hb dX10_way_45 (by decide) ?_
            refine lv_icmp_ne (tgt := 55) hx hb dX10_way_47 (by decide) (fun h => ?_) (fun h => ?_)
            · replace hw := hw.1 h
              refine lv_aload_n hx hb dX10_way_55 rfl (lv_at hl 0 rfl) ?_
              refine cR_Vv (rest := []) ⟨hx, hb, hml, hown, hts⟩ (c_X10_leavesState l Γ hI  σ _ hw) (cwV 0 hts gX10_way_X10_leavesState rfl rfl rfl (by decide +kernel) ⟨Nat.le_of_ble_eq_true rfl, Nat.le_of_ble_eq_true rfl⟩) hK hN hP (cR_lt hR_0 (by decide)) (cR_E10 hR_0) rfl rfl rfl hl.1 rfl (Nat.le_of_ble_eq_true rfl) dX10_way_56 ⟨Nat.le_refl _, Nat.le_refl _⟩ (fun s8 H locs hw hP => ?_)
              refine lv_aload_n hx hb dX10_way_59 rfl (lv_at hl 0 rfl) ?_
              refine lv_iload_n hx hb dX10_way_60 rfl (lv_at hl 1 rfl) ?_
              refine lv_iload_n hx hb dX10_way_61 rfl (lv_at hl 2 rfl) ?_
              refine lv_iload_n hx hb dX10_way_62 rfl (lv_at hl 3 rfl) ?_
              refine cR_Vv (rest := []) ⟨hx, hb, hml, hown, hts⟩ (c_X10_comesWay l Γ hI a1 a2 a3 s8 _ hw) (cwV 3 hts gX10_way_X10_comesWay rfl rfl rfl (by decide +kernel) ⟨Nat.le_of_ble_eq_true rfl, Nat.le_of_ble_eq_true rfl⟩) hK hN hP (cR_lt hR_0 (by decide)) (cR_E10 hR_0) rfl rfl rfl hl.1 rfl (Nat.le_of_ble_eq_true rfl) dX10_way_63 ⟨Nat.le_refl _, Nat.le_refl _⟩ (fun s9 H locs hw hP => ?_)
              refine lv_aload_n hx hb dX10_way_66 rfl (lv_at hl 0 rfl) ?_
              refine cR_Vv (rest := []) ⟨hx, hb, hml, hown, hts⟩ (c_X10_begins l Γ hI  s9 _ hw) (cwV 0 hts gX10_way_X10_begins rfl rfl rfl (by decide +kernel) ⟨Nat.le_of_ble_eq_true rfl, Nat.le_of_ble_eq_true rfl⟩) hK hN hP (cR_lt hR_0 (by decide)) (cR_E10 hR_0) rfl rfl rfl hl.1 rfl (Nat.le_of_ble_eq_true rfl) dX10_way_67 ⟨Nat.le_refl _, Nat.le_refl _⟩ (fun s10 H locs hw hP => ?_)
              refine lv_aload_n hx hb dX10_way_70 rfl (lv_at hl 0 rfl) ?_
              refine gR_10_1 hx hb hts i10 hown hK hP hR_0 (hts _ q_X10_way_1) dX10_way_71 ?_
              refine lv_iconst (v := 1) hx hb dX10_way_74 (by decide) ?_
              refine lv_isub hx hb dX10_way_75 ?_
              exact W.iret hx hb hr (cR_ri hP hw) hP.2.2.2 dX10_way_76
            · replace hw := hw.2 h
              refine lv_aload_n hx hb dX10_way_50 rfl (lv_at hl 0 rfl) ?_
              refine cR_Vi (rest := []) ⟨hx, hb, hml, hown, hts⟩ (c_X10_full l Γ hI  σ _ hw) (cwV 0 hts gX10_way_X10_full rfl rfl rfl (by decide +kernel) ⟨Nat.le_of_ble_eq_true rfl, Nat.le_of_ble_eq_true rfl⟩) hK hN hP (cR_lt hR_0 (by decide)) (cR_E10 hR_0) rfl rfl rfl hl.1 rfl (Nat.le_of_ble_eq_true rfl) dX10_way_51 ⟨Nat.le_refl _, Nat.le_refl _⟩ (fun r11 s12 H locs hw hP => ?_)
              exact W.iret hx hb hr (cR_ri hP hw) hP.2.2.2 dX10_way_54
          · replace hw := hw.2 h
            refine lv_aload_n hx hb dX10_way_36 rfl (lv_at hl 0 rfl) ?_
            refine cR_Vi (rest := []) ⟨hx, hb, hml, hown, hts⟩ (c_X10_no l Γ hI  σ _ hw) (cwV 0 hts gX10_way_X10_no rfl rfl rfl (by decide +kernel) ⟨Nat.le_of_ble_eq_true rfl, Nat.le_of_ble_eq_true rfl⟩) hK hN hP (cR_lt hR_0 (by decide)) (cR_E10 hR_0) rfl rfl rfl hl.1 rfl (Nat.le_of_ble_eq_true rfl) dX10_way_37 ⟨Nat.le_refl _, Nat.le_refl _⟩ (fun r13 s14 H locs hw hP => ?_)
            exact W.iret hx hb hr (cR_ri hP hw) hP.2.2.2 dX10_way_40
        · replace hw := hw.2 h
          exact hw _ _ _ hP (lv_sub hl [0] rfl)
theorem q_X10_drop_1 : (Cond.fieldLink RX10 70 "FaultTwinsModel" "many" "I") ∈ wsX10_drop := List.mem_of_getElem? (i := 1) (by decide +kernel)
theorem q_X10_drop_2 : (Cond.fieldLink RX10 13 "FaultTwinsModel" "from" "[I") ∈ wsX10_drop := List.mem_of_getElem? (i := 2) (by decide +kernel)
theorem q_X10_drop_3 : (Cond.fieldLink RX10 16 "FaultTwinsModel" "by" "[I") ∈ wsX10_drop := List.mem_of_getElem? (i := 3) (by decide +kernel)
theorem q_X10_drop_4 : (Cond.fieldLink RX10 19 "FaultTwinsModel" "to" "[I") ∈ wsX10_drop := List.mem_of_getElem? (i := 4) (by decide +kernel)
set_option maxHeartbeats 4000000 in
set_option maxRecDepth 100000 in
theorem c_X10_drop (l : Launch) (Γ : ft_G) (hI : cR_I Γ) (a1 : Int32) (σ : ft_St) (Φ : Int32 → ft_St → Prop) (hw : w_X10_drop a1 σ Φ) : cR_Mi l yX10_drop wsX10_drop ({ frames := 4, cells := 0, slots := 0, locals := 91 } : Room) Γ σ [.ref (Γ.2.2 0), .int a1] Φ := by
  refine Met.ofW (cc := cX10_drop) (maxL := 3) (ret := (some .int)) (by decide) rfl ?_
  intro p e s m args below meth c s₁ B hml hv
  obtain ⟨rfl, hP, hK, hN⟩ := hv
  have hx := B.exec
  have hb := B.bytes
  have hr := B.returns
  have hts := atoms_spec (ws := wsX10_drop) B.pre
  have hown : s.vm.findClass RX10 = some m.cls := findClass_of_methodNamed B.named
  have hlocks := B.notSynchronized
  have i10 : ∀ w ∈ wsX100, w ∈ wsX10_drop := fun w h => List.mem_cons_of_mem _ (List.mem_append_right _ h)
  have hP : cR_P Γ s σ s.heap [] := ⟨hP, va_S.rf⟩
  have hl := lv_entry ([.ref (Γ.2.2 0), .int a1]) (n := 3) (Nat.le_of_ble_eq_true rfl)
  rw [lg_entry_eq]
  generalize (lg_sl ([.ref (Γ.2.2 0), .int a1]) ++ List.replicate (3 - (lg_sl ([.ref (Γ.2.2 0), .int a1])).length) Slot.unset).toArray = ls at hl ⊢
  have hl : lv_has ls 3 [(0, .ref (Γ.2.2 0)), (1, .int a1)] := hl
  unfold w_X10_drop at hw
  refine lv_iload_n hx hb dX10_drop_0 rfl (lv_at hl 1 rfl) ?_
  refine lv_iconst (v := 0) hx hb dX10_drop_1 (by decide) ?_
  refine lv_aload_n hx hb dX10_drop_2 rfl (lv_at hl 0 rfl) ?_
  refine gR_10_1 hx hb hts i10 hown hK hP hR_0 (hts _ q_X10_drop_1) dX10_drop_3 ?_
  refine lv_iconst (v := 1) hx hb dX10_drop_6 (by decide) ?_
  refine lv_isub hx hb dX10_drop_7 ?_
  refine cR_Sip (rest := []) ⟨hx, hb, hml, hown, hts⟩ (c_X10_in l Γ hI a1 0 ((σ.1 0 1) - 1) σ _ hw) (va_cwS 3 hts gX10_drop_X10_in rfl rfl rfl (by decide +kernel) ⟨Nat.le_of_ble_eq_true rfl, Nat.le_of_ble_eq_true rfl⟩) hK hN hP rfl hl.1 rfl (Nat.le_of_ble_eq_true rfl) dX10_drop_8 ⟨Nat.le_refl _, Nat.le_refl _⟩ (fun r1 H locs hw hP => ?_)
  refine lv_if_ne (tgt := 19) hx hb dX10_drop_11 (by decide) (fun h => ?_) (fun h => ?_)
  · replace hw := hw.1 h
    refine lv_aload_n hx hb dX10_drop_19 rfl (lv_at hl 0 rfl) ?_
    refine cR_Vv (rest := []) ⟨hx, hb, hml, hown, hts⟩ (c_X10_leavesState l Γ hI  σ _ hw) (cwV 0 hts gX10_drop_X10_leavesState rfl rfl rfl (by decide +kernel) ⟨Nat.le_of_ble_eq_true rfl, Nat.le_of_ble_eq_true rfl⟩) hK hN hP (cR_lt hR_0 (by decide)) (cR_E10 hR_0) rfl rfl rfl hl.1 rfl (Nat.le_of_ble_eq_true rfl) dX10_drop_20 ⟨Nat.le_refl _, Nat.le_refl _⟩ (fun s2 H locs hw hP => ?_)
    refine lv_aload_n hx hb dX10_drop_23 rfl (lv_at hl 0 rfl) ?_
    refine lv_dup hx hb dX10_drop_24 rfl ?_
    refine gR_10_1 hx hb hts i10 hown hK hP hR_0 (hts _ q_X10_drop_1) dX10_drop_25 ?_
    refine lv_iconst (v := 1) hx hb dX10_drop_28 (by decide) ?_
    refine lv_isub hx hb dX10_drop_29 ?_
    refine pR_10_1 hx hb hts i10 hown hK hI hP hR_0 (hts _ q_X10_drop_1) dX10_drop_30 (fun H locs hP => ?_)
    obtain ⟨s3, hs3⟩ : ∃ u, u = ft_sF s2 0 1 ((s2.1 0 1) - 1) := ⟨_, rfl⟩
    rw [← hs3] at hP
    replace hw := hw s3 hs3
    refine lv_iload_n hx hb dX10_drop_33 rfl (lv_at hl 1 rfl) ?_
    refine lv_istore_n (lv' := [(2, .int a1), (0, .ref (Γ.2.2 0)), (1, .int a1)]) hx hb dX10_drop_34 rfl hl (by decide) rfl (fun ls hl => ?_)
    refine hw (fun (x4 : Int32) (s5 : ft_St) => ∀ (H : Heap) (locs : List Loc) (ls : Array Slot), cR_P Γ s s5 H locs → lv_has ls 3 [(0, .ref (Γ.2.2 0)), (2, .int x4)] → cR_Wi p l e ({ frames := 4, cells := 0, slots := 0, locals := 91 } : Room) s m [.ref (Γ.2.2 0), .int a1] below meth c Γ Φ H locs 35 ls []) (fun x4 s5 hw H locs ls hP hl => ?_) _ _ _ hP (lv_sub hl [1, 0] rfl)
    refine lv_iload_n hx hb dX10_drop_35 rfl (lv_at hl 1 rfl) ?_
    refine lv_aload_n hx hb dX10_drop_36 rfl (lv_at hl 0 rfl) ?_
    refine gR_10_1 hx hb hts i10 hown hK hP hR_0 (hts _ q_X10_drop_1) dX10_drop_37 ?_
    refine lv_icmp_ge (tgt := 91) hx hb dX10_drop_40 (by decide) (fun h => ?_) (fun h => ?_)
    · replace hw := hw.1 h
      refine lv_aload_n hx hb dX10_drop_91 rfl (lv_at hl 0 rfl) ?_
      refine cR_Vv (rest := []) ⟨hx, hb, hml, hown, hts⟩ (c_X10_begins l Γ hI  s5 _ hw) (cwV 0 hts gX10_drop_X10_begins rfl rfl rfl (by decide +kernel) ⟨Nat.le_of_ble_eq_true rfl, Nat.le_of_ble_eq_true rfl⟩) hK hN hP (cR_lt hR_0 (by decide)) (cR_E10 hR_0) rfl rfl rfl hl.1 rfl (Nat.le_of_ble_eq_true rfl) dX10_drop_92 ⟨Nat.le_refl _, Nat.le_refl _⟩ (fun s7 H locs hw hP => ?_)
      refine lv_aload_n hx hb dX10_drop_95 rfl (lv_at hl 0 rfl) ?_
      refine gR_10_1 hx hb hts i10 hown hK hP hR_0 (hts _ q_X10_drop_1) dX10_drop_96 ?_
      exact W.iret hx hb hr (cR_ri hP hw) hP.2.2.2 dX10_drop_99
    · replace hw := hw.2 h
      refine lv_aload_n hx hb dX10_drop_43 rfl (lv_at hl 0 rfl) ?_
      refine gR_10_2 hx hb hts i10 hown hK hP hR_0 (hts _ q_X10_drop_2) dX10_drop_44 ?_
      refine lv_iload_n hx hb dX10_drop_47 rfl (lv_at hl 1 rfl) ?_
      refine lv_aload_n hx hb dX10_drop_48 rfl (lv_at hl 0 rfl) ?_
      refine gR_10_2 hx hb hts i10 hown hK hP hR_0 (hts _ q_X10_drop_2) dX10_drop_49 ?_
      refine lv_iload_n hx hb dX10_drop_52 rfl (lv_at hl 1 rfl) ?_
      refine lv_iconst (v := 1) hx hb dX10_drop_53 (by decide) ?_
      refine lv_iadd hx hb dX10_drop_54 ?_
      refine aR_ld hx hb hK hP hR_2 mR_2 hw.1 dX10_drop_55 ?_
      replace hw := hw.2
      refine aR_st hx hb hK hI hP hR_2 mR_2 hw.1 dX10_drop_56 (fun H locs hP => ?_)
      replace hw := hw.2
      obtain ⟨s8, hs8⟩ : ∃ u, u = ft_sA s5 2 (upd (s5.2.1 2) (Int32.toNatClampNeg x4) (s5.2.1 2 (Int32.toNatClampNeg (x4 + 1)))) := ⟨_, rfl⟩
      rw [← hs8] at hP
      replace hw := hw s8 hs8
      refine lv_aload_n hx hb dX10_drop_57 rfl (lv_at hl 0 rfl) ?_
      refine gR_10_3 hx hb hts i10 hown hK hP hR_0 (hts _ q_X10_drop_3) dX10_drop_58 ?_
      refine lv_iload_n hx hb dX10_drop_61 rfl (lv_at hl 1 rfl) ?_
      refine lv_aload_n hx hb dX10_drop_62 rfl (lv_at hl 0 rfl) ?_
      refine gR_10_3 hx hb hts i10 hown hK hP hR_0 (hts _ q_X10_drop_3) dX10_drop_63 ?_
      refine lv_iload_n hx hb dX10_drop_66 rfl (lv_at hl 1 rfl) ?_
      refine lv_iconst (v := 1) hx hb dX10_drop_67 (by decide) ?_
      refine lv_iadd hx hb dX10_drop_68 ?_
      refine aR_ld hx hb hK hP hR_3 mR_3 hw.1 dX10_drop_69 ?_
      replace hw := hw.2
      refine aR_st hx hb hK hI hP hR_3 mR_3 hw.1 dX10_drop_70 (fun H locs hP => ?_)
      replace hw := hw.2
      obtain ⟨s9, hs9⟩ : ∃ u, u = ft_sA s8 3 (upd (s8.2.1 3) (Int32.toNatClampNeg x4) (s8.2.1 3 (Int32.toNatClampNeg (x4 + 1)))) := ⟨_, rfl⟩
      rw [← hs9] at hP
      replace hw := hw s9 hs9
      refine lv_aload_n hx hb dX10_drop_71 rfl (lv_at hl 0 rfl) ?_
      refine gR_10_4 hx hb hts i10 hown hK hP hR_0 (hts _ q_X10_drop_4) dX10_drop_72 ?_
      refine lv_iload_n hx hb dX10_drop_75 rfl (lv_at hl 1 rfl) ?_
      refine lv_aload_n hx hb dX10_drop_76 rfl (lv_at hl 0 rfl) ?_
      refine gR_10_4 hx hb hts i10 hown hK hP hR_0 (hts _ q_X10_drop_4) dX10_drop_77 ?_
      refine lv_iload_n hx hb dX10_drop_80 rfl (lv_at hl 1 rfl) ?_
      refine lv_iconst (v := 1) hx hb dX10_drop_81 (by decide) ?_
      refine lv_iadd hx hb dX10_drop_82 ?_
      refine aR_ld hx hb hK hP hR_4 mR_4 hw.1 dX10_drop_83 ?_
      replace hw := hw.2
      refine aR_st hx hb hK hI hP hR_4 mR_4 hw.1 dX10_drop_84 (fun H locs hP => ?_)
      replace hw := hw.2
      obtain ⟨s10, hs10⟩ : ∃ u, u = ft_sA s9 4 (upd (s9.2.1 4) (Int32.toNatClampNeg x4) (s9.2.1 4 (Int32.toNatClampNeg (x4 + 1)))) := ⟨_, rfl⟩
      rw [← hs10] at hP
      replace hw := hw s10 hs10
      refine lv_iinc (v := x4 + 1) (lv' := [(2, .int (x4 + 1)), (0, .ref (Γ.2.2 0))]) hx hb dX10_drop_85 hl (k := 1) rfl (congrArg (fun z => x4 + z) (by decide)) (by decide) rfl (fun ls hl => ?_)
      refine lv_goto (tgt := 35) hx hb dX10_drop_88 (by decide) ?_
      exact hw _ _ _ hP (lv_sub hl [1, 0] rfl)
  · replace hw := hw.2 h
    refine lv_aload_n hx hb dX10_drop_14 rfl (lv_at hl 0 rfl) ?_
    refine cR_Vi (rest := []) ⟨hx, hb, hml, hown, hts⟩ (c_X10_bad l Γ hI  σ _ hw) (cwV 0 hts gX10_drop_X10_bad rfl rfl rfl (by decide +kernel) ⟨Nat.le_of_ble_eq_true rfl, Nat.le_of_ble_eq_true rfl⟩) hK hN hP (cR_lt hR_0 (by decide)) (cR_E10 hR_0) rfl rfl rfl hl.1 rfl (Nat.le_of_ble_eq_true rfl) dX10_drop_15 ⟨Nat.le_refl _, Nat.le_refl _⟩ (fun r11 s12 H locs hw hP => ?_)
    exact W.iret hx hb hr (cR_ri hP hw) hP.2.2.2 dX10_drop_18
set_option maxHeartbeats 4000000 in
set_option maxRecDepth 100000 in
theorem c_X10_changed (l : Launch) (Γ : ft_G) (hI : cR_I Γ) (a0 : Int32) (a1 : Int32) (a2 : Int32) (σ : ft_St) (Φ : Int32 → Prop) (hw : w_X10_changed a0 a1 a2  Φ) : cR_Mip l yX10_changed wsX10_changed ({ frames := 0, cells := 0, slots := 0, locals := 0 } : Room) Γ σ [.int a0, .int a1, .int a2] Φ := by
  refine Met.ofW (cc := cX10_changed) (maxL := 3) (ret := (some .int)) (by decide) rfl ?_
  intro p e s m args below meth c s₁ B hml hv
  obtain ⟨rfl, hP, hK, hN⟩ := hv
  have hx := B.exec
  have hb := B.bytes
  have hr := B.returns
  have hts := atoms_spec (ws := wsX10_changed) B.pre
  have hown : s.vm.findClass RX10 = some m.cls := findClass_of_methodNamed B.named
  have hlocks := B.notSynchronized
  have hP : cR_P Γ s σ s.heap [] := ⟨hP, va_S.rf⟩
  have hl := lv_entry ([.int a0, .int a1, .int a2]) (n := 3) (Nat.le_of_ble_eq_true rfl)
  rw [lg_entry_eq]
  generalize (lg_sl ([.int a0, .int a1, .int a2]) ++ List.replicate (3 - (lg_sl ([.int a0, .int a1, .int a2])).length) Slot.unset).toArray = ls at hl ⊢
  have hl : lv_has ls 3 [(0, .int a0), (1, .int a1), (2, .int a2)] := hl
  unfold w_X10_changed at hw
  refine lv_iload_n hx hb dX10_changed_0 rfl (lv_at hl 2 rfl) ?_
  refine lv_iconst (v := 1) hx hb dX10_changed_1 (by decide) ?_
  refine lv_icmp_ne (tgt := 13) hx hb dX10_changed_2 (by decide) (fun h => ?_) (fun h => ?_)
  · replace hw := hw.1 h
    refine lv_iload_n hx hb dX10_changed_13 rfl (lv_at hl 0 rfl) ?_
    refine lv_iconst (v := 1) hx hb dX10_changed_14 (by decide) ?_
    refine lv_iload_n hx hb dX10_changed_15 rfl (lv_at hl 1 rfl) ?_
    refine lv_ishl hx hb dX10_changed_16 ?_
    refine lv_iconst (v := (-1)) hx hb dX10_changed_17 (by decide) ?_
    refine lv_ixor hx hb dX10_changed_18 ?_
    refine lv_iand hx hb dX10_changed_19 ?_
    exact W.iret hx hb hr (cR_ri hP ⟨rfl, hw⟩) hP.2.2.2 dX10_changed_20
  · replace hw := hw.2 h
    refine lv_iload_n hx hb dX10_changed_5 rfl (lv_at hl 0 rfl) ?_
    refine lv_iconst (v := 1) hx hb dX10_changed_6 (by decide) ?_
    refine lv_iload_n hx hb dX10_changed_7 rfl (lv_at hl 1 rfl) ?_
    refine lv_ishl hx hb dX10_changed_8 ?_
    refine lv_ior hx hb dX10_changed_9 ?_
    refine lv_goto (tgt := 20) hx hb dX10_changed_10 (by decide) ?_
    exact W.iret hx hb hr (cR_ri hP ⟨rfl, hw⟩) hP.2.2.2 dX10_changed_20
theorem q_X10_deed_1 : (Cond.fieldLink RX10 22 "FaultTwinsModel" "seen" "I") ∈ wsX10_deed := List.mem_of_getElem? (i := 1) (by decide +kernel)
theorem q_X10_deed_2 : (Cond.fieldLink RX10 73 "FaultTwinsModel" "faults" "I") ∈ wsX10_deed := List.mem_of_getElem? (i := 2) (by decide +kernel)
set_option maxHeartbeats 4000000 in
set_option maxRecDepth 100000 in
theorem c_X10_deed (l : Launch) (Γ : ft_G) (hI : cR_I Γ) (a1 : Int32) (a2 : Int32) (a3 : Int32) (σ : ft_St) (Φ : Int32 → ft_St → Prop) (hw : w_X10_deed a1 a2 a3 σ Φ) : cR_Mi l yX10_deed wsX10_deed ({ frames := 4, cells := 0, slots := 0, locals := 91 } : Room) Γ σ [.ref (Γ.2.2 0), .int a1, .int a2, .int a3] Φ := by
  refine Met.ofW (cc := cX10_deed) (maxL := 5) (ret := (some .int)) (by decide) rfl ?_
  intro p e s m args below meth c s₁ B hml hv
  obtain ⟨rfl, hP, hK, hN⟩ := hv
  have hx := B.exec
  have hb := B.bytes
  have hr := B.returns
  have hts := atoms_spec (ws := wsX10_deed) B.pre
  have hown : s.vm.findClass RX10 = some m.cls := findClass_of_methodNamed B.named
  have hlocks := B.notSynchronized
  have i10 : ∀ w ∈ wsX100, w ∈ wsX10_deed := fun w h => List.mem_cons_of_mem _ (List.mem_append_right _ h)
  have hP : cR_P Γ s σ s.heap [] := ⟨hP, va_S.rf⟩
  have hl := lv_entry ([.ref (Γ.2.2 0), .int a1, .int a2, .int a3]) (n := 5) (Nat.le_of_ble_eq_true rfl)
  rw [lg_entry_eq]
  generalize (lg_sl ([.ref (Γ.2.2 0), .int a1, .int a2, .int a3]) ++ List.replicate (5 - (lg_sl ([.ref (Γ.2.2 0), .int a1, .int a2, .int a3])).length) Slot.unset).toArray = ls at hl ⊢
  have hl : lv_has ls 5 [(0, .ref (Γ.2.2 0)), (1, .int a1), (2, .int a2), (3, .int a3)] := hl
  unfold w_X10_deed at hw
  refine lv_iload_n hx hb dX10_deed_0 rfl (lv_at hl 1 rfl) ?_
  refine cR_Sip (rest := []) ⟨hx, hb, hml, hown, hts⟩ (c_X10_isDeed l Γ hI a1 σ _ hw) (va_cwS 1 hts gX10_deed_X10_isDeed rfl rfl rfl (by decide +kernel) ⟨Nat.le_of_ble_eq_true rfl, Nat.le_of_ble_eq_true rfl⟩) hK hN hP rfl hl.1 rfl (Nat.le_of_ble_eq_true rfl) dX10_deed_1 ⟨Nat.le_refl _, Nat.le_refl _⟩ (fun r1 H locs hw hP => ?_)
  refine ft_cut (hw (∀ (H : Heap) (locs : List Loc) (ls : Array Slot), cR_P Γ s σ H locs → lv_has ls 5 [(0, .ref (Γ.2.2 0))] → cR_Wi p l e ({ frames := 4, cells := 0, slots := 0, locals := 91 } : Room) s m [.ref (Γ.2.2 0), .int a1, .int a2, .int a3] below meth c Γ Φ H locs 25 ls []) (fun  hw H locs ls hP hl => ?_)) (fun hw => ?_)
  · refine lv_aload_n hx hb dX10_deed_25 rfl (lv_at hl 0 rfl) ?_
    refine cR_Vi (rest := []) ⟨hx, hb, hml, hown, hts⟩ (c_X10_bad l Γ hI  σ _ hw) (cwV 0 hts gX10_deed_X10_bad rfl rfl rfl (by decide +kernel) ⟨Nat.le_of_ble_eq_true rfl, Nat.le_of_ble_eq_true rfl⟩) hK hN hP (cR_lt hR_0 (by decide)) (cR_E10 hR_0) rfl rfl rfl hl.1 rfl (Nat.le_of_ble_eq_true rfl) dX10_deed_26 ⟨Nat.le_refl _, Nat.le_refl _⟩ (fun r3 s4 H locs hw hP => ?_)
    exact W.iret hx hb hr (cR_ri hP hw) hP.2.2.2 dX10_deed_29
  · refine lv_if_eq (tgt := 25) hx hb dX10_deed_4 (by decide) (fun h => ?_) (fun h => ?_)
    · replace hw := hw.1 h
      exact hw _ _ _ hP (lv_sub hl [0] rfl)
    · replace hw := hw.2 h
      refine lv_iload_n hx hb dX10_deed_7 rfl (lv_at hl 2 rfl) ?_
      refine lv_iconst (v := 0) hx hb dX10_deed_8 (by decide) ?_
      refine lv_iconst (v := 1) hx hb dX10_deed_9 (by decide) ?_
      refine cR_Sip (rest := []) ⟨hx, hb, hml, hown, hts⟩ (c_X10_in l Γ hI a2 0 1 σ _ hw) (va_cwS 3 hts gX10_deed_X10_in rfl rfl rfl (by decide +kernel) ⟨Nat.le_of_ble_eq_true rfl, Nat.le_of_ble_eq_true rfl⟩) hK hN hP rfl hl.1 rfl (Nat.le_of_ble_eq_true rfl) dX10_deed_10 ⟨Nat.le_refl _, Nat.le_refl _⟩ (fun r5 H locs hw hP => ?_)
      refine lv_if_eq (tgt := 25) hx hb dX10_deed_13 (by decide) (fun h => ?_) (fun h => ?_)
      · replace hw := hw.1 h
        exact hw _ _ _ hP (lv_sub hl [0] rfl)
      · replace hw := hw.2 h
        refine lv_iload_n hx hb dX10_deed_16 rfl (lv_at hl 3 rfl) ?_
        refine lv_iconst (v := 0) hx hb dX10_deed_17 (by decide) ?_
        refine lv_iconst (v := 1) hx hb dX10_deed_18 (by decide) ?_
        refine cR_Sip (rest := []) ⟨hx, hb, hml, hown, hts⟩ (c_X10_in l Γ hI a3 0 1 σ _ hw) (va_cwS 3 hts gX10_deed_X10_in rfl rfl rfl (by decide +kernel) ⟨Nat.le_of_ble_eq_true rfl, Nat.le_of_ble_eq_true rfl⟩) hK hN hP rfl hl.1 rfl (Nat.le_of_ble_eq_true rfl) dX10_deed_19 ⟨Nat.le_refl _, Nat.le_refl _⟩ (fun r6 H locs hw hP => ?_)
        refine lv_if_ne (tgt := 30) hx hb dX10_deed_22 (by decide) (fun h => ?_) (fun h => ?_)
        · replace hw := hw.1 h
          refine lv_aload_n hx hb dX10_deed_30 rfl (lv_at hl 0 rfl) ?_
          refine cR_Vv (rest := []) ⟨hx, hb, hml, hown, hts⟩ (c_X10_leavesState l Γ hI  σ _ hw) (cwV 0 hts gX10_deed_X10_leavesState rfl rfl rfl (by decide +kernel) ⟨Nat.le_of_ble_eq_true rfl, Nat.le_of_ble_eq_true rfl⟩) hK hN hP (cR_lt hR_0 (by decide)) (cR_E10 hR_0) rfl rfl rfl hl.1 rfl (Nat.le_of_ble_eq_true rfl) dX10_deed_31 ⟨Nat.le_refl _, Nat.le_refl _⟩ (fun s7 H locs hw hP => ?_)
          refine lv_iload_n hx hb dX10_deed_34 rfl (lv_at hl 2 rfl) ?_
          refine ft_cut (hw (fun (x8 : Int32) => ∀ (H : Heap) (locs : List Loc) (ls : Array Slot), cR_P Γ s s7 H locs → lv_has ls 5 [(0, .ref (Γ.2.2 0)), (1, .int a1), (2, .int a2), (3, .int a3)] → cR_Wi p l e ({ frames := 4, cells := 0, slots := 0, locals := 91 } : Room) s m [.ref (Γ.2.2 0), .int a1, .int a2, .int a3] below meth c Γ Φ H locs 49 ls [.int x8]) (fun x8 hw H locs ls hP hl => ?_)) (fun hw => ?_)
          · refine lv_iload_n hx hb dX10_deed_49 rfl (lv_at hl 1 rfl) ?_
            refine lv_ishr hx hb dX10_deed_50 ?_
            refine lv_iconst (v := 1) hx hb dX10_deed_51 (by decide) ?_
            refine lv_iand hx hb dX10_deed_52 ?_
            refine lv_istore (lv' := [(4, .int ((x8 >>> (a1 &&& 31)) &&& 1)), (0, .ref (Γ.2.2 0)), (1, .int a1), (2, .int a2), (3, .int a3)]) hx hb dX10_deed_53 hl (by decide) rfl (fun ls hl => ?_)
            refine lv_aload_n hx hb dX10_deed_55 rfl (lv_at hl 1 rfl) ?_
            refine lv_iload_n hx hb dX10_deed_56 rfl (lv_at hl 3 rfl) ?_
            refine ft_cut (hw (fun (x10 : Int32) => ∀ (H : Heap) (locs : List Loc) (ls : Array Slot), cR_P Γ s s7 H locs → lv_has ls 5 [(0, .ref (Γ.2.2 0)), (1, .int a1), (2, .int a2), (3, .int a3), (4, .int ((x8 >>> (a1 &&& 31)) &&& 1))] → cR_Wi p l e ({ frames := 4, cells := 0, slots := 0, locals := 91 } : Room) s m [.ref (Γ.2.2 0), .int a1, .int a2, .int a3] below meth c Γ Φ H locs 76 ls [.int x10, .ref (Γ.2.2 0)]) (fun x10 hw H locs ls hP hl => ?_)) (fun hw => ?_)
            · refine pR_10_5 hx hb hts i10 hown hK hI hP hR_0 (hts _ q_X10_deed_1) dX10_deed_76 (fun H locs hP => ?_)
              obtain ⟨s12, hs12⟩ : ∃ u, u = ft_sF s7 0 5 x10 := ⟨_, rfl⟩
              rw [← hs12] at hP
              replace hw := hw s12 hs12
              refine lv_aload_n hx hb dX10_deed_79 rfl (lv_at hl 0 rfl) ?_
              refine lv_iload_n hx hb dX10_deed_80 rfl (lv_at hl 2 rfl) ?_
              refine lv_iconst (v := 1) hx hb dX10_deed_81 (by decide) ?_
              refine ft_cut (hw (fun (x13 : Int32) => ∀ (H : Heap) (locs : List Loc) (ls : Array Slot), cR_P Γ s s12 H locs → lv_has ls 5 [(0, .ref (Γ.2.2 0)), (4, .int ((x8 >>> (a1 &&& 31)) &&& 1))] → cR_Wi p l e ({ frames := 4, cells := 0, slots := 0, locals := 91 } : Room) s m [.ref (Γ.2.2 0), .int a1, .int a2, .int a3] below meth c Γ Φ H locs 101 ls [.int x13, .ref (Γ.2.2 0)]) (fun x13 hw H locs ls hP hl => ?_)) (fun hw => ?_)
              · refine pR_10_6 hx hb hts i10 hown hK hI hP hR_0 (hts _ q_X10_deed_2) dX10_deed_101 (fun H locs hP => ?_)
                obtain ⟨s15, hs15⟩ : ∃ u, u = ft_sF s12 0 6 x13 := ⟨_, rfl⟩
                rw [← hs15] at hP
                replace hw := hw s15 hs15
                refine lv_aload_n hx hb dX10_deed_104 rfl (lv_at hl 0 rfl) ?_
                refine cR_Vv (rest := []) ⟨hx, hb, hml, hown, hts⟩ (c_X10_begins l Γ hI  s15 _ hw) (cwV 0 hts gX10_deed_X10_begins rfl rfl rfl (by decide +kernel) ⟨Nat.le_of_ble_eq_true rfl, Nat.le_of_ble_eq_true rfl⟩) hK hN hP (cR_lt hR_0 (by decide)) (cR_E10 hR_0) rfl rfl rfl hl.1 rfl (Nat.le_of_ble_eq_true rfl) dX10_deed_105 ⟨Nat.le_refl _, Nat.le_refl _⟩ (fun s16 H locs hw hP => ?_)
                refine lv_iload hx hb dX10_deed_108 (lv_at hl 1 rfl) ?_
                exact W.iret hx hb hr (cR_ri hP hw) hP.2.2.2 dX10_deed_110
              · refine lv_icmp_ne (tgt := 97) hx hb dX10_deed_82 (by decide) (fun h => ?_) (fun h => ?_)
                · replace hw := hw.1 h
                  refine lv_aload_n hx hb dX10_deed_97 rfl (lv_at hl 0 rfl) ?_
                  refine gR_10_6 hx hb hts i10 hown hK hP hR_0 (hts _ q_X10_deed_2) dX10_deed_98 ?_
                  exact hw _ _ _ hP (lv_sub hl [0, 4] rfl)
                · replace hw := hw.2 h
                  refine lv_aload_n hx hb dX10_deed_85 rfl (lv_at hl 0 rfl) ?_
                  refine gR_10_6 hx hb hts i10 hown hK hP hR_0 (hts _ q_X10_deed_2) dX10_deed_86 ?_
                  refine lv_iload_n hx hb dX10_deed_89 rfl (lv_at hl 1 rfl) ?_
                  refine lv_iload_n hx hb dX10_deed_90 rfl (lv_at hl 3 rfl) ?_
                  refine cR_Sip (rest := [.ref (Γ.2.2 0)]) ⟨hx, hb, hml, hown, hts⟩ (c_X10_changed l Γ hI (s12.1 0 6) a1 a3 s12 _ hw) (va_cwS 3 hts gX10_deed_X10_changed rfl rfl rfl (by decide +kernel) ⟨Nat.le_of_ble_eq_true rfl, Nat.le_of_ble_eq_true rfl⟩) hK hN hP rfl hl.1 rfl (Nat.le_of_ble_eq_true rfl) dX10_deed_91 ⟨Nat.le_refl _, Nat.le_refl _⟩ (fun r17 H locs hw hP => ?_)
                  refine lv_goto (tgt := 101) hx hb dX10_deed_94 (by decide) ?_
                  exact hw _ _ _ hP (lv_sub hl [0, 4] rfl)
            · refine lv_if_ne (tgt := 72) hx hb dX10_deed_57 (by decide) (fun h => ?_) (fun h => ?_)
              · replace hw := hw.1 h
                refine lv_aload_n hx hb dX10_deed_72 rfl (lv_at hl 1 rfl) ?_
                refine gR_10_5 hx hb hts i10 hown hK hP hR_0 (hts _ q_X10_deed_1) dX10_deed_73 ?_
                exact hw _ _ _ hP (lv_sub hl [1, 2, 3, 4, 0] rfl)
              · replace hw := hw.2 h
                refine lv_aload_n hx hb dX10_deed_60 rfl (lv_at hl 1 rfl) ?_
                refine gR_10_5 hx hb hts i10 hown hK hP hR_0 (hts _ q_X10_deed_1) dX10_deed_61 ?_
                refine lv_iload_n hx hb dX10_deed_64 rfl (lv_at hl 2 rfl) ?_
                refine lv_iload_n hx hb dX10_deed_65 rfl (lv_at hl 4 rfl) ?_
                refine cR_Sip (rest := [.ref (Γ.2.2 0)]) ⟨hx, hb, hml, hown, hts⟩ (c_X10_changed l Γ hI (s7.1 0 5) a1 a3 s7 _ hw) (va_cwS 3 hts gX10_deed_X10_changed rfl rfl rfl (by decide +kernel) ⟨Nat.le_of_ble_eq_true rfl, Nat.le_of_ble_eq_true rfl⟩) hK hN hP rfl hl.1 rfl (Nat.le_of_ble_eq_true rfl) dX10_deed_66 ⟨Nat.le_refl _, Nat.le_refl _⟩ (fun r18 H locs hw hP => ?_)
                refine lv_goto (tgt := 76) hx hb dX10_deed_69 (by decide) ?_
                exact hw _ _ _ hP (lv_sub hl [1, 2, 3, 4, 0] rfl)
          · refine lv_if_ne (tgt := 45) hx hb dX10_deed_35 (by decide) (fun h => ?_) (fun h => ?_)
            · replace hw := hw.1 h
              refine lv_aload_n hx hb dX10_deed_45 rfl (lv_at hl 0 rfl) ?_
              refine gR_10_6 hx hb hts i10 hown hK hP hR_0 (hts _ q_X10_deed_2) dX10_deed_46 ?_
              exact hw _ _ _ hP (lv_sub hl [0, 1, 2, 3] rfl)
            · replace hw := hw.2 h
              refine lv_aload_n hx hb dX10_deed_38 rfl (lv_at hl 0 rfl) ?_
              refine gR_10_5 hx hb hts i10 hown hK hP hR_0 (hts _ q_X10_deed_1) dX10_deed_39 ?_
              refine lv_goto (tgt := 49) hx hb dX10_deed_42 (by decide) ?_
              exact hw _ _ _ hP (lv_sub hl [0, 1, 2, 3] rfl)
        · replace hw := hw.2 h
          exact hw _ _ _ hP (lv_sub hl [0] rfl)
theorem q_X10_draw_1 : (Cond.constant RX10 117 (999999)) ∈ wsX10_draw := List.mem_of_getElem? (i := 1) (by decide +kernel)
theorem q_X10_draw_2 : (Cond.fieldLink RX10 70 "FaultTwinsModel" "many" "I") ∈ wsX10_draw := List.mem_of_getElem? (i := 2) (by decide +kernel)
theorem q_X10_draw_3 : (Cond.constantLong RX10 118 (1103515245)) ∈ wsX10_draw := List.mem_of_getElem? (i := 3) (by decide +kernel)
theorem q_X10_draw_4 : (Cond.constantLong RX10 120 (12345)) ∈ wsX10_draw := List.mem_of_getElem? (i := 4) (by decide +kernel)
theorem q_X10_draw_5 : (Cond.constantLong RX10 122 (2147483648)) ∈ wsX10_draw := List.mem_of_getElem? (i := 5) (by decide +kernel)
theorem q_X10_draw_6 : (Cond.constantLong RX10 124 (65536)) ∈ wsX10_draw := List.mem_of_getElem? (i := 6) (by decide +kernel)
theorem q_X10_draw_7 : (Cond.constantLong RX10 126 (6)) ∈ wsX10_draw := List.mem_of_getElem? (i := 7) (by decide +kernel)
theorem q_X10_draw_8 : (Cond.constantLong RX10 128 (1024)) ∈ wsX10_draw := List.mem_of_getElem? (i := 8) (by decide +kernel)
theorem q_X10_draw_9 : (Cond.constantLong RX10 130 (8)) ∈ wsX10_draw := List.mem_of_getElem? (i := 9) (by decide +kernel)
theorem q_X10_draw_10 : (Cond.constantLong RX10 132 (32768)) ∈ wsX10_draw := List.mem_of_getElem? (i := 10) (by decide +kernel)
set_option maxHeartbeats 4000000 in
set_option maxRecDepth 100000 in
theorem c_X10_draw (l : Launch) (Γ : ft_G) (hI : cR_I Γ) (a1 : Int32) (a2 : Int32) (σ : ft_St) (Φ : Int32 → ft_St → Prop) (hw : w_X10_draw a1 a2 σ Φ) : cR_Mi l yX10_draw wsX10_draw ({ frames := 4, cells := 0, slots := 0, locals := 91 } : Room) Γ σ [.ref (Γ.2.2 0), .int a1, .int a2] Φ := by
  refine Met.ofW (cc := cX10_draw) (maxL := 9) (ret := (some .int)) (by decide) rfl ?_
  intro p e s m args below meth c s₁ B hml hv
  obtain ⟨rfl, hP, hK, hN⟩ := hv
  have hx := B.exec
  have hb := B.bytes
  have hr := B.returns
  have hts := atoms_spec (ws := wsX10_draw) B.pre
  have hown : s.vm.findClass RX10 = some m.cls := findClass_of_methodNamed B.named
  have hlocks := B.notSynchronized
  have i10 : ∀ w ∈ wsX100, w ∈ wsX10_draw := fun w h => List.mem_cons_of_mem _ (List.mem_append_right _ h)
  have hP : cR_P Γ s σ s.heap [] := ⟨hP, va_S.rf⟩
  have hl := lv_entry ([.ref (Γ.2.2 0), .int a1, .int a2]) (n := 9) (Nat.le_of_ble_eq_true rfl)
  rw [lg_entry_eq]
  generalize (lg_sl ([.ref (Γ.2.2 0), .int a1, .int a2]) ++ List.replicate (9 - (lg_sl ([.ref (Γ.2.2 0), .int a1, .int a2])).length) Slot.unset).toArray = ls at hl ⊢
  have hl : lv_has ls 9 [(0, .ref (Γ.2.2 0)), (1, .int a1), (2, .int a2)] := hl
  unfold w_X10_draw at hw
  refine lv_iload_n hx hb dX10_draw_0 rfl (lv_at hl 1 rfl) ?_
  refine lv_iconst (v := 0) hx hb dX10_draw_1 (by decide) ?_
  refine lv_ldc hx hb hown (hts _ q_X10_draw_1) dX10_draw_2 ?_
  refine cR_Sip (rest := []) ⟨hx, hb, hml, hown, hts⟩ (c_X10_in l Γ hI a1 0 999999 σ _ hw) (va_cwS 3 hts gX10_draw_X10_in rfl rfl rfl (by decide +kernel) ⟨Nat.le_of_ble_eq_true rfl, Nat.le_of_ble_eq_true rfl⟩) hK hN hP rfl hl.1 rfl (Nat.le_of_ble_eq_true rfl) dX10_draw_4 ⟨Nat.le_refl _, Nat.le_refl _⟩ (fun r1 H locs hw hP => ?_)
  refine ft_cut (hw (∀ (H : Heap) (locs : List Loc) (ls : Array Slot), cR_P Γ s σ H locs → lv_has ls 9 [(0, .ref (Γ.2.2 0))] → cR_Wi p l e ({ frames := 4, cells := 0, slots := 0, locals := 91 } : Room) s m [.ref (Γ.2.2 0), .int a1, .int a2] below meth c Γ Φ H locs 20 ls []) (fun  hw H locs ls hP hl => ?_)) (fun hw => ?_)
  · refine lv_aload_n hx hb dX10_draw_20 rfl (lv_at hl 0 rfl) ?_
    refine cR_Vi (rest := []) ⟨hx, hb, hml, hown, hts⟩ (c_X10_bad l Γ hI  σ _ hw) (cwV 0 hts gX10_draw_X10_bad rfl rfl rfl (by decide +kernel) ⟨Nat.le_of_ble_eq_true rfl, Nat.le_of_ble_eq_true rfl⟩) hK hN hP (cR_lt hR_0 (by decide)) (cR_E10 hR_0) rfl rfl rfl hl.1 rfl (Nat.le_of_ble_eq_true rfl) dX10_draw_21 ⟨Nat.le_refl _, Nat.le_refl _⟩ (fun r3 s4 H locs hw hP => ?_)
    exact W.iret hx hb hr (cR_ri hP hw) hP.2.2.2 dX10_draw_24
  · refine lv_if_eq (tgt := 20) hx hb dX10_draw_7 (by decide) (fun h => ?_) (fun h => ?_)
    · replace hw := hw.1 h
      exact hw _ _ _ hP (lv_sub hl [0] rfl)
    · replace hw := hw.2 h
      refine lv_iload_n hx hb dX10_draw_10 rfl (lv_at hl 2 rfl) ?_
      refine lv_iconst (v := 1) hx hb dX10_draw_11 (by decide) ?_
      refine lv_bipush (v := 24) hx hb dX10_draw_12 (by decide) ?_
      refine cR_Sip (rest := []) ⟨hx, hb, hml, hown, hts⟩ (c_X10_in l Γ hI a2 1 24 σ _ hw) (va_cwS 3 hts gX10_draw_X10_in rfl rfl rfl (by decide +kernel) ⟨Nat.le_of_ble_eq_true rfl, Nat.le_of_ble_eq_true rfl⟩) hK hN hP rfl hl.1 rfl (Nat.le_of_ble_eq_true rfl) dX10_draw_14 ⟨Nat.le_refl _, Nat.le_refl _⟩ (fun r5 H locs hw hP => ?_)
      refine lv_if_ne (tgt := 25) hx hb dX10_draw_17 (by decide) (fun h => ?_) (fun h => ?_)
      · replace hw := hw.1 h
        refine lv_aload_n hx hb dX10_draw_25 rfl (lv_at hl 0 rfl) ?_
        refine cR_Vv (rest := []) ⟨hx, hb, hml, hown, hts⟩ (c_X10_leavesState l Γ hI  σ _ hw) (cwV 0 hts gX10_draw_X10_leavesState rfl rfl rfl (by decide +kernel) ⟨Nat.le_of_ble_eq_true rfl, Nat.le_of_ble_eq_true rfl⟩) hK hN hP (cR_lt hR_0 (by decide)) (cR_E10 hR_0) rfl rfl rfl hl.1 rfl (Nat.le_of_ble_eq_true rfl) dX10_draw_26 ⟨Nat.le_refl _, Nat.le_refl _⟩ (fun s6 H locs hw hP => ?_)
        refine lv_aload_n hx hb dX10_draw_29 rfl (lv_at hl 0 rfl) ?_
        refine lv_iconst (v := 0) hx hb dX10_draw_30 (by decide) ?_
        refine pR_10_1 hx hb hts i10 hown hK hI hP hR_0 (hts _ q_X10_draw_2) dX10_draw_31 (fun H locs hP => ?_)
        obtain ⟨s7, hs7⟩ : ∃ u, u = ft_sF s6 0 1 0 := ⟨_, rfl⟩
        rw [← hs7] at hP
        replace hw := hw s7 hs7
        refine lv_iload_n hx hb dX10_draw_34 rfl (lv_at hl 1 rfl) ?_
        refine lv_i2l hx hb dX10_draw_35 rfl ?_
        refine lv_lstore_n (lv' := [(3, .long (Int32.toInt64 a1)), (0, .ref (Γ.2.2 0)), (1, .int a1), (2, .int a2)]) hx hb dX10_draw_36 rfl hl (by decide) rfl (fun ls hl => ?_)
        refine lv_iconst (v := 0) hx hb dX10_draw_37 (by decide) ?_
        refine lv_istore (lv' := [(5, .int 0), (3, .long (Int32.toInt64 a1)), (0, .ref (Γ.2.2 0)), (1, .int a1), (2, .int a2)]) hx hb dX10_draw_38 hl (by decide) rfl (fun ls hl => ?_)
        refine hw (fun (y8 : Int64) (x9 : Int32) (s10 : ft_St) => ∀ (H : Heap) (locs : List Loc) (ls : Array Slot), cR_P Γ s s10 H locs → lv_has ls 9 [(0, .ref (Γ.2.2 0)), (2, .int a2), (3, .long y8), (5, .int x9)] → cR_Wi p l e ({ frames := 4, cells := 0, slots := 0, locals := 91 } : Room) s m [.ref (Γ.2.2 0), .int a1, .int a2] below meth c Γ Φ H locs 40 ls []) (fun y8 x9 s10 hw H locs ls hP hl => ?_) _ _ _ hP (lv_sub hl [2, 4, 1, 0] rfl)
        refine lv_iload hx hb dX10_draw_40 (lv_at hl 3 rfl) ?_
        refine lv_iload_n hx hb dX10_draw_42 rfl (lv_at hl 1 rfl) ?_
        refine lv_icmp_ge (tgt := 125) hx hb dX10_draw_43 (by decide) (fun h => ?_) (fun h => ?_)
        · replace hw := hw.1 h
          refine lv_aload_n hx hb dX10_draw_125 rfl (lv_at hl 0 rfl) ?_
          refine cR_Vv (rest := []) ⟨hx, hb, hml, hown, hts⟩ (c_X10_begins l Γ hI  s10 _ hw) (cwV 0 hts gX10_draw_X10_begins rfl rfl rfl (by decide +kernel) ⟨Nat.le_of_ble_eq_true rfl, Nat.le_of_ble_eq_true rfl⟩) hK hN hP (cR_lt hR_0 (by decide)) (cR_E10 hR_0) rfl rfl rfl hl.1 rfl (Nat.le_of_ble_eq_true rfl) dX10_draw_126 ⟨Nat.le_refl _, Nat.le_refl _⟩ (fun s12 H locs hw hP => ?_)
          refine lv_aload_n hx hb dX10_draw_129 rfl (lv_at hl 0 rfl) ?_
          refine gR_10_1 hx hb hts i10 hown hK hP hR_0 (hts _ q_X10_draw_2) dX10_draw_130 ?_
          exact W.iret hx hb hr (cR_ri hP hw) hP.2.2.2 dX10_draw_133
        · replace hw := hw.2 h
          refine lv_lload_n hx hb dX10_draw_46 rfl (lv_at hl 2 rfl) ?_
          refine lv_ldc2 hx hb hown (hts _ q_X10_draw_3) dX10_draw_47 ?_
          refine lv_lmul hx hb dX10_draw_50 ?_
          refine lv_ldc2 hx hb hown (hts _ q_X10_draw_4) dX10_draw_51 ?_
          refine lv_ladd hx hb dX10_draw_54 ?_
          refine lv_ldc2 hx hb hown (hts _ q_X10_draw_5) dX10_draw_55 ?_
          refine lv_lrem hx hb dX10_draw_58 (by decide) ?_
          refine lv_topl (fun y13 ey13 => ?_)
          replace hw := hw y13 ey13
          refine lv_lstore_n (lv' := [(3, .long y13), (0, .ref (Γ.2.2 0)), (2, .int a2), (5, .int x9)]) hx hb dX10_draw_59 rfl hl (by decide) rfl (fun ls hl => ?_)
          refine lv_lload_n hx hb dX10_draw_60 rfl (lv_at hl 0 rfl) ?_
          refine lv_ldc2 hx hb hown (hts _ q_X10_draw_6) dX10_draw_61 ?_
          refine lv_ldiv hx hb dX10_draw_64 (by decide) ?_
          refine lv_ldc2 hx hb hown (hts _ q_X10_draw_7) dX10_draw_65 ?_
          refine lv_lrem hx hb dX10_draw_68 (by decide) ?_
          refine lv_l2i hx hb dX10_draw_69 rfl ?_
          refine lv_topi (fun x14 ex14 => ?_)
          replace hw := hw x14 ex14
          refine lv_istore (lv' := [(6, .int x14), (3, .long y13), (0, .ref (Γ.2.2 0)), (2, .int a2), (5, .int x9)]) hx hb dX10_draw_70 hl (by decide) rfl (fun ls hl => ?_)
          refine lv_lload_n hx hb dX10_draw_72 rfl (lv_at hl 1 rfl) ?_
          refine lv_ldc2 hx hb hown (hts _ q_X10_draw_8) dX10_draw_73 ?_
          refine lv_ldiv hx hb dX10_draw_76 (by decide) ?_
          refine lv_ldc2 hx hb hown (hts _ q_X10_draw_9) dX10_draw_77 ?_
          refine lv_lrem hx hb dX10_draw_80 (by decide) ?_
          refine lv_l2i hx hb dX10_draw_81 rfl ?_
          refine lv_topi (fun x15 ex15 => ?_)
          replace hw := hw x15 ex15
          refine lv_istore (lv' := [(7, .int x15), (6, .int x14), (3, .long y13), (0, .ref (Γ.2.2 0)), (2, .int a2), (5, .int x9)]) hx hb dX10_draw_82 hl (by decide) rfl (fun ls hl => ?_)
          refine lv_lload_n hx hb dX10_draw_84 rfl (lv_at hl 2 rfl) ?_
          refine lv_ldc2 hx hb hown (hts _ q_X10_draw_10) dX10_draw_85 ?_
          refine lv_ldiv hx hb dX10_draw_88 (by decide) ?_
          refine lv_ldc2 hx hb hown (hts _ q_X10_draw_7) dX10_draw_89 ?_
          refine lv_lrem hx hb dX10_draw_92 (by decide) ?_
          refine lv_l2i hx hb dX10_draw_93 rfl ?_
          refine lv_topi (fun x16 ex16 => ?_)
          replace hw := hw x16 ex16
          refine lv_istore (lv' := [(8, .int x16), (7, .int x15), (6, .int x14), (3, .long y13), (0, .ref (Γ.2.2 0)), (2, .int a2), (5, .int x9)]) hx hb dX10_draw_94 hl (by decide) rfl (fun ls hl => ?_)
          refine lv_aload_n hx hb dX10_draw_96 rfl (lv_at hl 4 rfl) ?_
          refine lv_iload hx hb dX10_draw_97 (lv_at hl 2 rfl) ?_
          refine lv_iload hx hb dX10_draw_99 (lv_at hl 1 rfl) ?_
          refine lv_iload hx hb dX10_draw_101 (lv_at hl 0 rfl) ?_
          refine cR_Vip (rest := []) ⟨hx, hb, hml, hown, hts⟩ (c_X10_isThere l Γ hI x14 x15 x16 s10 _ hw) (cwV 3 hts gX10_draw_X10_isThere rfl rfl rfl (by decide +kernel) ⟨Nat.le_of_ble_eq_true rfl, Nat.le_of_ble_eq_true rfl⟩) hK hN hP (cR_lt hR_0 (by decide)) (cR_E10 hR_0) rfl rfl rfl hl.1 rfl (Nat.le_of_ble_eq_true rfl) dX10_draw_103 ⟨Nat.le_refl _, Nat.le_refl _⟩ (fun r17 H locs hw hP => ?_)
          refine lv_if_ne (tgt := 119) hx hb dX10_draw_106 (by decide) (fun h => ?_) (fun h => ?_)
          · replace hw := hw.1 h
            refine lv_iinc (v := x9 + 1) (lv' := [(5, .int (x9 + 1)), (8, .int x16), (7, .int x15), (6, .int x14), (3, .long y13), (0, .ref (Γ.2.2 0)), (2, .int a2)]) hx hb dX10_draw_119 hl (k := 6) rfl (congrArg (fun z => x9 + z) (by decide)) (by decide) rfl (fun ls hl => ?_)
            refine lv_goto (tgt := 40) hx hb dX10_draw_122 (by decide) ?_
            exact hw _ _ _ hP (lv_sub hl [5, 6, 4, 0] rfl)
          · replace hw := hw.2 h
            refine lv_aload_n hx hb dX10_draw_109 rfl (lv_at hl 4 rfl) ?_
            refine lv_iload hx hb dX10_draw_110 (lv_at hl 2 rfl) ?_
            refine lv_iload hx hb dX10_draw_112 (lv_at hl 1 rfl) ?_
            refine lv_iload hx hb dX10_draw_114 (lv_at hl 0 rfl) ?_
            refine cR_Vv (rest := []) ⟨hx, hb, hml, hown, hts⟩ (c_X10_comesWay l Γ hI x14 x15 x16 s10 _ hw) (cwV 3 hts gX10_draw_X10_comesWay rfl rfl rfl (by decide +kernel) ⟨Nat.le_of_ble_eq_true rfl, Nat.le_of_ble_eq_true rfl⟩) hK hN hP (cR_lt hR_0 (by decide)) (cR_E10 hR_0) rfl rfl rfl hl.1 rfl (Nat.le_of_ble_eq_true rfl) dX10_draw_116 ⟨Nat.le_refl _, Nat.le_refl _⟩ (fun s18 H locs hw hP => ?_)
            refine lv_iinc (v := x9 + 1) (lv' := [(5, .int (x9 + 1)), (8, .int x16), (7, .int x15), (6, .int x14), (3, .long y13), (0, .ref (Γ.2.2 0)), (2, .int a2)]) hx hb dX10_draw_119 hl (k := 6) rfl (congrArg (fun z => x9 + z) (by decide)) (by decide) rfl (fun ls hl => ?_)
            refine lv_goto (tgt := 40) hx hb dX10_draw_122 (by decide) ?_
            exact hw _ _ _ hP (lv_sub hl [5, 6, 4, 0] rfl)
      · replace hw := hw.2 h
        exact hw _ _ _ hP (lv_sub hl [0] rfl)
theorem q_X10_anew_1 : (Cond.fieldLink RX10 70 "FaultTwinsModel" "many" "I") ∈ wsX10_anew := List.mem_of_getElem? (i := 1) (by decide +kernel)
theorem q_X10_anew_2 : (Cond.fieldLink RX10 22 "FaultTwinsModel" "seen" "I") ∈ wsX10_anew := List.mem_of_getElem? (i := 2) (by decide +kernel)
theorem q_X10_anew_3 : (Cond.fieldLink RX10 73 "FaultTwinsModel" "faults" "I") ∈ wsX10_anew := List.mem_of_getElem? (i := 3) (by decide +kernel)
set_option maxHeartbeats 4000000 in
set_option maxRecDepth 100000 in
theorem c_X10_anew (l : Launch) (Γ : ft_G) (hI : cR_I Γ)  (σ : ft_St) (Φ : Int32 → ft_St → Prop) (hw : w_X10_anew  σ Φ) : cR_Mi l yX10_anew wsX10_anew ({ frames := 4, cells := 0, slots := 0, locals := 91 } : Room) Γ σ [.ref (Γ.2.2 0)] Φ := by
  refine Met.ofW (cc := cX10_anew) (maxL := 2) (ret := (some .int)) (by decide) rfl ?_
  intro p e s m args below meth c s₁ B hml hv
  obtain ⟨rfl, hP, hK, hN⟩ := hv
  have hx := B.exec
  have hb := B.bytes
  have hr := B.returns
  have hts := atoms_spec (ws := wsX10_anew) B.pre
  have hown : s.vm.findClass RX10 = some m.cls := findClass_of_methodNamed B.named
  have hlocks := B.notSynchronized
  have i10 : ∀ w ∈ wsX100, w ∈ wsX10_anew := fun w h => List.mem_cons_of_mem _ (List.mem_append_right _ h)
  have hP : cR_P Γ s σ s.heap [] := ⟨hP, va_S.rf⟩
  have hl := lv_entry ([.ref (Γ.2.2 0)]) (n := 2) (Nat.le_of_ble_eq_true rfl)
  rw [lg_entry_eq]
  generalize (lg_sl ([.ref (Γ.2.2 0)]) ++ List.replicate (2 - (lg_sl ([.ref (Γ.2.2 0)])).length) Slot.unset).toArray = ls at hl ⊢
  have hl : lv_has ls 2 [(0, .ref (Γ.2.2 0))] := hl
  unfold w_X10_anew at hw
  refine lv_aload_n hx hb dX10_anew_0 rfl (lv_at hl 0 rfl) ?_
  refine cR_Vv (rest := []) ⟨hx, hb, hml, hown, hts⟩ (c_X10_leavesState l Γ hI  σ _ hw) (cwV 0 hts gX10_anew_X10_leavesState rfl rfl rfl (by decide +kernel) ⟨Nat.le_of_ble_eq_true rfl, Nat.le_of_ble_eq_true rfl⟩) hK hN hP (cR_lt hR_0 (by decide)) (cR_E10 hR_0) rfl rfl rfl hl.1 rfl (Nat.le_of_ble_eq_true rfl) dX10_anew_1 ⟨Nat.le_refl _, Nat.le_refl _⟩ (fun s1 H locs hw hP => ?_)
  refine lv_aload_n hx hb dX10_anew_4 rfl (lv_at hl 0 rfl) ?_
  refine gR_10_1 hx hb hts i10 hown hK hP hR_0 (hts _ q_X10_anew_1) dX10_anew_5 ?_
  refine lv_istore_n (lv' := [(1, .int (s1.1 0 1)), (0, .ref (Γ.2.2 0))]) hx hb dX10_anew_8 rfl hl (by decide) rfl (fun ls hl => ?_)
  refine lv_aload_n hx hb dX10_anew_9 rfl (lv_at hl 1 rfl) ?_
  refine lv_iconst (v := 0) hx hb dX10_anew_10 (by decide) ?_
  refine pR_10_1 hx hb hts i10 hown hK hI hP hR_0 (hts _ q_X10_anew_1) dX10_anew_11 (fun H locs hP => ?_)
  obtain ⟨s2, hs2⟩ : ∃ u, u = ft_sF s1 0 1 0 := ⟨_, rfl⟩
  rw [← hs2] at hP
  replace hw := hw s2 hs2
  refine lv_aload_n hx hb dX10_anew_14 rfl (lv_at hl 1 rfl) ?_
  refine lv_sipush (v := 255) hx hb dX10_anew_15 (by decide) ?_
  refine pR_10_5 hx hb hts i10 hown hK hI hP hR_0 (hts _ q_X10_anew_2) dX10_anew_18 (fun H locs hP => ?_)
  obtain ⟨s3, hs3⟩ : ∃ u, u = ft_sF s2 0 5 255 := ⟨_, rfl⟩
  rw [← hs3] at hP
  replace hw := hw s3 hs3
  refine lv_aload_n hx hb dX10_anew_21 rfl (lv_at hl 1 rfl) ?_
  refine lv_iconst (v := 0) hx hb dX10_anew_22 (by decide) ?_
  refine pR_10_6 hx hb hts i10 hown hK hI hP hR_0 (hts _ q_X10_anew_3) dX10_anew_23 (fun H locs hP => ?_)
  obtain ⟨s4, hs4⟩ : ∃ u, u = ft_sF s3 0 6 0 := ⟨_, rfl⟩
  rw [← hs4] at hP
  replace hw := hw s4 hs4
  refine lv_aload_n hx hb dX10_anew_26 rfl (lv_at hl 1 rfl) ?_
  refine cR_Vv (rest := []) ⟨hx, hb, hml, hown, hts⟩ (c_X10_begins l Γ hI  s4 _ hw) (cwV 0 hts gX10_anew_X10_begins rfl rfl rfl (by decide +kernel) ⟨Nat.le_of_ble_eq_true rfl, Nat.le_of_ble_eq_true rfl⟩) hK hN hP (cR_lt hR_0 (by decide)) (cR_E10 hR_0) rfl rfl rfl hl.1 rfl (Nat.le_of_ble_eq_true rfl) dX10_anew_27 ⟨Nat.le_refl _, Nat.le_refl _⟩ (fun s5 H locs hw hP => ?_)
  refine lv_iload_n hx hb dX10_anew_30 rfl (lv_at hl 0 rfl) ?_
  exact W.iret hx hb hr (cR_ri hP hw) hP.2.2.2 dX10_anew_31
set_option maxHeartbeats 4000000 in
set_option maxRecDepth 100000 in
theorem c_X10_sawBy (l : Launch) (Γ : ft_G) (hI : cR_I Γ) (a1 : Int32) (a2 : Int32) (σ : ft_St) (Φ : Int32 → Prop) (hw : w_X10_sawBy a1 a2 σ Φ) : cR_Mip l yX10_sawBy wsX10_sawBy ({ frames := 3, cells := 0, slots := 0, locals := 71 } : Room) Γ σ [.ref (Γ.2.2 0), .int a1, .int a2] Φ := by
  refine Met.ofW (cc := cX10_sawBy) (maxL := 3) (ret := (some .int)) (by decide) rfl ?_
  intro p e s m args below meth c s₁ B hml hv
  obtain ⟨rfl, hP, hK, hN⟩ := hv
  have hx := B.exec
  have hb := B.bytes
  have hr := B.returns
  have hts := atoms_spec (ws := wsX10_sawBy) B.pre
  have hown : s.vm.findClass RX10 = some m.cls := findClass_of_methodNamed B.named
  have hlocks := B.notSynchronized
  have hP : cR_P Γ s σ s.heap [] := ⟨hP, va_S.rf⟩
  have hl := lv_entry ([.ref (Γ.2.2 0), .int a1, .int a2]) (n := 3) (Nat.le_of_ble_eq_true rfl)
  rw [lg_entry_eq]
  generalize (lg_sl ([.ref (Γ.2.2 0), .int a1, .int a2]) ++ List.replicate (3 - (lg_sl ([.ref (Γ.2.2 0), .int a1, .int a2])).length) Slot.unset).toArray = ls at hl ⊢
  have hl : lv_has ls 3 [(0, .ref (Γ.2.2 0)), (1, .int a1), (2, .int a2)] := hl
  unfold w_X10_sawBy at hw
  refine lv_aload_n hx hb dX10_sawBy_0 rfl (lv_at hl 0 rfl) ?_
  refine lv_aload_n hx hb dX10_sawBy_1 rfl (lv_at hl 0 rfl) ?_
  refine lv_iload_n hx hb dX10_sawBy_2 rfl (lv_at hl 1 rfl) ?_
  refine lv_iconst (v := 1) hx hb dX10_sawBy_3 (by decide) ?_
  refine lv_iload_n hx hb dX10_sawBy_4 rfl (lv_at hl 2 rfl) ?_
  refine lv_ishl hx hb dX10_sawBy_5 ?_
  refine cR_Vip (rest := [.ref (Γ.2.2 0)]) ⟨hx, hb, hml, hown, hts⟩ (c_X10_stepped l Γ hI a1 (1 <<< (a2 &&& 31)) σ _ hw) (cwV 2 hts gX10_sawBy_X10_stepped rfl rfl rfl (by decide +kernel) ⟨Nat.le_of_ble_eq_true rfl, Nat.le_of_ble_eq_true rfl⟩) hK hN hP (cR_lt hR_0 (by decide)) (cR_E10 hR_0) rfl rfl rfl hl.1 rfl (Nat.le_of_ble_eq_true rfl) dX10_sawBy_6 ⟨Nat.le_refl _, Nat.le_refl _⟩ (fun r1 H locs hw hP => ?_)
  refine cR_Vip (rest := []) ⟨hx, hb, hml, hown, hts⟩ (c_X10_closed l Γ hI r1 σ _ hw) (cwV 1 hts gX10_sawBy_X10_closed rfl rfl rfl (by decide +kernel) ⟨Nat.le_of_ble_eq_true rfl, Nat.le_of_ble_eq_true rfl⟩) hK hN hP (cR_lt hR_0 (by decide)) (cR_E10 hR_0) rfl rfl rfl hl.1 rfl (Nat.le_of_ble_eq_true rfl) dX10_sawBy_9 ⟨Nat.le_refl _, Nat.le_refl _⟩ (fun r2 H locs hw hP => ?_)
  exact W.iret hx hb hr (cR_ri hP ⟨rfl, hw⟩) hP.2.2.2 dX10_sawBy_12
set_option maxHeartbeats 4000000 in
set_option maxRecDepth 100000 in
theorem c_X10_verdict (l : Launch) (Γ : ft_G) (hI : cR_I Γ) (a0 : Int32) (σ : ft_St) (Φ : Int32 → Prop) (hw : w_X10_verdict a0  Φ) : cR_Mip l yX10_verdict wsX10_verdict ({ frames := 0, cells := 0, slots := 0, locals := 0 } : Room) Γ σ [.int a0] Φ := by
  refine Met.ofW (cc := cX10_verdict) (maxL := 3) (ret := (some .int)) (by decide) rfl ?_
  intro p e s m args below meth c s₁ B hml hv
  obtain ⟨rfl, hP, hK, hN⟩ := hv
  have hx := B.exec
  have hb := B.bytes
  have hr := B.returns
  have hts := atoms_spec (ws := wsX10_verdict) B.pre
  have hown : s.vm.findClass RX10 = some m.cls := findClass_of_methodNamed B.named
  have hlocks := B.notSynchronized
  have hP : cR_P Γ s σ s.heap [] := ⟨hP, va_S.rf⟩
  have hl := lv_entry ([.int a0]) (n := 3) (Nat.le_of_ble_eq_true rfl)
  rw [lg_entry_eq]
  generalize (lg_sl ([.int a0]) ++ List.replicate (3 - (lg_sl ([.int a0])).length) Slot.unset).toArray = ls at hl ⊢
  have hl : lv_has ls 3 [(0, .int a0)] := hl
  unfold w_X10_verdict at hw
  refine lv_iload_n hx hb dX10_verdict_0 rfl (lv_at hl 0 rfl) ?_
  refine lv_bipush (v := 10) hx hb dX10_verdict_1 (by decide) ?_
  refine lv_ishr hx hb dX10_verdict_3 ?_
  refine lv_istore_n (lv' := [(1, .int (a0 >>> (10 &&& 31))), (0, .int a0)]) hx hb dX10_verdict_4 rfl hl (by decide) rfl (fun ls hl => ?_)
  refine lv_iload_n hx hb dX10_verdict_5 rfl (lv_at hl 1 rfl) ?_
  refine lv_sipush (v := 1023) hx hb dX10_verdict_6 (by decide) ?_
  refine lv_iand hx hb dX10_verdict_9 ?_
  refine lv_istore_n (lv' := [(2, .int (a0 &&& 1023)), (1, .int (a0 >>> (10 &&& 31))), (0, .int a0)]) hx hb dX10_verdict_10 rfl hl (by decide) rfl (fun ls hl => ?_)
  refine lv_iload_n hx hb dX10_verdict_11 rfl (lv_at hl 1 rfl) ?_
  refine lv_if_ne (tgt := 19) hx hb dX10_verdict_12 (by decide) (fun h => ?_) (fun h => ?_)
  · replace hw := hw.1 h
    refine lv_iload_n hx hb dX10_verdict_19 rfl (lv_at hl 0 rfl) ?_
    refine lv_if_ne (tgt := 27) hx hb dX10_verdict_20 (by decide) (fun h => ?_) (fun h => ?_)
    · replace hw := hw.1 h
      refine lv_iconst (v := 2) hx hb dX10_verdict_27 (by decide) ?_
      exact W.iret hx hb hr (cR_ri hP ⟨rfl, hw⟩) hP.2.2.2 dX10_verdict_28
    · replace hw := hw.2 h
      refine lv_iconst (v := 1) hx hb dX10_verdict_23 (by decide) ?_
      refine lv_goto (tgt := 28) hx hb dX10_verdict_24 (by decide) ?_
      exact W.iret hx hb hr (cR_ri hP ⟨rfl, hw⟩) hP.2.2.2 dX10_verdict_28
  · replace hw := hw.2 h
    refine lv_iconst (v := 0) hx hb dX10_verdict_15 (by decide) ?_
    refine lv_goto (tgt := 28) hx hb dX10_verdict_16 (by decide) ?_
    exact W.iret hx hb hr (cR_ri hP ⟨rfl, hw⟩) hP.2.2.2 dX10_verdict_28
theorem q_X10_sees_1 : (Cond.fieldLink RX10 26 "FaultTwinsModel" "known" "I") ∈ wsX10_sees := List.mem_of_getElem? (i := 1) (by decide +kernel)
theorem q_X10_sees_2 : (Cond.fieldLink RX10 29 "FaultTwinsModel" "sight" "[I") ∈ wsX10_sees := List.mem_of_getElem? (i := 2) (by decide +kernel)
theorem q_X10_sees_3 : (Cond.fieldLink RX10 76 "FaultTwinsModel" "sights" "I") ∈ wsX10_sees := List.mem_of_getElem? (i := 3) (by decide +kernel)
set_option maxHeartbeats 4000000 in
set_option maxRecDepth 100000 in
theorem c_X10_sees (l : Launch) (Γ : ft_G) (hI : cR_I Γ) (a1 : Int32) (σ : ft_St) (Φ : Int32 → ft_St → Prop) (hw : w_X10_sees a1 σ Φ) : cR_Mi l yX10_sees wsX10_sees ({ frames := 4, cells := 0, slots := 0, locals := 93 } : Room) Γ σ [.ref (Γ.2.2 0), .int a1] Φ := by
  refine Met.ofW (cc := cX10_sees) (maxL := 4) (ret := (some .int)) (by decide) rfl ?_
  intro p e s m args below meth c s₁ B hml hv
  obtain ⟨rfl, hP, hK, hN⟩ := hv
  have hx := B.exec
  have hb := B.bytes
  have hr := B.returns
  have hts := atoms_spec (ws := wsX10_sees) B.pre
  have hown : s.vm.findClass RX10 = some m.cls := findClass_of_methodNamed B.named
  have hlocks := B.notSynchronized
  have i10 : ∀ w ∈ wsX100, w ∈ wsX10_sees := fun w h => List.mem_cons_of_mem _ (List.mem_append_right _ h)
  have hP : cR_P Γ s σ s.heap [] := ⟨hP, va_S.rf⟩
  have hl := lv_entry ([.ref (Γ.2.2 0), .int a1]) (n := 4) (Nat.le_of_ble_eq_true rfl)
  rw [lg_entry_eq]
  generalize (lg_sl ([.ref (Γ.2.2 0), .int a1]) ++ List.replicate (4 - (lg_sl ([.ref (Γ.2.2 0), .int a1])).length) Slot.unset).toArray = ls at hl ⊢
  have hl : lv_has ls 4 [(0, .ref (Γ.2.2 0)), (1, .int a1)] := hl
  unfold w_X10_sees at hw
  refine lv_iload_n hx hb dX10_sees_0 rfl (lv_at hl 1 rfl) ?_
  refine cR_Sip (rest := []) ⟨hx, hb, hml, hown, hts⟩ (c_X10_isDeed l Γ hI a1 σ _ hw) (va_cwS 1 hts gX10_sees_X10_isDeed rfl rfl rfl (by decide +kernel) ⟨Nat.le_of_ble_eq_true rfl, Nat.le_of_ble_eq_true rfl⟩) hK hN hP rfl hl.1 rfl (Nat.le_of_ble_eq_true rfl) dX10_sees_1 ⟨Nat.le_refl _, Nat.le_refl _⟩ (fun r1 H locs hw hP => ?_)
  refine lv_if_ne (tgt := 12) hx hb dX10_sees_4 (by decide) (fun h => ?_) (fun h => ?_)
  · replace hw := hw.1 h
    refine lv_aload_n hx hb dX10_sees_12 rfl (lv_at hl 0 rfl) ?_
    refine lv_iload_n hx hb dX10_sees_13 rfl (lv_at hl 1 rfl) ?_
    refine cR_Vip (rest := []) ⟨hx, hb, hml, hown, hts⟩ (c_X10_isSeen l Γ hI a1 σ _ hw) (cwV 1 hts gX10_sees_X10_isSeen rfl rfl rfl (by decide +kernel) ⟨Nat.le_of_ble_eq_true rfl, Nat.le_of_ble_eq_true rfl⟩) hK hN hP (cR_lt hR_0 (by decide)) (cR_E10 hR_0) rfl rfl rfl hl.1 rfl (Nat.le_of_ble_eq_true rfl) dX10_sees_14 ⟨Nat.le_refl _, Nat.le_refl _⟩ (fun r2 H locs hw hP => ?_)
    refine ft_cut (hw (fun (x3 : Int32) => ∀ (H : Heap) (locs : List Loc) (ls : Array Slot), cR_P Γ s σ H locs → lv_has ls 4 [(0, .ref (Γ.2.2 0)), (1, .int a1)] → cR_Wi p l e ({ frames := 4, cells := 0, slots := 0, locals := 93 } : Room) s m [.ref (Γ.2.2 0), .int a1] below meth c Γ Φ H locs 33 ls [.int x3]) (fun x3 hw H locs ls hP hl => ?_)) (fun hw => ?_)
    · refine lv_istore_n (lv' := [(2, .int x3), (0, .ref (Γ.2.2 0)), (1, .int a1)]) hx hb dX10_sees_33 rfl hl (by decide) rfl (fun ls hl => ?_)
      refine lv_iload_n hx hb dX10_sees_34 rfl (lv_at hl 0 rfl) ?_
      refine lv_if_ne (tgt := 43) hx hb dX10_sees_35 (by decide) (fun h => ?_) (fun h => ?_)
      · replace hw := hw.1 h
        refine lv_aload_n hx hb dX10_sees_43 rfl (lv_at hl 1 rfl) ?_
        refine cR_Vv (rest := []) ⟨hx, hb, hml, hown, hts⟩ (c_X10_leavesState l Γ hI  σ _ hw) (cwV 0 hts gX10_sees_X10_leavesState rfl rfl rfl (by decide +kernel) ⟨Nat.le_of_ble_eq_true rfl, Nat.le_of_ble_eq_true rfl⟩) hK hN hP (cR_lt hR_0 (by decide)) (cR_E10 hR_0) rfl rfl rfl hl.1 rfl (Nat.le_of_ble_eq_true rfl) dX10_sees_44 ⟨Nat.le_refl _, Nat.le_refl _⟩ (fun s5 H locs hw hP => ?_)
        refine lv_aload_n hx hb dX10_sees_47 rfl (lv_at hl 1 rfl) ?_
        refine lv_iload_n hx hb dX10_sees_48 rfl (lv_at hl 0 rfl) ?_
        refine pR_10_7 hx hb hts i10 hown hK hI hP hR_0 (hts _ q_X10_sees_1) dX10_sees_49 (fun H locs hP => ?_)
        obtain ⟨s6, hs6⟩ : ∃ u, u = ft_sF s5 0 7 x3 := ⟨_, rfl⟩
        rw [← hs6] at hP
        replace hw := hw s6 hs6
        refine lv_bipush (v := 7) hx hb dX10_sees_52 (by decide) ?_
        refine lv_istore_n (lv' := [(3, .int 7), (2, .int x3), (0, .ref (Γ.2.2 0)), (1, .int a1)]) hx hb dX10_sees_54 rfl hl (by decide) rfl (fun ls hl => ?_)
        refine hw (fun (x7 : Int32) (s8 : ft_St) => ∀ (H : Heap) (locs : List Loc) (ls : Array Slot), cR_P Γ s s8 H locs → lv_has ls 4 [(0, .ref (Γ.2.2 0)), (1, .int a1), (3, .int x7)] → cR_Wi p l e ({ frames := 4, cells := 0, slots := 0, locals := 93 } : Room) s m [.ref (Γ.2.2 0), .int a1] below meth c Γ Φ H locs 55 ls []) (fun x7 s8 hw H locs ls hP hl => ?_) _ _ _ hP (lv_sub hl [2, 3, 0] rfl)
        refine lv_iload_n hx hb dX10_sees_55 rfl (lv_at hl 2 rfl) ?_
        refine lv_if_le (tgt := 79) hx hb dX10_sees_56 (by decide) (fun h => ?_) (fun h => ?_)
        · replace hw := hw.1 h
          refine lv_aload_n hx hb dX10_sees_79 rfl (lv_at hl 0 rfl) ?_
          refine gR_10_9 hx hb hts i10 hown hK hP hR_0 (hts _ q_X10_sees_2) dX10_sees_80 ?_
          refine lv_iconst (v := 0) hx hb dX10_sees_83 (by decide) ?_
          refine lv_iload_n hx hb dX10_sees_84 rfl (lv_at hl 1 rfl) ?_
          refine aR_st hx hb hK hI hP hR_5 mR_5 hw.1 dX10_sees_85 (fun H locs hP => ?_)
          replace hw := hw.2
          obtain ⟨s10, hs10⟩ : ∃ u, u = ft_sA s8 5 (upd (s8.2.1 5) (Int32.toNatClampNeg 0) a1) := ⟨_, rfl⟩
          rw [← hs10] at hP
          replace hw := hw s10 hs10
          refine lv_aload_n hx hb dX10_sees_86 rfl (lv_at hl 0 rfl) ?_
          refine lv_dup hx hb dX10_sees_87 rfl ?_
          refine gR_10_8 hx hb hts i10 hown hK hP hR_0 (hts _ q_X10_sees_3) dX10_sees_88 ?_
          refine lv_aload_n hx hb dX10_sees_91 rfl (lv_at hl 0 rfl) ?_
          refine gR_10_8 hx hb hts i10 hown hK hP hR_0 (hts _ q_X10_sees_3) dX10_sees_92 ?_
          refine lv_bipush (v := 8) hx hb dX10_sees_95 (by decide) ?_
          refine ft_cut (hw (fun (x11 : Int32) => ∀ (H : Heap) (locs : List Loc) (ls : Array Slot), cR_P Γ s s10 H locs → lv_has ls 4 [(0, .ref (Γ.2.2 0))] → cR_Wi p l e ({ frames := 4, cells := 0, slots := 0, locals := 93 } : Room) s m [.ref (Γ.2.2 0), .int a1] below meth c Γ Φ H locs 105 ls [.int x11, .int (s10.1 0 8), .ref (Γ.2.2 0)]) (fun x11 hw H locs ls hP hl => ?_)) (fun hw => ?_)
          · refine lv_iadd hx hb dX10_sees_105 ?_
            refine pR_10_8 hx hb hts i10 hown hK hI hP hR_0 (hts _ q_X10_sees_3) dX10_sees_106 (fun H locs hP => ?_)
            obtain ⟨s13, hs13⟩ : ∃ u, u = ft_sF s10 0 8 ((s10.1 0 8) + x11) := ⟨_, rfl⟩
            rw [← hs13] at hP
            replace hw := hw s13 hs13
            refine lv_aload_n hx hb dX10_sees_109 rfl (lv_at hl 0 rfl) ?_
            refine gR_10_7 hx hb hts i10 hown hK hP hR_0 (hts _ q_X10_sees_1) dX10_sees_110 ?_
            refine cR_Sip (rest := []) ⟨hx, hb, hml, hown, hts⟩ (c_X10_verdict l Γ hI (s13.1 0 7) s13 _ hw) (va_cwS 1 hts gX10_sees_X10_verdict rfl rfl rfl (by decide +kernel) ⟨Nat.le_of_ble_eq_true rfl, Nat.le_of_ble_eq_true rfl⟩) hK hN hP rfl hl.1 rfl (Nat.le_of_ble_eq_true rfl) dX10_sees_113 ⟨Nat.le_refl _, Nat.le_refl _⟩ (fun r14 H locs hw hP => ?_)
            exact W.iret hx hb hr (cR_ri hP hw) hP.2.2.2 dX10_sees_116
          · refine lv_icmp_ge (tgt := 104) hx hb dX10_sees_97 (by decide) (fun h => ?_) (fun h => ?_)
            · replace hw := hw.1 h
              refine lv_iconst (v := 0) hx hb dX10_sees_104 (by decide) ?_
              exact hw _ _ _ hP (lv_sub hl [0] rfl)
            · replace hw := hw.2 h
              refine lv_iconst (v := 1) hx hb dX10_sees_100 (by decide) ?_
              refine lv_goto (tgt := 105) hx hb dX10_sees_101 (by decide) ?_
              exact hw _ _ _ hP (lv_sub hl [0] rfl)
        · replace hw := hw.2 h
          refine lv_aload_n hx hb dX10_sees_59 rfl (lv_at hl 0 rfl) ?_
          refine gR_10_9 hx hb hts i10 hown hK hP hR_0 (hts _ q_X10_sees_2) dX10_sees_60 ?_
          refine lv_iload_n hx hb dX10_sees_63 rfl (lv_at hl 2 rfl) ?_
          refine lv_aload_n hx hb dX10_sees_64 rfl (lv_at hl 0 rfl) ?_
          refine gR_10_9 hx hb hts i10 hown hK hP hR_0 (hts _ q_X10_sees_2) dX10_sees_65 ?_
          refine lv_iload_n hx hb dX10_sees_68 rfl (lv_at hl 2 rfl) ?_
          refine lv_iconst (v := 1) hx hb dX10_sees_69 (by decide) ?_
          refine lv_isub hx hb dX10_sees_70 ?_
          refine aR_ld hx hb hK hP hR_5 mR_5 hw.1 dX10_sees_71 ?_
          replace hw := hw.2
          refine aR_st hx hb hK hI hP hR_5 mR_5 hw.1 dX10_sees_72 (fun H locs hP => ?_)
          replace hw := hw.2
          obtain ⟨s15, hs15⟩ : ∃ u, u = ft_sA s8 5 (upd (s8.2.1 5) (Int32.toNatClampNeg x7) (s8.2.1 5 (Int32.toNatClampNeg (x7 - 1)))) := ⟨_, rfl⟩
          rw [← hs15] at hP
          replace hw := hw s15 hs15
          refine lv_iinc (v := x7 + (-1)) (lv' := [(3, .int (x7 + (-1))), (0, .ref (Γ.2.2 0)), (1, .int a1)]) hx hb dX10_sees_73 hl (k := 2) rfl (congrArg (fun z => x7 + z) (by decide)) (by decide) rfl (fun ls hl => ?_)
          refine lv_goto (tgt := 55) hx hb dX10_sees_76 (by decide) ?_
          exact hw _ _ _ hP (lv_sub hl [1, 2, 0] rfl)
      · replace hw := hw.2 h
        refine lv_aload_n hx hb dX10_sees_38 rfl (lv_at hl 1 rfl) ?_
        refine cR_Vi (rest := []) ⟨hx, hb, hml, hown, hts⟩ (c_X10_no l Γ hI  σ _ hw) (cwV 0 hts gX10_sees_X10_no rfl rfl rfl (by decide +kernel) ⟨Nat.le_of_ble_eq_true rfl, Nat.le_of_ble_eq_true rfl⟩) hK hN hP (cR_lt hR_0 (by decide)) (cR_E10 hR_0) rfl rfl rfl hl.1 rfl (Nat.le_of_ble_eq_true rfl) dX10_sees_39 ⟨Nat.le_refl _, Nat.le_refl _⟩ (fun r16 s17 H locs hw hP => ?_)
        exact W.iret hx hb hr (cR_ri hP hw) hP.2.2.2 dX10_sees_42
    · refine lv_if_eq (tgt := 32) hx hb dX10_sees_17 (by decide) (fun h => ?_) (fun h => ?_)
      · replace hw := hw.1 h
        refine lv_iconst (v := 0) hx hb dX10_sees_32 (by decide) ?_
        exact hw _ _ _ hP (lv_sub hl [0, 1] rfl)
      · replace hw := hw.2 h
        refine lv_aload_n hx hb dX10_sees_20 rfl (lv_at hl 0 rfl) ?_
        refine lv_aload_n hx hb dX10_sees_21 rfl (lv_at hl 0 rfl) ?_
        refine gR_10_7 hx hb hts i10 hown hK hP hR_0 (hts _ q_X10_sees_1) dX10_sees_22 ?_
        refine lv_iload_n hx hb dX10_sees_25 rfl (lv_at hl 1 rfl) ?_
        refine cR_Vip (rest := []) ⟨hx, hb, hml, hown, hts⟩ (c_X10_sawBy l Γ hI (σ.1 0 7) a1 σ _ hw) (cwV 2 hts gX10_sees_X10_sawBy rfl rfl rfl (by decide +kernel) ⟨Nat.le_of_ble_eq_true rfl, Nat.le_of_ble_eq_true rfl⟩) hK hN hP (cR_lt hR_0 (by decide)) (cR_E10 hR_0) rfl rfl rfl hl.1 rfl (Nat.le_of_ble_eq_true rfl) dX10_sees_26 ⟨Nat.le_refl _, Nat.le_refl _⟩ (fun r18 H locs hw hP => ?_)
        refine lv_goto (tgt := 33) hx hb dX10_sees_29 (by decide) ?_
        exact hw _ _ _ hP (lv_sub hl [0, 1] rfl)
  · replace hw := hw.2 h
    refine lv_aload_n hx hb dX10_sees_7 rfl (lv_at hl 0 rfl) ?_
    refine cR_Vi (rest := []) ⟨hx, hb, hml, hown, hts⟩ (c_X10_bad l Γ hI  σ _ hw) (cwV 0 hts gX10_sees_X10_bad rfl rfl rfl (by decide +kernel) ⟨Nat.le_of_ble_eq_true rfl, Nat.le_of_ble_eq_true rfl⟩) hK hN hP (cR_lt hR_0 (by decide)) (cR_E10 hR_0) rfl rfl rfl hl.1 rfl (Nat.le_of_ble_eq_true rfl) dX10_sees_8 ⟨Nat.le_refl _, Nat.le_refl _⟩ (fun r19 s20 H locs hw hP => ?_)
    exact W.iret hx hb hr (cR_ri hP hw) hP.2.2.2 dX10_sees_11
theorem q_X10_restarts_1 : (Cond.fieldLink RX10 26 "FaultTwinsModel" "known" "I") ∈ wsX10_restarts := List.mem_of_getElem? (i := 1) (by decide +kernel)
set_option maxHeartbeats 4000000 in
set_option maxRecDepth 100000 in
theorem c_X10_restarts (l : Launch) (Γ : ft_G) (hI : cR_I Γ)  (σ : ft_St) (Φ : Int32 → ft_St → Prop) (hw : w_X10_restarts  σ Φ) : cR_Mi l yX10_restarts wsX10_restarts ({ frames := 4, cells := 0, slots := 0, locals := 91 } : Room) Γ σ [.ref (Γ.2.2 0)] Φ := by
  refine Met.ofW (cc := cX10_restarts) (maxL := 1) (ret := (some .int)) (by decide) rfl ?_
  intro p e s m args below meth c s₁ B hml hv
  obtain ⟨rfl, hP, hK, hN⟩ := hv
  have hx := B.exec
  have hb := B.bytes
  have hr := B.returns
  have hts := atoms_spec (ws := wsX10_restarts) B.pre
  have hown : s.vm.findClass RX10 = some m.cls := findClass_of_methodNamed B.named
  have hlocks := B.notSynchronized
  have i10 : ∀ w ∈ wsX100, w ∈ wsX10_restarts := fun w h => List.mem_cons_of_mem _ (List.mem_append_right _ h)
  have hP : cR_P Γ s σ s.heap [] := ⟨hP, va_S.rf⟩
  have hl := lv_entry ([.ref (Γ.2.2 0)]) (n := 1) (Nat.le_of_ble_eq_true rfl)
  rw [lg_entry_eq]
  generalize (lg_sl ([.ref (Γ.2.2 0)]) ++ List.replicate (1 - (lg_sl ([.ref (Γ.2.2 0)])).length) Slot.unset).toArray = ls at hl ⊢
  have hl : lv_has ls 1 [(0, .ref (Γ.2.2 0))] := hl
  unfold w_X10_restarts at hw
  refine lv_aload_n hx hb dX10_restarts_0 rfl (lv_at hl 0 rfl) ?_
  refine cR_Vv (rest := []) ⟨hx, hb, hml, hown, hts⟩ (c_X10_leavesState l Γ hI  σ _ hw) (cwV 0 hts gX10_restarts_X10_leavesState rfl rfl rfl (by decide +kernel) ⟨Nat.le_of_ble_eq_true rfl, Nat.le_of_ble_eq_true rfl⟩) hK hN hP (cR_lt hR_0 (by decide)) (cR_E10 hR_0) rfl rfl rfl hl.1 rfl (Nat.le_of_ble_eq_true rfl) dX10_restarts_1 ⟨Nat.le_refl _, Nat.le_refl _⟩ (fun s1 H locs hw hP => ?_)
  refine lv_aload_n hx hb dX10_restarts_4 rfl (lv_at hl 0 rfl) ?_
  refine cR_Vv (rest := []) ⟨hx, hb, hml, hown, hts⟩ (c_X10_begins l Γ hI  s1 _ hw) (cwV 0 hts gX10_restarts_X10_begins rfl rfl rfl (by decide +kernel) ⟨Nat.le_of_ble_eq_true rfl, Nat.le_of_ble_eq_true rfl⟩) hK hN hP (cR_lt hR_0 (by decide)) (cR_E10 hR_0) rfl rfl rfl hl.1 rfl (Nat.le_of_ble_eq_true rfl) dX10_restarts_5 ⟨Nat.le_refl _, Nat.le_refl _⟩ (fun s2 H locs hw hP => ?_)
  refine lv_aload_n hx hb dX10_restarts_8 rfl (lv_at hl 0 rfl) ?_
  refine gR_10_7 hx hb hts i10 hown hK hP hR_0 (hts _ q_X10_restarts_1) dX10_restarts_9 ?_
  refine cR_Sip (rest := []) ⟨hx, hb, hml, hown, hts⟩ (c_X10_verdict l Γ hI (s2.1 0 7) s2 _ hw) (va_cwS 1 hts gX10_restarts_X10_verdict rfl rfl rfl (by decide +kernel) ⟨Nat.le_of_ble_eq_true rfl, Nat.le_of_ble_eq_true rfl⟩) hK hN hP rfl hl.1 rfl (Nat.le_of_ble_eq_true rfl) dX10_restarts_12 ⟨Nat.le_refl _, Nat.le_refl _⟩ (fun r3 H locs hw hP => ?_)
  exact W.iret hx hb hr (cR_ri hP hw) hP.2.2.2 dX10_restarts_15
set_option maxHeartbeats 4000000 in
set_option maxRecDepth 100000 in
theorem c_X10_ones (l : Launch) (Γ : ft_G) (hI : cR_I Γ) (a0 : Int32) (σ : ft_St) (Φ : Int32 → Prop) (hw : w_X10_ones a0  Φ) : cR_Mip l yX10_ones wsX10_ones ({ frames := 0, cells := 0, slots := 0, locals := 0 } : Room) Γ σ [.int a0] Φ := by
  refine Met.ofW (cc := cX10_ones) (maxL := 3) (ret := (some .int)) (by decide) rfl ?_
  intro p e s m args below meth c s₁ B hml hv
  obtain ⟨rfl, hP, hK, hN⟩ := hv
  have hx := B.exec
  have hb := B.bytes
  have hr := B.returns
  have hts := atoms_spec (ws := wsX10_ones) B.pre
  have hown : s.vm.findClass RX10 = some m.cls := findClass_of_methodNamed B.named
  have hlocks := B.notSynchronized
  have hP : cR_P Γ s σ s.heap [] := ⟨hP, va_S.rf⟩
  have hl := lv_entry ([.int a0]) (n := 3) (Nat.le_of_ble_eq_true rfl)
  rw [lg_entry_eq]
  generalize (lg_sl ([.int a0]) ++ List.replicate (3 - (lg_sl ([.int a0])).length) Slot.unset).toArray = ls at hl ⊢
  have hl : lv_has ls 3 [(0, .int a0)] := hl
  unfold w_X10_ones at hw
  refine lv_iconst (v := 0) hx hb dX10_ones_0 (by decide) ?_
  refine lv_istore_n (lv' := [(1, .int 0), (0, .int a0)]) hx hb dX10_ones_1 rfl hl (by decide) rfl (fun ls hl => ?_)
  refine lv_iconst (v := 0) hx hb dX10_ones_2 (by decide) ?_
  refine lv_istore_n (lv' := [(2, .int 0), (1, .int 0), (0, .int a0)]) hx hb dX10_ones_3 rfl hl (by decide) rfl (fun ls hl => ?_)
  refine hw (fun (x1 : Int32) (x2 : Int32) => ∀ (H : Heap) (locs : List Loc) (ls : Array Slot), cR_P Γ s σ H locs → lv_has ls 3 [(0, .int a0), (1, .int x1), (2, .int x2)] → cR_Wi p l e ({ frames := 0, cells := 0, slots := 0, locals := 0 } : Room) s m [.int a0] below meth c Γ (fun r u => u = σ ∧ Φ r) H locs 4 ls []) (fun x1 x2 hw H locs ls hP hl => ?_) _ _ _ hP (lv_sub hl [2, 1, 0] rfl)
  refine lv_iload_n hx hb dX10_ones_4 rfl (lv_at hl 2 rfl) ?_
  refine lv_bipush (v := 20) hx hb dX10_ones_5 (by decide) ?_
  refine lv_icmp_ge (tgt := 24) hx hb dX10_ones_7 (by decide) (fun h => ?_) (fun h => ?_)
  · replace hw := hw.1 h
    refine lv_iload_n hx hb dX10_ones_24 rfl (lv_at hl 1 rfl) ?_
    exact W.iret hx hb hr (cR_ri hP ⟨rfl, hw⟩) hP.2.2.2 dX10_ones_25
  · replace hw := hw.2 h
    refine lv_iload_n hx hb dX10_ones_10 rfl (lv_at hl 1 rfl) ?_
    refine lv_iload_n hx hb dX10_ones_11 rfl (lv_at hl 0 rfl) ?_
    refine lv_iload_n hx hb dX10_ones_12 rfl (lv_at hl 2 rfl) ?_
    refine lv_ishr hx hb dX10_ones_13 ?_
    refine lv_iconst (v := 1) hx hb dX10_ones_14 (by decide) ?_
    refine lv_iand hx hb dX10_ones_15 ?_
    refine lv_iadd hx hb dX10_ones_16 ?_
    refine lv_topi (fun x4 ex4 => ?_)
    replace hw := hw x4 ex4
    refine lv_istore_n (lv' := [(1, .int x4), (0, .int a0), (2, .int x2)]) hx hb dX10_ones_17 rfl hl (by decide) rfl (fun ls hl => ?_)
    refine lv_iinc (v := x2 + 1) (lv' := [(2, .int (x2 + 1)), (1, .int x4), (0, .int a0)]) hx hb dX10_ones_18 hl (k := 2) rfl (congrArg (fun z => x2 + z) (by decide)) (by decide) rfl (fun ls hl => ?_)
    refine lv_goto (tgt := 4) hx hb dX10_ones_21 (by decide) ?_
    exact hw _ _ _ hP (lv_sub hl [2, 1, 0] rfl)
theorem q_X10_knownBy_1 : (Cond.fieldLink RX10 26 "FaultTwinsModel" "known" "I") ∈ wsX10_knownBy := List.mem_of_getElem? (i := 1) (by decide +kernel)
theorem q_X10_knownBy_2 : (Cond.fieldLink RX10 22 "FaultTwinsModel" "seen" "I") ∈ wsX10_knownBy := List.mem_of_getElem? (i := 2) (by decide +kernel)
set_option maxHeartbeats 4000000 in
set_option maxRecDepth 100000 in
theorem c_X10_knownBy (l : Launch) (Γ : ft_G) (hI : cR_I Γ) (a1 : Int32) (σ : ft_St) (Φ : Int32 → Prop) (hw : w_X10_knownBy a1 σ Φ) : cR_Mip l yX10_knownBy wsX10_knownBy ({ frames := 2, cells := 0, slots := 0, locals := 48 } : Room) Γ σ [.ref (Γ.2.2 0), .int a1] Φ := by
  refine Met.ofW (cc := cX10_knownBy) (maxL := 4) (ret := (some .int)) (by decide) rfl ?_
  intro p e s m args below meth c s₁ B hml hv
  obtain ⟨rfl, hP, hK, hN⟩ := hv
  have hx := B.exec
  have hb := B.bytes
  have hr := B.returns
  have hts := atoms_spec (ws := wsX10_knownBy) B.pre
  have hown : s.vm.findClass RX10 = some m.cls := findClass_of_methodNamed B.named
  have hlocks := B.notSynchronized
  have i10 : ∀ w ∈ wsX100, w ∈ wsX10_knownBy := fun w h => List.mem_cons_of_mem _ (List.mem_append_right _ h)
  have hP : cR_P Γ s σ s.heap [] := ⟨hP, va_S.rf⟩
  have hl := lv_entry ([.ref (Γ.2.2 0), .int a1]) (n := 4) (Nat.le_of_ble_eq_true rfl)
  rw [lg_entry_eq]
  generalize (lg_sl ([.ref (Γ.2.2 0), .int a1]) ++ List.replicate (4 - (lg_sl ([.ref (Γ.2.2 0), .int a1])).length) Slot.unset).toArray = ls at hl ⊢
  have hl : lv_has ls 4 [(0, .ref (Γ.2.2 0)), (1, .int a1)] := hl
  unfold w_X10_knownBy at hw
  refine lv_iload_n hx hb dX10_knownBy_0 rfl (lv_at hl 1 rfl) ?_
  rcases ft_tab4 a1 with h | h | h | h | h
  · replace hw := hw.2.2.2.2 h
    refine lv_tableOut (tgt := 103) hx hb dX10_knownBy_1 h (by decide) ?_
    refine lv_aload_n hx hb dX10_knownBy_103 rfl (lv_at hl 0 rfl) ?_
    refine lv_aload_n hx hb dX10_knownBy_104 rfl (lv_at hl 0 rfl) ?_
    refine gR_10_7 hx hb hts i10 hown hK hP hR_0 (hts _ q_X10_knownBy_1) dX10_knownBy_105 ?_
    refine lv_sipush (v := 255) hx hb dX10_knownBy_108 (by decide) ?_
    refine lv_aload_n hx hb dX10_knownBy_111 rfl (lv_at hl 0 rfl) ?_
    refine gR_10_5 hx hb hts i10 hown hK hP hR_0 (hts _ q_X10_knownBy_2) dX10_knownBy_112 ?_
    refine lv_iconst (v := (-1)) hx hb dX10_knownBy_115 (by decide) ?_
    refine lv_ixor hx hb dX10_knownBy_116 ?_
    refine lv_iand hx hb dX10_knownBy_117 ?_
    refine cR_Vip (rest := []) ⟨hx, hb, hml, hown, hts⟩ (c_X10_stepped l Γ hI (σ.1 0 7) (255 &&& ((σ.1 0 5) ^^^ (-1))) σ _ hw) (cwV 2 hts gX10_knownBy_X10_stepped rfl rfl rfl (by decide +kernel) ⟨Nat.le_of_ble_eq_true rfl, Nat.le_of_ble_eq_true rfl⟩) hK hN hP (cR_lt hR_0 (by decide)) (cR_E10 hR_0) rfl rfl rfl hl.1 rfl (Nat.le_of_ble_eq_true rfl) dX10_knownBy_118 ⟨Nat.le_refl _, Nat.le_refl _⟩ (fun r1 H locs hw hP => ?_)
    refine lv_if_eq (tgt := 128) hx hb dX10_knownBy_121 (by decide) (fun h => ?_) (fun h => ?_)
    · replace hw := hw.1 h
      refine lv_iconst (v := 0) hx hb dX10_knownBy_128 (by decide) ?_
      exact W.iret hx hb hr (cR_ri hP ⟨rfl, hw⟩) hP.2.2.2 dX10_knownBy_129
    · replace hw := hw.2 h
      refine lv_iconst (v := 1) hx hb dX10_knownBy_124 (by decide) ?_
      refine lv_goto (tgt := 129) hx hb dX10_knownBy_125 (by decide) ?_
      exact W.iret hx hb hr (cR_ri hP ⟨rfl, hw⟩) hP.2.2.2 dX10_knownBy_129
  · replace hw := hw.1 h
    refine lv_tableIn (off := 31) (tgt := 32) hx hb dX10_knownBy_1 (by rw [h]; decide) (by rw [h]; decide) (by rw [h]; rfl) (by decide) ?_
    refine lv_aload_n hx hb dX10_knownBy_32 rfl (lv_at hl 0 rfl) ?_
    refine gR_10_7 hx hb hts i10 hown hK hP hR_0 (hts _ q_X10_knownBy_1) dX10_knownBy_33 ?_
    exact W.iret hx hb hr (cR_ri hP ⟨rfl, hw⟩) hP.2.2.2 dX10_knownBy_36
  · replace hw := hw.2.1 h
    refine lv_tableIn (off := 36) (tgt := 37) hx hb dX10_knownBy_1 (by rw [h]; decide) (by rw [h]; decide) (by rw [h]; rfl) (by decide) ?_
    refine lv_aload_n hx hb dX10_knownBy_37 rfl (lv_at hl 0 rfl) ?_
    refine gR_10_7 hx hb hts i10 hown hK hP hR_0 (hts _ q_X10_knownBy_1) dX10_knownBy_38 ?_
    refine cR_Sip (rest := []) ⟨hx, hb, hml, hown, hts⟩ (c_X10_verdict l Γ hI (σ.1 0 7) σ _ hw) (va_cwS 1 hts gX10_knownBy_X10_verdict rfl rfl rfl (by decide +kernel) ⟨Nat.le_of_ble_eq_true rfl, Nat.le_of_ble_eq_true rfl⟩) hK hN hP rfl hl.1 rfl (Nat.le_of_ble_eq_true rfl) dX10_knownBy_41 ⟨Nat.le_refl _, Nat.le_refl _⟩ (fun r2 H locs hw hP => ?_)
    exact W.iret hx hb hr (cR_ri hP ⟨rfl, hw⟩) hP.2.2.2 dX10_knownBy_44
  · replace hw := hw.2.2.1 h
    refine lv_tableIn (off := 44) (tgt := 45) hx hb dX10_knownBy_1 (by rw [h]; decide) (by rw [h]; decide) (by rw [h]; rfl) (by decide) ?_
    refine lv_aload_n hx hb dX10_knownBy_45 rfl (lv_at hl 0 rfl) ?_
    refine gR_10_7 hx hb hts i10 hown hK hP hR_0 (hts _ q_X10_knownBy_1) dX10_knownBy_46 ?_
    refine cR_Sip (rest := []) ⟨hx, hb, hml, hown, hts⟩ (c_X10_ones l Γ hI (σ.1 0 7) σ _ hw) (va_cwS 1 hts gX10_knownBy_X10_ones rfl rfl rfl (by decide +kernel) ⟨Nat.le_of_ble_eq_true rfl, Nat.le_of_ble_eq_true rfl⟩) hK hN hP rfl hl.1 rfl (Nat.le_of_ble_eq_true rfl) dX10_knownBy_49 ⟨Nat.le_refl _, Nat.le_refl _⟩ (fun r3 H locs hw hP => ?_)
    exact W.iret hx hb hr (cR_ri hP ⟨rfl, hw⟩) hP.2.2.2 dX10_knownBy_52
  · replace hw := hw.2.2.2.1 h
    refine lv_tableIn (off := 52) (tgt := 53) hx hb dX10_knownBy_1 (by rw [h]; decide) (by rw [h]; decide) (by rw [h]; rfl) (by decide) ?_
    refine lv_iconst (v := 0) hx hb dX10_knownBy_53 (by decide) ?_
    refine lv_istore_n (lv' := [(2, .int 0), (0, .ref (Γ.2.2 0)), (1, .int a1)]) hx hb dX10_knownBy_54 rfl hl (by decide) rfl (fun ls hl => ?_)
    refine lv_iconst (v := 0) hx hb dX10_knownBy_55 (by decide) ?_
    refine lv_istore_n (lv' := [(3, .int 0), (2, .int 0), (0, .ref (Γ.2.2 0)), (1, .int a1)]) hx hb dX10_knownBy_56 rfl hl (by decide) rfl (fun ls hl => ?_)
    refine hw (fun (x4 : Int32) (x5 : Int32) => ∀ (H : Heap) (locs : List Loc) (ls : Array Slot), cR_P Γ s σ H locs → lv_has ls 4 [(0, .ref (Γ.2.2 0)), (2, .int x4), (3, .int x5)] → cR_Wi p l e ({ frames := 2, cells := 0, slots := 0, locals := 48 } : Room) s m [.ref (Γ.2.2 0), .int a1] below meth c Γ (fun r u => u = σ ∧ Φ r) H locs 57 ls []) (fun x4 x5 hw H locs ls hP hl => ?_) _ _ _ hP (lv_sub hl [2, 1, 0] rfl)
    refine lv_iload_n hx hb dX10_knownBy_57 rfl (lv_at hl 2 rfl) ?_
    refine lv_bipush (v := 8) hx hb dX10_knownBy_58 (by decide) ?_
    refine lv_icmp_ge (tgt := 101) hx hb dX10_knownBy_60 (by decide) (fun h => ?_) (fun h => ?_)
    · replace hw := hw.1 h
      refine lv_iload_n hx hb dX10_knownBy_101 rfl (lv_at hl 1 rfl) ?_
      exact W.iret hx hb hr (cR_ri hP ⟨rfl, hw⟩) hP.2.2.2 dX10_knownBy_102
    · replace hw := hw.2 h
      refine lv_iload_n hx hb dX10_knownBy_63 rfl (lv_at hl 1 rfl) ?_
      refine lv_aload_n hx hb dX10_knownBy_64 rfl (lv_at hl 0 rfl) ?_
      refine lv_iload_n hx hb dX10_knownBy_65 rfl (lv_at hl 2 rfl) ?_
      refine cR_Vip (rest := [.int x4]) ⟨hx, hb, hml, hown, hts⟩ (c_X10_isSeen l Γ hI x5 σ _ hw) (cwV 1 hts gX10_knownBy_X10_isSeen rfl rfl rfl (by decide +kernel) ⟨Nat.le_of_ble_eq_true rfl, Nat.le_of_ble_eq_true rfl⟩) hK hN hP (cR_lt hR_0 (by decide)) (cR_E10 hR_0) rfl rfl rfl hl.1 rfl (Nat.le_of_ble_eq_true rfl) dX10_knownBy_66 ⟨Nat.le_refl _, Nat.le_refl _⟩ (fun r7 H locs hw hP => ?_)
      refine ft_cut (hw (∀ (H : Heap) (locs : List Loc) (ls : Array Slot), cR_P Γ s σ H locs → lv_has ls 4 [(0, .ref (Γ.2.2 0)), (3, .int x5)] → cR_Wi p l e ({ frames := 2, cells := 0, slots := 0, locals := 48 } : Room) s m [.ref (Γ.2.2 0), .int a1] below meth c Γ (fun r u => u = σ ∧ Φ r) H locs 92 ls [.int x4]) (fun  hw H locs ls hP hl => ?_)) (fun hw => ?_)
      · refine lv_iconst (v := 0) hx hb dX10_knownBy_92 (by decide) ?_
        refine lv_ior hx hb dX10_knownBy_93 ?_
        refine lv_istore_n (lv' := [(2, .int (x4 ||| 0)), (0, .ref (Γ.2.2 0)), (3, .int x5)]) hx hb dX10_knownBy_94 rfl hl (by decide) rfl (fun ls hl => ?_)
        refine lv_iinc (v := x5 + 1) (lv' := [(3, .int (x5 + 1)), (2, .int (x4 ||| 0)), (0, .ref (Γ.2.2 0))]) hx hb dX10_knownBy_95 hl (k := 2) rfl (congrArg (fun z => x5 + z) (by decide)) (by decide) rfl (fun ls hl => ?_)
        refine lv_goto (tgt := 57) hx hb dX10_knownBy_98 (by decide) ?_
        exact hw _ _ _ hP (lv_sub hl [2, 1, 0] rfl)
      · refine lv_if_eq (tgt := 92) hx hb dX10_knownBy_69 (by decide) (fun h => ?_) (fun h => ?_)
        · replace hw := hw.1 h
          exact hw _ _ _ hP (lv_sub hl [0, 2] rfl)
        · replace hw := hw.2 h
          refine lv_aload_n hx hb dX10_knownBy_72 rfl (lv_at hl 0 rfl) ?_
          refine lv_aload_n hx hb dX10_knownBy_73 rfl (lv_at hl 0 rfl) ?_
          refine gR_10_7 hx hb hts i10 hown hK hP hR_0 (hts _ q_X10_knownBy_1) dX10_knownBy_74 ?_
          refine lv_iconst (v := 1) hx hb dX10_knownBy_77 (by decide) ?_
          refine lv_iload_n hx hb dX10_knownBy_78 rfl (lv_at hl 2 rfl) ?_
          refine lv_ishl hx hb dX10_knownBy_79 ?_
          refine cR_Vip (rest := [.int x4]) ⟨hx, hb, hml, hown, hts⟩ (c_X10_stepped l Γ hI (σ.1 0 7) (1 <<< (x5 &&& 31)) σ _ hw) (cwV 2 hts gX10_knownBy_X10_stepped rfl rfl rfl (by decide +kernel) ⟨Nat.le_of_ble_eq_true rfl, Nat.le_of_ble_eq_true rfl⟩) hK hN hP (cR_lt hR_0 (by decide)) (cR_E10 hR_0) rfl rfl rfl hl.1 rfl (Nat.le_of_ble_eq_true rfl) dX10_knownBy_80 ⟨Nat.le_refl _, Nat.le_refl _⟩ (fun r9 H locs hw hP => ?_)
          refine lv_if_eq (tgt := 92) hx hb dX10_knownBy_83 (by decide) (fun h => ?_) (fun h => ?_)
          · replace hw := hw.1 h
            exact hw _ _ _ hP (lv_sub hl [0, 2] rfl)
          · replace hw := hw.2 h
            refine lv_iconst (v := 1) hx hb dX10_knownBy_86 (by decide) ?_
            refine lv_iload_n hx hb dX10_knownBy_87 rfl (lv_at hl 2 rfl) ?_
            refine lv_ishl hx hb dX10_knownBy_88 ?_
            refine lv_goto (tgt := 93) hx hb dX10_knownBy_89 (by decide) ?_
            refine lv_ior hx hb dX10_knownBy_93 ?_
            refine lv_istore_n (lv' := [(2, .int (x4 ||| (1 <<< (x5 &&& 31)))), (0, .ref (Γ.2.2 0)), (3, .int x5)]) hx hb dX10_knownBy_94 rfl hl (by decide) rfl (fun ls hl => ?_)
            refine lv_iinc (v := x5 + 1) (lv' := [(3, .int (x5 + 1)), (2, .int (x4 ||| (1 <<< (x5 &&& 31)))), (0, .ref (Γ.2.2 0))]) hx hb dX10_knownBy_95 hl (k := 2) rfl (congrArg (fun z => x5 + z) (by decide)) (by decide) rfl (fun ls hl => ?_)
            refine lv_goto (tgt := 57) hx hb dX10_knownBy_98 (by decide) ?_
            exact hw _ _ _ hP (lv_sub hl [2, 1, 0] rfl)
set_option maxHeartbeats 4000000 in
set_option maxRecDepth 100000 in
theorem c_X10_known (l : Launch) (Γ : ft_G) (hI : cR_I Γ) (a1 : Int32) (σ : ft_St) (Φ : Int32 → ft_St → Prop) (hw : w_X10_known a1 σ Φ) : cR_Mi l yX10_known wsX10_known ({ frames := 3, cells := 0, slots := 0, locals := 71 } : Room) Γ σ [.ref (Γ.2.2 0), .int a1] Φ := by
  refine Met.ofW (cc := cX10_known) (maxL := 2) (ret := (some .int)) (by decide) rfl ?_
  intro p e s m args below meth c s₁ B hml hv
  obtain ⟨rfl, hP, hK, hN⟩ := hv
  have hx := B.exec
  have hb := B.bytes
  have hr := B.returns
  have hts := atoms_spec (ws := wsX10_known) B.pre
  have hown : s.vm.findClass RX10 = some m.cls := findClass_of_methodNamed B.named
  have hlocks := B.notSynchronized
  have hP : cR_P Γ s σ s.heap [] := ⟨hP, va_S.rf⟩
  have hl := lv_entry ([.ref (Γ.2.2 0), .int a1]) (n := 2) (Nat.le_of_ble_eq_true rfl)
  rw [lg_entry_eq]
  generalize (lg_sl ([.ref (Γ.2.2 0), .int a1]) ++ List.replicate (2 - (lg_sl ([.ref (Γ.2.2 0), .int a1])).length) Slot.unset).toArray = ls at hl ⊢
  have hl : lv_has ls 2 [(0, .ref (Γ.2.2 0)), (1, .int a1)] := hl
  unfold w_X10_known at hw
  refine lv_iload_n hx hb dX10_known_0 rfl (lv_at hl 1 rfl) ?_
  refine lv_iconst (v := 0) hx hb dX10_known_1 (by decide) ?_
  refine lv_iconst (v := 4) hx hb dX10_known_2 (by decide) ?_
  refine cR_Sip (rest := []) ⟨hx, hb, hml, hown, hts⟩ (c_X10_in l Γ hI a1 0 4 σ _ hw) (va_cwS 3 hts gX10_known_X10_in rfl rfl rfl (by decide +kernel) ⟨Nat.le_of_ble_eq_true rfl, Nat.le_of_ble_eq_true rfl⟩) hK hN hP rfl hl.1 rfl (Nat.le_of_ble_eq_true rfl) dX10_known_3 ⟨Nat.le_refl _, Nat.le_refl _⟩ (fun r1 H locs hw hP => ?_)
  refine lv_if_eq (tgt := 17) hx hb dX10_known_6 (by decide) (fun h => ?_) (fun h => ?_)
  · replace hw := hw.1 h
    refine lv_aload_n hx hb dX10_known_17 rfl (lv_at hl 0 rfl) ?_
    refine cR_Vi (rest := []) ⟨hx, hb, hml, hown, hts⟩ (c_X10_bad l Γ hI  σ _ hw) (cwV 0 hts gX10_known_X10_bad rfl rfl rfl (by decide +kernel) ⟨Nat.le_of_ble_eq_true rfl, Nat.le_of_ble_eq_true rfl⟩) hK hN hP (cR_lt hR_0 (by decide)) (cR_E10 hR_0) rfl rfl rfl hl.1 rfl (Nat.le_of_ble_eq_true rfl) dX10_known_18 ⟨Nat.le_refl _, Nat.le_refl _⟩ (fun r2 s3 H locs hw hP => ?_)
    exact W.iret hx hb hr (cR_ri hP hw) hP.2.2.2 dX10_known_21
  · replace hw := hw.2 h
    refine lv_aload_n hx hb dX10_known_9 rfl (lv_at hl 0 rfl) ?_
    refine lv_iload_n hx hb dX10_known_10 rfl (lv_at hl 1 rfl) ?_
    refine cR_Vip (rest := []) ⟨hx, hb, hml, hown, hts⟩ (c_X10_knownBy l Γ hI a1 σ _ hw) (cwV 1 hts gX10_known_X10_knownBy rfl rfl rfl (by decide +kernel) ⟨Nat.le_of_ble_eq_true rfl, Nat.le_of_ble_eq_true rfl⟩) hK hN hP (cR_lt hR_0 (by decide)) (cR_E10 hR_0) rfl rfl rfl hl.1 rfl (Nat.le_of_ble_eq_true rfl) dX10_known_11 ⟨Nat.le_refl _, Nat.le_refl _⟩ (fun r4 H locs hw hP => ?_)
    refine lv_goto (tgt := 21) hx hb dX10_known_14 (by decide) ?_
    exact W.iret hx hb hr (cR_ri hP hw) hP.2.2.2 dX10_known_21
theorem q_X10_would_1 : (Cond.fieldLink RX10 26 "FaultTwinsModel" "known" "I") ∈ wsX10_would := List.mem_of_getElem? (i := 1) (by decide +kernel)
set_option maxHeartbeats 4000000 in
set_option maxRecDepth 100000 in
theorem c_X10_would (l : Launch) (Γ : ft_G) (hI : cR_I Γ) (a1 : Int32) (σ : ft_St) (Φ : Int32 → ft_St → Prop) (hw : w_X10_would a1 σ Φ) : cR_Mi l yX10_would wsX10_would ({ frames := 4, cells := 0, slots := 0, locals := 93 } : Room) Γ σ [.ref (Γ.2.2 0), .int a1] Φ := by
  refine Met.ofW (cc := cX10_would) (maxL := 3) (ret := (some .int)) (by decide) rfl ?_
  intro p e s m args below meth c s₁ B hml hv
  obtain ⟨rfl, hP, hK, hN⟩ := hv
  have hx := B.exec
  have hb := B.bytes
  have hr := B.returns
  have hts := atoms_spec (ws := wsX10_would) B.pre
  have hown : s.vm.findClass RX10 = some m.cls := findClass_of_methodNamed B.named
  have hlocks := B.notSynchronized
  have i10 : ∀ w ∈ wsX100, w ∈ wsX10_would := fun w h => List.mem_cons_of_mem _ (List.mem_append_right _ h)
  have hP : cR_P Γ s σ s.heap [] := ⟨hP, va_S.rf⟩
  have hl := lv_entry ([.ref (Γ.2.2 0), .int a1]) (n := 3) (Nat.le_of_ble_eq_true rfl)
  rw [lg_entry_eq]
  generalize (lg_sl ([.ref (Γ.2.2 0), .int a1]) ++ List.replicate (3 - (lg_sl ([.ref (Γ.2.2 0), .int a1])).length) Slot.unset).toArray = ls at hl ⊢
  have hl : lv_has ls 3 [(0, .ref (Γ.2.2 0)), (1, .int a1)] := hl
  unfold w_X10_would at hw
  refine lv_iload_n hx hb dX10_would_0 rfl (lv_at hl 1 rfl) ?_
  refine cR_Sip (rest := []) ⟨hx, hb, hml, hown, hts⟩ (c_X10_isDeed l Γ hI a1 σ _ hw) (va_cwS 1 hts gX10_would_X10_isDeed rfl rfl rfl (by decide +kernel) ⟨Nat.le_of_ble_eq_true rfl, Nat.le_of_ble_eq_true rfl⟩) hK hN hP rfl hl.1 rfl (Nat.le_of_ble_eq_true rfl) dX10_would_1 ⟨Nat.le_refl _, Nat.le_refl _⟩ (fun r1 H locs hw hP => ?_)
  refine lv_if_ne (tgt := 12) hx hb dX10_would_4 (by decide) (fun h => ?_) (fun h => ?_)
  · replace hw := hw.1 h
    refine lv_aload_n hx hb dX10_would_12 rfl (lv_at hl 0 rfl) ?_
    refine lv_iload_n hx hb dX10_would_13 rfl (lv_at hl 1 rfl) ?_
    refine cR_Vip (rest := []) ⟨hx, hb, hml, hown, hts⟩ (c_X10_isSeen l Γ hI a1 σ _ hw) (cwV 1 hts gX10_would_X10_isSeen rfl rfl rfl (by decide +kernel) ⟨Nat.le_of_ble_eq_true rfl, Nat.le_of_ble_eq_true rfl⟩) hK hN hP (cR_lt hR_0 (by decide)) (cR_E10 hR_0) rfl rfl rfl hl.1 rfl (Nat.le_of_ble_eq_true rfl) dX10_would_14 ⟨Nat.le_refl _, Nat.le_refl _⟩ (fun r2 H locs hw hP => ?_)
    refine lv_if_ne (tgt := 25) hx hb dX10_would_17 (by decide) (fun h => ?_) (fun h => ?_)
    · replace hw := hw.1 h
      refine lv_aload_n hx hb dX10_would_25 rfl (lv_at hl 0 rfl) ?_
      refine lv_aload_n hx hb dX10_would_26 rfl (lv_at hl 0 rfl) ?_
      refine gR_10_7 hx hb hts i10 hown hK hP hR_0 (hts _ q_X10_would_1) dX10_would_27 ?_
      refine lv_iload_n hx hb dX10_would_30 rfl (lv_at hl 1 rfl) ?_
      refine cR_Vip (rest := []) ⟨hx, hb, hml, hown, hts⟩ (c_X10_sawBy l Γ hI (σ.1 0 7) a1 σ _ hw) (cwV 2 hts gX10_would_X10_sawBy rfl rfl rfl (by decide +kernel) ⟨Nat.le_of_ble_eq_true rfl, Nat.le_of_ble_eq_true rfl⟩) hK hN hP (cR_lt hR_0 (by decide)) (cR_E10 hR_0) rfl rfl rfl hl.1 rfl (Nat.le_of_ble_eq_true rfl) dX10_would_31 ⟨Nat.le_refl _, Nat.le_refl _⟩ (fun r3 H locs hw hP => ?_)
      refine lv_istore_n (lv' := [(2, .int r3), (0, .ref (Γ.2.2 0)), (1, .int a1)]) hx hb dX10_would_34 rfl hl (by decide) rfl (fun ls hl => ?_)
      refine lv_iload_n hx hb dX10_would_35 rfl (lv_at hl 0 rfl) ?_
      refine lv_if_ne (tgt := 43) hx hb dX10_would_36 (by decide) (fun h => ?_) (fun h => ?_)
      · replace hw := hw.1 h
        refine lv_iload_n hx hb dX10_would_43 rfl (lv_at hl 0 rfl) ?_
        refine cR_Sip (rest := []) ⟨hx, hb, hml, hown, hts⟩ (c_X10_verdict l Γ hI r3 σ _ hw) (va_cwS 1 hts gX10_would_X10_verdict rfl rfl rfl (by decide +kernel) ⟨Nat.le_of_ble_eq_true rfl, Nat.le_of_ble_eq_true rfl⟩) hK hN hP rfl hl.1 rfl (Nat.le_of_ble_eq_true rfl) dX10_would_44 ⟨Nat.le_refl _, Nat.le_refl _⟩ (fun r4 H locs hw hP => ?_)
        exact W.iret hx hb hr (cR_ri hP hw) hP.2.2.2 dX10_would_47
      · replace hw := hw.2 h
        refine lv_iconst (v := (-1)) hx hb dX10_would_39 (by decide) ?_
        refine lv_goto (tgt := 47) hx hb dX10_would_40 (by decide) ?_
        exact W.iret hx hb hr (cR_ri hP hw) hP.2.2.2 dX10_would_47
    · replace hw := hw.2 h
      refine lv_aload_n hx hb dX10_would_20 rfl (lv_at hl 0 rfl) ?_
      refine cR_Vi (rest := []) ⟨hx, hb, hml, hown, hts⟩ (c_X10_no l Γ hI  σ _ hw) (cwV 0 hts gX10_would_X10_no rfl rfl rfl (by decide +kernel) ⟨Nat.le_of_ble_eq_true rfl, Nat.le_of_ble_eq_true rfl⟩) hK hN hP (cR_lt hR_0 (by decide)) (cR_E10 hR_0) rfl rfl rfl hl.1 rfl (Nat.le_of_ble_eq_true rfl) dX10_would_21 ⟨Nat.le_refl _, Nat.le_refl _⟩ (fun r5 s6 H locs hw hP => ?_)
      exact W.iret hx hb hr (cR_ri hP hw) hP.2.2.2 dX10_would_24
  · replace hw := hw.2 h
    refine lv_aload_n hx hb dX10_would_7 rfl (lv_at hl 0 rfl) ?_
    refine cR_Vi (rest := []) ⟨hx, hb, hml, hown, hts⟩ (c_X10_bad l Γ hI  σ _ hw) (cwV 0 hts gX10_would_X10_bad rfl rfl rfl (by decide +kernel) ⟨Nat.le_of_ble_eq_true rfl, Nat.le_of_ble_eq_true rfl⟩) hK hN hP (cR_lt hR_0 (by decide)) (cR_E10 hR_0) rfl rfl rfl hl.1 rfl (Nat.le_of_ble_eq_true rfl) dX10_would_8 ⟨Nat.le_refl _, Nat.le_refl _⟩ (fun r7 s8 H locs hw hP => ?_)
    exact W.iret hx hb hr (cR_ri hP hw) hP.2.2.2 dX10_would_11
theorem q_X10_sight_1 : (Cond.fieldLink RX10 76 "FaultTwinsModel" "sights" "I") ∈ wsX10_sight := List.mem_of_getElem? (i := 1) (by decide +kernel)
theorem q_X10_sight_2 : (Cond.fieldLink RX10 29 "FaultTwinsModel" "sight" "[I") ∈ wsX10_sight := List.mem_of_getElem? (i := 2) (by decide +kernel)
set_option maxHeartbeats 4000000 in
set_option maxRecDepth 100000 in
theorem c_X10_sight (l : Launch) (Γ : ft_G) (hI : cR_I Γ) (a1 : Int32) (σ : ft_St) (Φ : Int32 → ft_St → Prop) (hw : w_X10_sight a1 σ Φ) : cR_Mi l yX10_sight wsX10_sight ({ frames := 1, cells := 0, slots := 0, locals := 20 } : Room) Γ σ [.ref (Γ.2.2 0), .int a1] Φ := by
  refine Met.ofW (cc := cX10_sight) (maxL := 2) (ret := (some .int)) (by decide) rfl ?_
  intro p e s m args below meth c s₁ B hml hv
  obtain ⟨rfl, hP, hK, hN⟩ := hv
  have hx := B.exec
  have hb := B.bytes
  have hr := B.returns
  have hts := atoms_spec (ws := wsX10_sight) B.pre
  have hown : s.vm.findClass RX10 = some m.cls := findClass_of_methodNamed B.named
  have hlocks := B.notSynchronized
  have i10 : ∀ w ∈ wsX100, w ∈ wsX10_sight := fun w h => List.mem_cons_of_mem _ (List.mem_append_right _ h)
  have hP : cR_P Γ s σ s.heap [] := ⟨hP, va_S.rf⟩
  have hl := lv_entry ([.ref (Γ.2.2 0), .int a1]) (n := 2) (Nat.le_of_ble_eq_true rfl)
  rw [lg_entry_eq]
  generalize (lg_sl ([.ref (Γ.2.2 0), .int a1]) ++ List.replicate (2 - (lg_sl ([.ref (Γ.2.2 0), .int a1])).length) Slot.unset).toArray = ls at hl ⊢
  have hl : lv_has ls 2 [(0, .ref (Γ.2.2 0)), (1, .int a1)] := hl
  unfold w_X10_sight at hw
  refine lv_iload_n hx hb dX10_sight_0 rfl (lv_at hl 1 rfl) ?_
  refine lv_if_ge (tgt := 9) hx hb dX10_sight_1 (by decide) (fun h => ?_) (fun h => ?_)
  · replace hw := hw.1 h
    refine lv_iload_n hx hb dX10_sight_9 rfl (lv_at hl 1 rfl) ?_
    refine lv_aload_n hx hb dX10_sight_10 rfl (lv_at hl 0 rfl) ?_
    refine gR_10_8 hx hb hts i10 hown hK hP hR_0 (hts _ q_X10_sight_1) dX10_sight_11 ?_
    refine lv_icmp_ge (tgt := 26) hx hb dX10_sight_14 (by decide) (fun h => ?_) (fun h => ?_)
    · replace hw := hw.1 h
      refine lv_iconst (v := (-1)) hx hb dX10_sight_26 (by decide) ?_
      exact W.iret hx hb hr (cR_ri hP hw) hP.2.2.2 dX10_sight_27
    · replace hw := hw.2 h
      refine lv_aload_n hx hb dX10_sight_17 rfl (lv_at hl 0 rfl) ?_
      refine gR_10_9 hx hb hts i10 hown hK hP hR_0 (hts _ q_X10_sight_2) dX10_sight_18 ?_
      refine lv_iload_n hx hb dX10_sight_21 rfl (lv_at hl 1 rfl) ?_
      refine aR_ld hx hb hK hP hR_5 mR_5 hw.1 dX10_sight_22 ?_
      replace hw := hw.2
      refine lv_goto (tgt := 27) hx hb dX10_sight_23 (by decide) ?_
      exact W.iret hx hb hr (cR_ri hP hw) hP.2.2.2 dX10_sight_27
  · replace hw := hw.2 h
    refine lv_aload_n hx hb dX10_sight_4 rfl (lv_at hl 0 rfl) ?_
    refine cR_Vi (rest := []) ⟨hx, hb, hml, hown, hts⟩ (c_X10_bad l Γ hI  σ _ hw) (cwV 0 hts gX10_sight_X10_bad rfl rfl rfl (by decide +kernel) ⟨Nat.le_of_ble_eq_true rfl, Nat.le_of_ble_eq_true rfl⟩) hK hN hP (cR_lt hR_0 (by decide)) (cR_E10 hR_0) rfl rfl rfl hl.1 rfl (Nat.le_of_ble_eq_true rfl) dX10_sight_5 ⟨Nat.le_refl _, Nat.le_refl _⟩ (fun r1 s2 H locs hw hP => ?_)
    exact W.iret hx hb hr (cR_ri hP hw) hP.2.2.2 dX10_sight_8
set_option maxHeartbeats 4000000 in
set_option maxRecDepth 100000 in
theorem c_X10_allMarks (l : Launch) (Γ : ft_G) (hI : cR_I Γ)  (σ : ft_St) (Φ : Int32 → Prop) (hw : w_X10_allMarks  σ Φ) : cR_Mip l yX10_allMarks wsX10_allMarks ({ frames := 2, cells := 0, slots := 0, locals := 48 } : Room) Γ σ [.ref (Γ.2.2 0)] Φ := by
  refine Met.ofW (cc := cX10_allMarks) (maxL := 3) (ret := (some .int)) (by decide) rfl ?_
  intro p e s m args below meth c s₁ B hml hv
  obtain ⟨rfl, hP, hK, hN⟩ := hv
  have hx := B.exec
  have hb := B.bytes
  have hr := B.returns
  have hts := atoms_spec (ws := wsX10_allMarks) B.pre
  have hown : s.vm.findClass RX10 = some m.cls := findClass_of_methodNamed B.named
  have hlocks := B.notSynchronized
  have hP : cR_P Γ s σ s.heap [] := ⟨hP, va_S.rf⟩
  have hl := lv_entry ([.ref (Γ.2.2 0)]) (n := 3) (Nat.le_of_ble_eq_true rfl)
  rw [lg_entry_eq]
  generalize (lg_sl ([.ref (Γ.2.2 0)]) ++ List.replicate (3 - (lg_sl ([.ref (Γ.2.2 0)])).length) Slot.unset).toArray = ls at hl ⊢
  have hl : lv_has ls 3 [(0, .ref (Γ.2.2 0))] := hl
  unfold w_X10_allMarks at hw
  refine lv_iconst (v := 1) hx hb dX10_allMarks_0 (by decide) ?_
  refine lv_istore_n (lv' := [(1, .int 1), (0, .ref (Γ.2.2 0))]) hx hb dX10_allMarks_1 rfl hl (by decide) rfl (fun ls hl => ?_)
  refine lv_iconst (v := 0) hx hb dX10_allMarks_2 (by decide) ?_
  refine lv_istore_n (lv' := [(2, .int 0), (1, .int 1), (0, .ref (Γ.2.2 0))]) hx hb dX10_allMarks_3 rfl hl (by decide) rfl (fun ls hl => ?_)
  refine hw (fun (x1 : Int32) (x2 : Int32) => ∀ (H : Heap) (locs : List Loc) (ls : Array Slot), cR_P Γ s σ H locs → lv_has ls 3 [(0, .ref (Γ.2.2 0)), (1, .int x1), (2, .int x2)] → cR_Wi p l e ({ frames := 2, cells := 0, slots := 0, locals := 48 } : Room) s m [.ref (Γ.2.2 0)] below meth c Γ (fun r u => u = σ ∧ Φ r) H locs 4 ls []) (fun x1 x2 hw H locs ls hP hl => ?_) _ _ _ hP (lv_sub hl [2, 1, 0] rfl)
  refine lv_iload_n hx hb dX10_allMarks_4 rfl (lv_at hl 2 rfl) ?_
  refine lv_iload_n hx hb dX10_allMarks_5 rfl (lv_at hl 1 rfl) ?_
  refine lv_icmp_eq (tgt := 25) hx hb dX10_allMarks_6 (by decide) (fun h => ?_) (fun h => ?_)
  · replace hw := hw.1 h
    refine lv_iload_n hx hb dX10_allMarks_25 rfl (lv_at hl 1 rfl) ?_
    exact W.iret hx hb hr (cR_ri hP ⟨rfl, hw⟩) hP.2.2.2 dX10_allMarks_26
  · replace hw := hw.2 h
    refine lv_iload_n hx hb dX10_allMarks_9 rfl (lv_at hl 1 rfl) ?_
    refine lv_istore_n (lv' := [(2, .int x1), (0, .ref (Γ.2.2 0)), (1, .int x1)]) hx hb dX10_allMarks_10 rfl hl (by decide) rfl (fun ls hl => ?_)
    refine lv_iload_n hx hb dX10_allMarks_11 rfl (lv_at hl 2 rfl) ?_
    refine lv_aload_n hx hb dX10_allMarks_12 rfl (lv_at hl 1 rfl) ?_
    refine lv_iload_n hx hb dX10_allMarks_13 rfl (lv_at hl 2 rfl) ?_
    refine lv_sipush (v := 255) hx hb dX10_allMarks_14 (by decide) ?_
    refine cR_Vip (rest := [.int x1]) ⟨hx, hb, hml, hown, hts⟩ (c_X10_stepped l Γ hI x1 255 σ _ hw) (cwV 2 hts gX10_allMarks_X10_stepped rfl rfl rfl (by decide +kernel) ⟨Nat.le_of_ble_eq_true rfl, Nat.le_of_ble_eq_true rfl⟩) hK hN hP (cR_lt hR_0 (by decide)) (cR_E10 hR_0) rfl rfl rfl hl.1 rfl (Nat.le_of_ble_eq_true rfl) dX10_allMarks_17 ⟨Nat.le_refl _, Nat.le_refl _⟩ (fun r4 H locs hw hP => ?_)
    refine lv_ior hx hb dX10_allMarks_20 ?_
    refine lv_istore_n (lv' := [(1, .int (x1 ||| r4)), (2, .int x1), (0, .ref (Γ.2.2 0))]) hx hb dX10_allMarks_21 rfl hl (by decide) rfl (fun ls hl => ?_)
    refine lv_goto (tgt := 4) hx hb dX10_allMarks_22 (by decide) ?_
    exact hw _ _ _ hP (lv_sub hl [2, 0, 1] rfl)
theorem q_X10_of_1 : (Cond.fieldLink RX10 70 "FaultTwinsModel" "many" "I") ∈ wsX10_of := List.mem_of_getElem? (i := 1) (by decide +kernel)
theorem q_X10_of_2 : (Cond.fieldLink RX10 13 "FaultTwinsModel" "from" "[I") ∈ wsX10_of := List.mem_of_getElem? (i := 2) (by decide +kernel)
theorem q_X10_of_3 : (Cond.fieldLink RX10 16 "FaultTwinsModel" "by" "[I") ∈ wsX10_of := List.mem_of_getElem? (i := 3) (by decide +kernel)
theorem q_X10_of_4 : (Cond.fieldLink RX10 19 "FaultTwinsModel" "to" "[I") ∈ wsX10_of := List.mem_of_getElem? (i := 4) (by decide +kernel)
set_option maxHeartbeats 4000000 in
set_option maxRecDepth 100000 in
theorem c_X10_of (l : Launch) (Γ : ft_G) (hI : cR_I Γ) (a1 : Int32) (a2 : Int32) (σ : ft_St) (Φ : Int32 → ft_St → Prop) (hw : w_X10_of a1 a2 σ Φ) : cR_Mi l yX10_of wsX10_of ({ frames := 3, cells := 0, slots := 0, locals := 70 } : Room) Γ σ [.ref (Γ.2.2 0), .int a1, .int a2] Φ := by
  refine Met.ofW (cc := cX10_of) (maxL := 4) (ret := (some .int)) (by decide) rfl ?_
  intro p e s m args below meth c s₁ B hml hv
  obtain ⟨rfl, hP, hK, hN⟩ := hv
  have hx := B.exec
  have hb := B.bytes
  have hr := B.returns
  have hts := atoms_spec (ws := wsX10_of) B.pre
  have hown : s.vm.findClass RX10 = some m.cls := findClass_of_methodNamed B.named
  have hlocks := B.notSynchronized
  have i10 : ∀ w ∈ wsX100, w ∈ wsX10_of := fun w h => List.mem_cons_of_mem _ (List.mem_append_right _ h)
  have hP : cR_P Γ s σ s.heap [] := ⟨hP, va_S.rf⟩
  have hl := lv_entry ([.ref (Γ.2.2 0), .int a1, .int a2]) (n := 4) (Nat.le_of_ble_eq_true rfl)
  rw [lg_entry_eq]
  generalize (lg_sl ([.ref (Γ.2.2 0), .int a1, .int a2]) ++ List.replicate (4 - (lg_sl ([.ref (Γ.2.2 0), .int a1, .int a2])).length) Slot.unset).toArray = ls at hl ⊢
  have hl : lv_has ls 4 [(0, .ref (Γ.2.2 0)), (1, .int a1), (2, .int a2)] := hl
  unfold w_X10_of at hw
  refine lv_iload_n hx hb dX10_of_0 rfl (lv_at hl 1 rfl) ?_
  refine lv_iconst (v := 0) hx hb dX10_of_1 (by decide) ?_
  refine lv_aload_n hx hb dX10_of_2 rfl (lv_at hl 0 rfl) ?_
  refine gR_10_1 hx hb hts i10 hown hK hP hR_0 (hts _ q_X10_of_1) dX10_of_3 ?_
  refine lv_iconst (v := 1) hx hb dX10_of_6 (by decide) ?_
  refine lv_isub hx hb dX10_of_7 ?_
  refine cR_Sip (rest := []) ⟨hx, hb, hml, hown, hts⟩ (c_X10_in l Γ hI a1 0 ((σ.1 0 1) - 1) σ _ hw) (va_cwS 3 hts gX10_of_X10_in rfl rfl rfl (by decide +kernel) ⟨Nat.le_of_ble_eq_true rfl, Nat.le_of_ble_eq_true rfl⟩) hK hN hP rfl hl.1 rfl (Nat.le_of_ble_eq_true rfl) dX10_of_8 ⟨Nat.le_refl _, Nat.le_refl _⟩ (fun r1 H locs hw hP => ?_)
  refine ft_cut (hw (∀ (H : Heap) (locs : List Loc) (ls : Array Slot), cR_P Γ s σ H locs → lv_has ls 4 [(0, .ref (Γ.2.2 0))] → cR_Wi p l e ({ frames := 3, cells := 0, slots := 0, locals := 70 } : Room) s m [.ref (Γ.2.2 0), .int a1, .int a2] below meth c Γ Φ H locs 23 ls []) (fun  hw H locs ls hP hl => ?_)) (fun hw => ?_)
  · refine lv_aload_n hx hb dX10_of_23 rfl (lv_at hl 0 rfl) ?_
    refine cR_Vi (rest := []) ⟨hx, hb, hml, hown, hts⟩ (c_X10_bad l Γ hI  σ _ hw) (cwV 0 hts gX10_of_X10_bad rfl rfl rfl (by decide +kernel) ⟨Nat.le_of_ble_eq_true rfl, Nat.le_of_ble_eq_true rfl⟩) hK hN hP (cR_lt hR_0 (by decide)) (cR_E10 hR_0) rfl rfl rfl hl.1 rfl (Nat.le_of_ble_eq_true rfl) dX10_of_24 ⟨Nat.le_refl _, Nat.le_refl _⟩ (fun r3 s4 H locs hw hP => ?_)
    exact W.iret hx hb hr (cR_ri hP hw) hP.2.2.2 dX10_of_27
  · refine lv_if_eq (tgt := 23) hx hb dX10_of_11 (by decide) (fun h => ?_) (fun h => ?_)
    · replace hw := hw.1 h
      exact hw _ _ _ hP (lv_sub hl [0] rfl)
    · replace hw := hw.2 h
      refine lv_iload_n hx hb dX10_of_14 rfl (lv_at hl 2 rfl) ?_
      refine lv_iconst (v := 0) hx hb dX10_of_15 (by decide) ?_
      refine lv_iconst (v := 3) hx hb dX10_of_16 (by decide) ?_
      refine cR_Sip (rest := []) ⟨hx, hb, hml, hown, hts⟩ (c_X10_in l Γ hI a2 0 3 σ _ hw) (va_cwS 3 hts gX10_of_X10_in rfl rfl rfl (by decide +kernel) ⟨Nat.le_of_ble_eq_true rfl, Nat.le_of_ble_eq_true rfl⟩) hK hN hP rfl hl.1 rfl (Nat.le_of_ble_eq_true rfl) dX10_of_17 ⟨Nat.le_refl _, Nat.le_refl _⟩ (fun r5 H locs hw hP => ?_)
      refine lv_if_ne (tgt := 28) hx hb dX10_of_20 (by decide) (fun h => ?_) (fun h => ?_)
      · replace hw := hw.1 h
        refine lv_iload_n hx hb dX10_of_28 rfl (lv_at hl 2 rfl) ?_
        refine lv_iconst (v := 3) hx hb dX10_of_29 (by decide) ?_
        refine lv_icmp_ne (tgt := 71) hx hb dX10_of_30 (by decide) (fun h => ?_) (fun h => ?_)
        · replace hw := hw.1 h
          refine lv_iload_n hx hb dX10_of_71 rfl (lv_at hl 2 rfl) ?_
          refine lv_if_ne (tgt := 84) hx hb dX10_of_72 (by decide) (fun h => ?_) (fun h => ?_)
          · replace hw := hw.1 h
            refine lv_iload_n hx hb dX10_of_84 rfl (lv_at hl 2 rfl) ?_
            refine lv_iconst (v := 1) hx hb dX10_of_85 (by decide) ?_
            refine lv_icmp_ne (tgt := 98) hx hb dX10_of_86 (by decide) (fun h => ?_) (fun h => ?_)
            · replace hw := hw.1 h
              refine lv_aload_n hx hb dX10_of_98 rfl (lv_at hl 0 rfl) ?_
              refine gR_10_4 hx hb hts i10 hown hK hP hR_0 (hts _ q_X10_of_4) dX10_of_99 ?_
              refine lv_iload_n hx hb dX10_of_102 rfl (lv_at hl 1 rfl) ?_
              refine aR_ld hx hb hK hP hR_4 mR_4 hw.1 dX10_of_103 ?_
              replace hw := hw.2
              exact W.iret hx hb hr (cR_ri hP hw) hP.2.2.2 dX10_of_104
            · replace hw := hw.2 h
              refine lv_aload_n hx hb dX10_of_89 rfl (lv_at hl 0 rfl) ?_
              refine gR_10_3 hx hb hts i10 hown hK hP hR_0 (hts _ q_X10_of_3) dX10_of_90 ?_
              refine lv_iload_n hx hb dX10_of_93 rfl (lv_at hl 1 rfl) ?_
              refine aR_ld hx hb hK hP hR_3 mR_3 hw.1 dX10_of_94 ?_
              replace hw := hw.2
              refine lv_goto (tgt := 104) hx hb dX10_of_95 (by decide) ?_
              exact W.iret hx hb hr (cR_ri hP hw) hP.2.2.2 dX10_of_104
          · replace hw := hw.2 h
            refine lv_aload_n hx hb dX10_of_75 rfl (lv_at hl 0 rfl) ?_
            refine gR_10_2 hx hb hts i10 hown hK hP hR_0 (hts _ q_X10_of_2) dX10_of_76 ?_
            refine lv_iload_n hx hb dX10_of_79 rfl (lv_at hl 1 rfl) ?_
            refine aR_ld hx hb hK hP hR_2 mR_2 hw.1 dX10_of_80 ?_
            replace hw := hw.2
            refine lv_goto (tgt := 104) hx hb dX10_of_81 (by decide) ?_
            exact W.iret hx hb hr (cR_ri hP hw) hP.2.2.2 dX10_of_104
        · replace hw := hw.2 h
          refine lv_aload_n hx hb dX10_of_33 rfl (lv_at hl 0 rfl) ?_
          refine cR_Vip (rest := []) ⟨hx, hb, hml, hown, hts⟩ (c_X10_allMarks l Γ hI  σ _ hw) (cwV 0 hts gX10_of_X10_allMarks rfl rfl rfl (by decide +kernel) ⟨Nat.le_of_ble_eq_true rfl, Nat.le_of_ble_eq_true rfl⟩) hK hN hP (cR_lt hR_0 (by decide)) (cR_E10 hR_0) rfl rfl rfl hl.1 rfl (Nat.le_of_ble_eq_true rfl) dX10_of_34 ⟨Nat.le_refl _, Nat.le_refl _⟩ (fun r6 H locs hw hP => ?_)
          refine lv_istore_n (lv' := [(3, .int r6), (0, .ref (Γ.2.2 0)), (1, .int a1), (2, .int a2)]) hx hb dX10_of_37 rfl hl (by decide) rfl (fun ls hl => ?_)
          refine lv_iload_n hx hb dX10_of_38 rfl (lv_at hl 0 rfl) ?_
          refine lv_aload_n hx hb dX10_of_39 rfl (lv_at hl 1 rfl) ?_
          refine gR_10_2 hx hb hts i10 hown hK hP hR_0 (hts _ q_X10_of_2) dX10_of_40 ?_
          refine lv_iload_n hx hb dX10_of_43 rfl (lv_at hl 2 rfl) ?_
          refine aR_ld hx hb hK hP hR_2 mR_2 hw.1 dX10_of_44 ?_
          replace hw := hw.2
          refine lv_ishr hx hb dX10_of_45 ?_
          refine lv_iconst (v := 1) hx hb dX10_of_46 (by decide) ?_
          refine lv_iand hx hb dX10_of_47 ?_
          refine lv_iload_n hx hb dX10_of_48 rfl (lv_at hl 0 rfl) ?_
          refine lv_aload_n hx hb dX10_of_49 rfl (lv_at hl 1 rfl) ?_
          refine gR_10_2 hx hb hts i10 hown hK hP hR_0 (hts _ q_X10_of_2) dX10_of_50 ?_
          refine lv_iload_n hx hb dX10_of_53 rfl (lv_at hl 2 rfl) ?_
          refine aR_ld hx hb hK hP hR_2 mR_2 hw.1 dX10_of_54 ?_
          replace hw := hw.2
          refine lv_bipush (v := 10) hx hb dX10_of_55 (by decide) ?_
          refine lv_iadd hx hb dX10_of_57 ?_
          refine lv_ishr hx hb dX10_of_58 ?_
          refine lv_iconst (v := 1) hx hb dX10_of_59 (by decide) ?_
          refine lv_iand hx hb dX10_of_60 ?_
          refine lv_iadd hx hb dX10_of_61 ?_
          refine lv_if_le (tgt := 69) hx hb dX10_of_62 (by decide) (fun h => ?_) (fun h => ?_)
          · replace hw := hw.1 h
            refine lv_iconst (v := 0) hx hb dX10_of_69 (by decide) ?_
            exact W.iret hx hb hr (cR_ri hP hw) hP.2.2.2 dX10_of_70
          · replace hw := hw.2 h
            refine lv_iconst (v := 1) hx hb dX10_of_65 (by decide) ?_
            refine lv_goto (tgt := 70) hx hb dX10_of_66 (by decide) ?_
            exact W.iret hx hb hr (cR_ri hP hw) hP.2.2.2 dX10_of_70
      · replace hw := hw.2 h
        exact hw _ _ _ hP (lv_sub hl [0] rfl)
theorem q_X10_comesSet_1 : (Cond.fieldLink RX10 159 "FaultTwinsModel" "found" "I") ∈ wsX10_comesSet := List.mem_of_getElem? (i := 1) (by decide +kernel)
theorem q_X10_comesSet_2 : (Cond.fieldLink RX10 35 "FaultTwinsModel" "sets" "[I") ∈ wsX10_comesSet := List.mem_of_getElem? (i := 2) (by decide +kernel)
theorem q_X10_comesSet_3 : (Cond.fieldLink RX10 38 "FaultTwinsModel" "after" "[I") ∈ wsX10_comesSet := List.mem_of_getElem? (i := 3) (by decide +kernel)
set_option maxHeartbeats 4000000 in
set_option maxRecDepth 100000 in
theorem c_X10_comesSet (l : Launch) (Γ : ft_G) (hI : cR_I Γ) (a1 : Int32) (a2 : Int32) (σ : ft_St) (Φ : ft_St → Prop) (hw : w_X10_comesSet a1 a2 σ Φ) : cR_Mv l yX10_comesSet wsX10_comesSet ({ frames := 0, cells := 0, slots := 0, locals := 0 } : Room) Γ σ [.ref (Γ.2.2 0), .int a1, .int a2] Φ := by
  refine Met.ofW (cc := cX10_comesSet) (maxL := 5) (ret := none) (by decide) rfl ?_
  intro p e s m args below meth c s₁ B hml hv
  obtain ⟨rfl, hP, hK, hN⟩ := hv
  have hx := B.exec
  have hb := B.bytes
  have hr := B.returns
  have hts := atoms_spec (ws := wsX10_comesSet) B.pre
  have hown : s.vm.findClass RX10 = some m.cls := findClass_of_methodNamed B.named
  have hlocks := B.notSynchronized
  have i10 : ∀ w ∈ wsX100, w ∈ wsX10_comesSet := fun w h => List.mem_cons_of_mem _ (List.mem_append_right _ h)
  have hP : cR_P Γ s σ s.heap [] := ⟨hP, va_S.rf⟩
  have hl := lv_entry ([.ref (Γ.2.2 0), .int a1, .int a2]) (n := 5) (Nat.le_of_ble_eq_true rfl)
  rw [lg_entry_eq]
  generalize (lg_sl ([.ref (Γ.2.2 0), .int a1, .int a2]) ++ List.replicate (5 - (lg_sl ([.ref (Γ.2.2 0), .int a1, .int a2])).length) Slot.unset).toArray = ls at hl ⊢
  have hl : lv_has ls 5 [(0, .ref (Γ.2.2 0)), (1, .int a1), (2, .int a2)] := hl
  unfold w_X10_comesSet at hw
  refine lv_iload_n hx hb dX10_comesSet_0 rfl (lv_at hl 1 rfl) ?_
  refine ft_cut (hw (fun (x1 : Int32) => ∀ (H : Heap) (locs : List Loc) (ls : Array Slot), cR_P Γ s σ H locs → lv_has ls 5 [(0, .ref (Γ.2.2 0)), (1, .int a1), (2, .int a2)] → cR_Wv p l e ({ frames := 0, cells := 0, slots := 0, locals := 0 } : Room) s m [.ref (Γ.2.2 0), .int a1, .int a2] below meth c Γ Φ H locs 19 ls [.int x1]) (fun x1 hw H locs ls hP hl => ?_)) (fun hw => ?_)
  · refine lv_istore_n (lv' := [(3, .int x1), (0, .ref (Γ.2.2 0)), (1, .int a1), (2, .int a2)]) hx hb dX10_comesSet_19 rfl hl (by decide) rfl (fun ls hl => ?_)
    refine lv_iconst (v := 0) hx hb dX10_comesSet_20 (by decide) ?_
    refine lv_istore (lv' := [(4, .int 0), (3, .int x1), (0, .ref (Γ.2.2 0)), (1, .int a1), (2, .int a2)]) hx hb dX10_comesSet_21 hl (by decide) rfl (fun ls hl => ?_)
    refine hw (fun (x3 : Int32) (x4 : Int32) => ∀ (H : Heap) (locs : List Loc) (ls : Array Slot), cR_P Γ s σ H locs → lv_has ls 5 [(0, .ref (Γ.2.2 0)), (1, .int a1), (2, .int a2), (3, .int x3), (4, .int x4)] → cR_Wv p l e ({ frames := 0, cells := 0, slots := 0, locals := 0 } : Room) s m [.ref (Γ.2.2 0), .int a1, .int a2] below meth c Γ Φ H locs 23 ls []) (fun x3 x4 hw H locs ls hP hl => ?_) _ _ _ hP (lv_sub hl [2, 3, 4, 1, 0] rfl)
    refine lv_iload hx hb dX10_comesSet_23 (lv_at hl 4 rfl) ?_
    refine lv_aload_n hx hb dX10_comesSet_25 rfl (lv_at hl 0 rfl) ?_
    refine gR_10_12 hx hb hts i10 hown hK hP hR_0 (hts _ q_X10_comesSet_1) dX10_comesSet_26 ?_
    refine ft_cut (hw (∀ (H : Heap) (locs : List Loc) (ls : Array Slot), cR_P Γ s σ H locs → lv_has ls 5 [(0, .ref (Γ.2.2 0)), (1, .int a1), (2, .int a2), (3, .int x3)] → cR_Wv p l e ({ frames := 0, cells := 0, slots := 0, locals := 0 } : Room) s m [.ref (Γ.2.2 0), .int a1, .int a2] below meth c Γ Φ H locs 59 ls []) (fun  hw H locs ls hP hl => ?_)) (fun hw => ?_)
    · refine lv_iload_n hx hb dX10_comesSet_59 rfl (lv_at hl 3 rfl) ?_
      refine lv_if_eq (tgt := 93) hx hb dX10_comesSet_60 (by decide) (fun h => ?_) (fun h => ?_)
      · replace hw := hw.1 h
        exact W.vret hx hb hr (cR_rv hP hw) hP.2.2.2 dX10_comesSet_93
      · replace hw := hw.2 h
        refine lv_aload_n hx hb dX10_comesSet_63 rfl (lv_at hl 0 rfl) ?_
        refine gR_10_13 hx hb hts i10 hown hK hP hR_0 (hts _ q_X10_comesSet_2) dX10_comesSet_64 ?_
        refine lv_aload_n hx hb dX10_comesSet_67 rfl (lv_at hl 0 rfl) ?_
        refine gR_10_12 hx hb hts i10 hown hK hP hR_0 (hts _ q_X10_comesSet_1) dX10_comesSet_68 ?_
        refine lv_iload_n hx hb dX10_comesSet_71 rfl (lv_at hl 1 rfl) ?_
        refine aR_st hx hb hK hI hP hR_7 mR_7 hw.1 dX10_comesSet_72 (fun H locs hP => ?_)
        replace hw := hw.2
        obtain ⟨s7, hs7⟩ : ∃ u, u = ft_sA σ 7 (upd (σ.2.1 7) (Int32.toNatClampNeg (σ.1 0 12)) a1) := ⟨_, rfl⟩
        rw [← hs7] at hP
        replace hw := hw s7 hs7
        refine lv_aload_n hx hb dX10_comesSet_73 rfl (lv_at hl 0 rfl) ?_
        refine gR_10_14 hx hb hts i10 hown hK hP hR_0 (hts _ q_X10_comesSet_3) dX10_comesSet_74 ?_
        refine lv_aload_n hx hb dX10_comesSet_77 rfl (lv_at hl 0 rfl) ?_
        refine gR_10_12 hx hb hts i10 hown hK hP hR_0 (hts _ q_X10_comesSet_1) dX10_comesSet_78 ?_
        refine lv_iload_n hx hb dX10_comesSet_81 rfl (lv_at hl 2 rfl) ?_
        refine aR_st hx hb hK hI hP hR_8 mR_8 hw.1 dX10_comesSet_82 (fun H locs hP => ?_)
        replace hw := hw.2
        obtain ⟨s8, hs8⟩ : ∃ u, u = ft_sA s7 8 (upd (s7.2.1 8) (Int32.toNatClampNeg (s7.1 0 12)) a2) := ⟨_, rfl⟩
        rw [← hs8] at hP
        replace hw := hw s8 hs8
        refine lv_aload_n hx hb dX10_comesSet_83 rfl (lv_at hl 0 rfl) ?_
        refine lv_dup hx hb dX10_comesSet_84 rfl ?_
        refine gR_10_12 hx hb hts i10 hown hK hP hR_0 (hts _ q_X10_comesSet_1) dX10_comesSet_85 ?_
        refine lv_iconst (v := 1) hx hb dX10_comesSet_88 (by decide) ?_
        refine lv_iadd hx hb dX10_comesSet_89 ?_
        refine pR_10_12 hx hb hts i10 hown hK hI hP hR_0 (hts _ q_X10_comesSet_1) dX10_comesSet_90 (fun H locs hP => ?_)
        obtain ⟨s9, hs9⟩ : ∃ u, u = ft_sF s8 0 12 ((s8.1 0 12) + 1) := ⟨_, rfl⟩
        rw [← hs9] at hP
        replace hw := hw s9 hs9
        exact W.vret hx hb hr (cR_rv hP hw) hP.2.2.2 dX10_comesSet_93
    · refine lv_icmp_ge (tgt := 59) hx hb dX10_comesSet_29 (by decide) (fun h => ?_) (fun h => ?_)
      · replace hw := hw.1 h
        exact hw _ _ _ hP (lv_sub hl [0, 1, 2, 3] rfl)
      · replace hw := hw.2 h
        refine lv_iload_n hx hb dX10_comesSet_32 rfl (lv_at hl 3 rfl) ?_
        refine lv_if_eq (tgt := 59) hx hb dX10_comesSet_33 (by decide) (fun h => ?_) (fun h => ?_)
        · replace hw := hw.1 h
          exact hw _ _ _ hP (lv_sub hl [0, 1, 2, 3] rfl)
        · replace hw := hw.2 h
          refine lv_aload_n hx hb dX10_comesSet_36 rfl (lv_at hl 0 rfl) ?_
          refine gR_10_13 hx hb hts i10 hown hK hP hR_0 (hts _ q_X10_comesSet_2) dX10_comesSet_37 ?_
          refine lv_iload hx hb dX10_comesSet_40 (lv_at hl 4 rfl) ?_
          refine aR_ld hx hb hK hP hR_7 mR_7 hw.1 dX10_comesSet_42 ?_
          replace hw := hw.2
          refine lv_iload_n hx hb dX10_comesSet_43 rfl (lv_at hl 1 rfl) ?_
          refine lv_icmp_eq (tgt := 51) hx hb dX10_comesSet_44 (by decide) (fun h => ?_) (fun h => ?_)
          · replace hw := hw.1 h
            refine lv_iconst (v := 0) hx hb dX10_comesSet_51 (by decide) ?_
            refine lv_istore_n (lv' := [(3, .int 0), (0, .ref (Γ.2.2 0)), (1, .int a1), (2, .int a2), (4, .int x4)]) hx hb dX10_comesSet_52 rfl hl (by decide) rfl (fun ls hl => ?_)
            refine lv_iinc (v := x4 + 1) (lv' := [(4, .int (x4 + 1)), (3, .int 0), (0, .ref (Γ.2.2 0)), (1, .int a1), (2, .int a2)]) hx hb dX10_comesSet_53 hl (k := 4) rfl (congrArg (fun z => x4 + z) (by decide)) (by decide) rfl (fun ls hl => ?_)
            refine lv_goto (tgt := 23) hx hb dX10_comesSet_56 (by decide) ?_
            exact hw _ _ _ hP (lv_sub hl [2, 3, 4, 1, 0] rfl)
          · replace hw := hw.2 h
            refine lv_iconst (v := 1) hx hb dX10_comesSet_47 (by decide) ?_
            refine lv_goto (tgt := 52) hx hb dX10_comesSet_48 (by decide) ?_
            refine lv_istore_n (lv' := [(3, .int 1), (0, .ref (Γ.2.2 0)), (1, .int a1), (2, .int a2), (4, .int x4)]) hx hb dX10_comesSet_52 rfl hl (by decide) rfl (fun ls hl => ?_)
            refine lv_iinc (v := x4 + 1) (lv' := [(4, .int (x4 + 1)), (3, .int 1), (0, .ref (Γ.2.2 0)), (1, .int a1), (2, .int a2)]) hx hb dX10_comesSet_53 hl (k := 4) rfl (congrArg (fun z => x4 + z) (by decide)) (by decide) rfl (fun ls hl => ?_)
            refine lv_goto (tgt := 23) hx hb dX10_comesSet_56 (by decide) ?_
            exact hw _ _ _ hP (lv_sub hl [2, 3, 4, 1, 0] rfl)
  · refine ft_cut (hw (∀ (H : Heap) (locs : List Loc) (ls : Array Slot), cR_P Γ s σ H locs → lv_has ls 5 [(0, .ref (Γ.2.2 0)), (1, .int a1), (2, .int a2)] → cR_Wv p l e ({ frames := 0, cells := 0, slots := 0, locals := 0 } : Room) s m [.ref (Γ.2.2 0), .int a1, .int a2] below meth c Γ Φ H locs 18 ls []) (fun  hw H locs ls hP hl => ?_)) (fun hw => ?_)
    · refine lv_iconst (v := 0) hx hb dX10_comesSet_18 (by decide) ?_
      exact hw _ _ _ hP (lv_sub hl [0, 1, 2] rfl)
    · refine lv_if_eq (tgt := 18) hx hb dX10_comesSet_1 (by decide) (fun h => ?_) (fun h => ?_)
      · replace hw := hw.1 h
        exact hw _ _ _ hP (lv_sub hl [0, 1, 2] rfl)
      · replace hw := hw.2 h
        refine lv_aload_n hx hb dX10_comesSet_4 rfl (lv_at hl 0 rfl) ?_
        refine gR_10_12 hx hb hts i10 hown hK hP hR_0 (hts _ q_X10_comesSet_1) dX10_comesSet_5 ?_
        refine lv_sipush (v := 500) hx hb dX10_comesSet_8 (by decide) ?_
        refine lv_icmp_ge (tgt := 18) hx hb dX10_comesSet_11 (by decide) (fun h => ?_) (fun h => ?_)
        · replace hw := hw.1 h
          exact hw _ _ _ hP (lv_sub hl [0, 1, 2] rfl)
        · replace hw := hw.2 h
          refine lv_iconst (v := 1) hx hb dX10_comesSet_14 (by decide) ?_
          refine lv_goto (tgt := 19) hx hb dX10_comesSet_15 (by decide) ?_
          exact hw _ _ _ hP (lv_sub hl [0, 1, 2] rfl)
theorem q_X10_findsSets_1 : (Cond.fieldLink RX10 159 "FaultTwinsModel" "found" "I") ∈ wsX10_findsSets := List.mem_of_getElem? (i := 1) (by decide +kernel)
theorem q_X10_findsSets_2 : (Cond.fieldLink RX10 35 "FaultTwinsModel" "sets" "[I") ∈ wsX10_findsSets := List.mem_of_getElem? (i := 2) (by decide +kernel)
theorem q_X10_findsSets_3 : (Cond.fieldLink RX10 38 "FaultTwinsModel" "after" "[I") ∈ wsX10_findsSets := List.mem_of_getElem? (i := 3) (by decide +kernel)
set_option maxHeartbeats 4000000 in
set_option maxRecDepth 100000 in
theorem c_X10_findsSets (l : Launch) (Γ : ft_G) (hI : cR_I Γ)  (σ : ft_St) (Φ : ft_St → Prop) (hw : w_X10_findsSets  σ Φ) : cR_Mv l yX10_findsSets wsX10_findsSets ({ frames := 4, cells := 0, slots := 0, locals := 93 } : Room) Γ σ [.ref (Γ.2.2 0)] Φ := by
  refine Met.ofW (cc := cX10_findsSets) (maxL := 3) (ret := none) (by decide) rfl ?_
  intro p e s m args below meth c s₁ B hml hv
  obtain ⟨rfl, hP, hK, hN⟩ := hv
  have hx := B.exec
  have hb := B.bytes
  have hr := B.returns
  have hts := atoms_spec (ws := wsX10_findsSets) B.pre
  have hown : s.vm.findClass RX10 = some m.cls := findClass_of_methodNamed B.named
  have hlocks := B.notSynchronized
  have i10 : ∀ w ∈ wsX100, w ∈ wsX10_findsSets := fun w h => List.mem_cons_of_mem _ (List.mem_append_right _ h)
  have hP : cR_P Γ s σ s.heap [] := ⟨hP, va_S.rf⟩
  have hl := lv_entry ([.ref (Γ.2.2 0)]) (n := 3) (Nat.le_of_ble_eq_true rfl)
  rw [lg_entry_eq]
  generalize (lg_sl ([.ref (Γ.2.2 0)]) ++ List.replicate (3 - (lg_sl ([.ref (Γ.2.2 0)])).length) Slot.unset).toArray = ls at hl ⊢
  have hl : lv_has ls 3 [(0, .ref (Γ.2.2 0))] := hl
  unfold w_X10_findsSets at hw
  refine lv_aload_n hx hb dX10_findsSets_0 rfl (lv_at hl 0 rfl) ?_
  refine lv_iconst (v := 0) hx hb dX10_findsSets_1 (by decide) ?_
  refine pR_10_12 hx hb hts i10 hown hK hI hP hR_0 (hts _ q_X10_findsSets_1) dX10_findsSets_2 (fun H locs hP => ?_)
  obtain ⟨s1, hs1⟩ : ∃ u, u = ft_sF σ 0 12 0 := ⟨_, rfl⟩
  rw [← hs1] at hP
  replace hw := hw s1 hs1
  refine lv_aload_n hx hb dX10_findsSets_5 rfl (lv_at hl 0 rfl) ?_
  refine lv_aload_n hx hb dX10_findsSets_6 rfl (lv_at hl 0 rfl) ?_
  refine lv_iconst (v := 1) hx hb dX10_findsSets_7 (by decide) ?_
  refine cR_Vip (rest := [.ref (Γ.2.2 0)]) ⟨hx, hb, hml, hown, hts⟩ (c_X10_closed l Γ hI 1 s1 _ hw) (cwV 1 hts gX10_findsSets_X10_closed rfl rfl rfl (by decide +kernel) ⟨Nat.le_of_ble_eq_true rfl, Nat.le_of_ble_eq_true rfl⟩) hK hN hP (cR_lt hR_0 (by decide)) (cR_E10 hR_0) rfl rfl rfl hl.1 rfl (Nat.le_of_ble_eq_true rfl) dX10_findsSets_8 ⟨Nat.le_refl _, Nat.le_refl _⟩ (fun r2 H locs hw hP => ?_)
  refine lv_iconst (v := 0) hx hb dX10_findsSets_11 (by decide) ?_
  refine cR_Vv (rest := []) ⟨hx, hb, hml, hown, hts⟩ (c_X10_comesSet l Γ hI r2 0 s1 _ hw) (cwV 2 hts gX10_findsSets_X10_comesSet rfl rfl rfl (by decide +kernel) ⟨Nat.le_of_ble_eq_true rfl, Nat.le_of_ble_eq_true rfl⟩) hK hN hP (cR_lt hR_0 (by decide)) (cR_E10 hR_0) rfl rfl rfl hl.1 rfl (Nat.le_of_ble_eq_true rfl) dX10_findsSets_12 ⟨Nat.le_refl _, Nat.le_refl _⟩ (fun s3 H locs hw hP => ?_)
  refine lv_iconst (v := 0) hx hb dX10_findsSets_15 (by decide) ?_
  refine lv_istore_n (lv' := [(1, .int 0), (0, .ref (Γ.2.2 0))]) hx hb dX10_findsSets_16 rfl hl (by decide) rfl (fun ls hl => ?_)
  refine hw (fun (x4 : Int32) (s5 : ft_St) => ∀ (H : Heap) (locs : List Loc) (ls : Array Slot), cR_P Γ s s5 H locs → lv_has ls 3 [(0, .ref (Γ.2.2 0)), (1, .int x4)] → cR_Wv p l e ({ frames := 4, cells := 0, slots := 0, locals := 93 } : Room) s m [.ref (Γ.2.2 0)] below meth c Γ Φ H locs 17 ls []) (fun x4 s5 hw H locs ls hP hl => ?_) _ _ _ hP (lv_sub hl [1, 0] rfl)
  refine lv_iload_n hx hb dX10_findsSets_17 rfl (lv_at hl 1 rfl) ?_
  refine lv_aload_n hx hb dX10_findsSets_18 rfl (lv_at hl 0 rfl) ?_
  refine gR_10_12 hx hb hts i10 hown hK hP hR_0 (hts _ q_X10_findsSets_1) dX10_findsSets_19 ?_
  refine lv_icmp_ge (tgt := 76) hx hb dX10_findsSets_22 (by decide) (fun h => ?_) (fun h => ?_)
  · replace hw := hw.1 h
    exact W.vret hx hb hr (cR_rv hP hw) hP.2.2.2 dX10_findsSets_76
  · replace hw := hw.2 h
    refine lv_iconst (v := 0) hx hb dX10_findsSets_25 (by decide) ?_
    refine lv_istore_n (lv' := [(2, .int 0), (0, .ref (Γ.2.2 0)), (1, .int x4)]) hx hb dX10_findsSets_26 rfl hl (by decide) rfl (fun ls hl => ?_)
    refine hw (fun (x7 : Int32) (s8 : ft_St) => ∀ (H : Heap) (locs : List Loc) (ls : Array Slot), cR_P Γ s s8 H locs → lv_has ls 3 [(0, .ref (Γ.2.2 0)), (1, .int x4), (2, .int x7)] → cR_Wv p l e ({ frames := 4, cells := 0, slots := 0, locals := 93 } : Room) s m [.ref (Γ.2.2 0)] below meth c Γ Φ H locs 27 ls []) (fun x7 s8 hw H locs ls hP hl => ?_) _ _ _ hP (lv_sub hl [1, 2, 0] rfl)
    refine lv_iload_n hx hb dX10_findsSets_27 rfl (lv_at hl 2 rfl) ?_
    refine lv_bipush (v := 8) hx hb dX10_findsSets_28 (by decide) ?_
    refine lv_icmp_ge (tgt := 70) hx hb dX10_findsSets_30 (by decide) (fun h => ?_) (fun h => ?_)
    · replace hw := hw.1 h
      refine lv_iinc (v := x4 + 1) (lv' := [(1, .int (x4 + 1)), (0, .ref (Γ.2.2 0)), (2, .int x7)]) hx hb dX10_findsSets_70 hl (k := 1) rfl (congrArg (fun z => x4 + z) (by decide)) (by decide) rfl (fun ls hl => ?_)
      refine lv_goto (tgt := 17) hx hb dX10_findsSets_73 (by decide) ?_
      exact hw _ _ _ hP (lv_sub hl [1, 0] rfl)
    · replace hw := hw.2 h
      refine lv_aload_n hx hb dX10_findsSets_33 rfl (lv_at hl 0 rfl) ?_
      refine lv_iload_n hx hb dX10_findsSets_34 rfl (lv_at hl 2 rfl) ?_
      refine cR_Vip (rest := []) ⟨hx, hb, hml, hown, hts⟩ (c_X10_isSeen l Γ hI x7 s8 _ hw) (cwV 1 hts gX10_findsSets_X10_isSeen rfl rfl rfl (by decide +kernel) ⟨Nat.le_of_ble_eq_true rfl, Nat.le_of_ble_eq_true rfl⟩) hK hN hP (cR_lt hR_0 (by decide)) (cR_E10 hR_0) rfl rfl rfl hl.1 rfl (Nat.le_of_ble_eq_true rfl) dX10_findsSets_35 ⟨Nat.le_refl _, Nat.le_refl _⟩ (fun r10 H locs hw hP => ?_)
      refine lv_if_eq (tgt := 64) hx hb dX10_findsSets_38 (by decide) (fun h => ?_) (fun h => ?_)
      · replace hw := hw.1 h
        refine lv_iinc (v := x7 + 1) (lv' := [(2, .int (x7 + 1)), (0, .ref (Γ.2.2 0)), (1, .int x4)]) hx hb dX10_findsSets_64 hl (k := 2) rfl (congrArg (fun z => x7 + z) (by decide)) (by decide) rfl (fun ls hl => ?_)
        refine lv_goto (tgt := 27) hx hb dX10_findsSets_67 (by decide) ?_
        exact hw _ _ _ hP (lv_sub hl [1, 2, 0] rfl)
      · replace hw := hw.2 h
        refine lv_aload_n hx hb dX10_findsSets_41 rfl (lv_at hl 0 rfl) ?_
        refine lv_aload_n hx hb dX10_findsSets_42 rfl (lv_at hl 0 rfl) ?_
        refine lv_aload_n hx hb dX10_findsSets_43 rfl (lv_at hl 0 rfl) ?_
        refine gR_10_13 hx hb hts i10 hown hK hP hR_0 (hts _ q_X10_findsSets_2) dX10_findsSets_44 ?_
        refine lv_iload_n hx hb dX10_findsSets_47 rfl (lv_at hl 1 rfl) ?_
        refine aR_ld hx hb hK hP hR_7 mR_7 hw.1 dX10_findsSets_48 ?_
        replace hw := hw.2
        refine lv_iload_n hx hb dX10_findsSets_49 rfl (lv_at hl 2 rfl) ?_
        refine cR_Vip (rest := [.ref (Γ.2.2 0)]) ⟨hx, hb, hml, hown, hts⟩ (c_X10_sawBy l Γ hI (s8.2.1 7 (Int32.toNatClampNeg x4)) x7 s8 _ hw) (cwV 2 hts gX10_findsSets_X10_sawBy rfl rfl rfl (by decide +kernel) ⟨Nat.le_of_ble_eq_true rfl, Nat.le_of_ble_eq_true rfl⟩) hK hN hP (cR_lt hR_0 (by decide)) (cR_E10 hR_0) rfl rfl rfl hl.1 rfl (Nat.le_of_ble_eq_true rfl) dX10_findsSets_50 ⟨Nat.le_refl _, Nat.le_refl _⟩ (fun r11 H locs hw hP => ?_)
        refine lv_aload_n hx hb dX10_findsSets_53 rfl (lv_at hl 0 rfl) ?_
        refine gR_10_14 hx hb hts i10 hown hK hP hR_0 (hts _ q_X10_findsSets_3) dX10_findsSets_54 ?_
        refine lv_iload_n hx hb dX10_findsSets_57 rfl (lv_at hl 1 rfl) ?_
        refine aR_ld hx hb hK hP hR_8 mR_8 hw.1 dX10_findsSets_58 ?_
        replace hw := hw.2
        refine lv_iconst (v := 1) hx hb dX10_findsSets_59 (by decide) ?_
        refine lv_iadd hx hb dX10_findsSets_60 ?_
        refine cR_Vv (rest := []) ⟨hx, hb, hml, hown, hts⟩ (c_X10_comesSet l Γ hI r11 ((s8.2.1 8 (Int32.toNatClampNeg x4)) + 1) s8 _ hw) (cwV 2 hts gX10_findsSets_X10_comesSet rfl rfl rfl (by decide +kernel) ⟨Nat.le_of_ble_eq_true rfl, Nat.le_of_ble_eq_true rfl⟩) hK hN hP (cR_lt hR_0 (by decide)) (cR_E10 hR_0) rfl rfl rfl hl.1 rfl (Nat.le_of_ble_eq_true rfl) dX10_findsSets_61 ⟨Nat.le_refl _, Nat.le_refl _⟩ (fun s12 H locs hw hP => ?_)
        refine lv_iinc (v := x7 + 1) (lv' := [(2, .int (x7 + 1)), (0, .ref (Γ.2.2 0)), (1, .int x4)]) hx hb dX10_findsSets_64 hl (k := 2) rfl (congrArg (fun z => x7 + z) (by decide)) (by decide) rfl (fun ls hl => ?_)
        refine lv_goto (tgt := 27) hx hb dX10_findsSets_67 (by decide) ?_
        exact hw _ _ _ hP (lv_sub hl [1, 2, 0] rfl)
theorem q_X10_setsWith_1 : (Cond.fieldLink RX10 159 "FaultTwinsModel" "found" "I") ∈ wsX10_setsWith := List.mem_of_getElem? (i := 1) (by decide +kernel)
theorem q_X10_setsWith_2 : (Cond.fieldLink RX10 35 "FaultTwinsModel" "sets" "[I") ∈ wsX10_setsWith := List.mem_of_getElem? (i := 2) (by decide +kernel)
set_option maxHeartbeats 4000000 in
set_option maxRecDepth 100000 in
theorem c_X10_setsWith (l : Launch) (Γ : ft_G) (hI : cR_I Γ) (a1 : Int32) (σ : ft_St) (Φ : Int32 → Prop) (hw : w_X10_setsWith a1 σ Φ) : cR_Mip l yX10_setsWith wsX10_setsWith ({ frames := 1, cells := 0, slots := 0, locals := 22 } : Room) Γ σ [.ref (Γ.2.2 0), .int a1] Φ := by
  refine Met.ofW (cc := cX10_setsWith) (maxL := 4) (ret := (some .int)) (by decide) rfl ?_
  intro p e s m args below meth c s₁ B hml hv
  obtain ⟨rfl, hP, hK, hN⟩ := hv
  have hx := B.exec
  have hb := B.bytes
  have hr := B.returns
  have hts := atoms_spec (ws := wsX10_setsWith) B.pre
  have hown : s.vm.findClass RX10 = some m.cls := findClass_of_methodNamed B.named
  have hlocks := B.notSynchronized
  have i10 : ∀ w ∈ wsX100, w ∈ wsX10_setsWith := fun w h => List.mem_cons_of_mem _ (List.mem_append_right _ h)
  have hP : cR_P Γ s σ s.heap [] := ⟨hP, va_S.rf⟩
  have hl := lv_entry ([.ref (Γ.2.2 0), .int a1]) (n := 4) (Nat.le_of_ble_eq_true rfl)
  rw [lg_entry_eq]
  generalize (lg_sl ([.ref (Γ.2.2 0), .int a1]) ++ List.replicate (4 - (lg_sl ([.ref (Γ.2.2 0), .int a1])).length) Slot.unset).toArray = ls at hl ⊢
  have hl : lv_has ls 4 [(0, .ref (Γ.2.2 0)), (1, .int a1)] := hl
  unfold w_X10_setsWith at hw
  refine lv_iconst (v := 0) hx hb dX10_setsWith_0 (by decide) ?_
  refine lv_istore_n (lv' := [(2, .int 0), (0, .ref (Γ.2.2 0)), (1, .int a1)]) hx hb dX10_setsWith_1 rfl hl (by decide) rfl (fun ls hl => ?_)
  refine lv_iconst (v := 0) hx hb dX10_setsWith_2 (by decide) ?_
  refine lv_istore_n (lv' := [(3, .int 0), (2, .int 0), (0, .ref (Γ.2.2 0)), (1, .int a1)]) hx hb dX10_setsWith_3 rfl hl (by decide) rfl (fun ls hl => ?_)
  refine hw (fun (x1 : Int32) (x2 : Int32) => ∀ (H : Heap) (locs : List Loc) (ls : Array Slot), cR_P Γ s σ H locs → lv_has ls 4 [(0, .ref (Γ.2.2 0)), (1, .int a1), (2, .int x1), (3, .int x2)] → cR_Wi p l e ({ frames := 1, cells := 0, slots := 0, locals := 22 } : Room) s m [.ref (Γ.2.2 0), .int a1] below meth c Γ (fun r u => u = σ ∧ Φ r) H locs 4 ls []) (fun x1 x2 hw H locs ls hP hl => ?_) _ _ _ hP (lv_sub hl [2, 3, 1, 0] rfl)
  refine lv_iload_n hx hb dX10_setsWith_4 rfl (lv_at hl 3 rfl) ?_
  refine lv_aload_n hx hb dX10_setsWith_5 rfl (lv_at hl 0 rfl) ?_
  refine gR_10_12 hx hb hts i10 hown hK hP hR_0 (hts _ q_X10_setsWith_1) dX10_setsWith_6 ?_
  refine lv_icmp_ge (tgt := 39) hx hb dX10_setsWith_9 (by decide) (fun h => ?_) (fun h => ?_)
  · replace hw := hw.1 h
    refine lv_iload_n hx hb dX10_setsWith_39 rfl (lv_at hl 2 rfl) ?_
    exact W.iret hx hb hr (cR_ri hP ⟨rfl, hw⟩) hP.2.2.2 dX10_setsWith_40
  · replace hw := hw.2 h
    refine lv_iload_n hx hb dX10_setsWith_12 rfl (lv_at hl 2 rfl) ?_
    refine lv_aload_n hx hb dX10_setsWith_13 rfl (lv_at hl 0 rfl) ?_
    refine gR_10_13 hx hb hts i10 hown hK hP hR_0 (hts _ q_X10_setsWith_2) dX10_setsWith_14 ?_
    refine lv_iload_n hx hb dX10_setsWith_17 rfl (lv_at hl 3 rfl) ?_
    refine aR_ld hx hb hK hP hR_7 mR_7 hw.1 dX10_setsWith_18 ?_
    replace hw := hw.2
    refine cR_Sip (rest := [.int x1]) ⟨hx, hb, hml, hown, hts⟩ (c_X10_verdict l Γ hI (σ.2.1 7 (Int32.toNatClampNeg x2)) σ _ hw) (va_cwS 1 hts gX10_setsWith_X10_verdict rfl rfl rfl (by decide +kernel) ⟨Nat.le_of_ble_eq_true rfl, Nat.le_of_ble_eq_true rfl⟩) hK hN hP rfl hl.1 rfl (Nat.le_of_ble_eq_true rfl) dX10_setsWith_19 ⟨Nat.le_refl _, Nat.le_refl _⟩ (fun r4 H locs hw hP => ?_)
    refine lv_iload_n hx hb dX10_setsWith_22 rfl (lv_at hl 1 rfl) ?_
    refine lv_icmp_ne (tgt := 30) hx hb dX10_setsWith_23 (by decide) (fun h => ?_) (fun h => ?_)
    · replace hw := hw.1 h
      refine lv_iconst (v := 0) hx hb dX10_setsWith_30 (by decide) ?_
      refine lv_iadd hx hb dX10_setsWith_31 ?_
      refine lv_istore_n (lv' := [(2, .int (x1 + 0)), (0, .ref (Γ.2.2 0)), (1, .int a1), (3, .int x2)]) hx hb dX10_setsWith_32 rfl hl (by decide) rfl (fun ls hl => ?_)
      refine lv_iinc (v := x2 + 1) (lv' := [(3, .int (x2 + 1)), (2, .int (x1 + 0)), (0, .ref (Γ.2.2 0)), (1, .int a1)]) hx hb dX10_setsWith_33 hl (k := 3) rfl (congrArg (fun z => x2 + z) (by decide)) (by decide) rfl (fun ls hl => ?_)
      refine lv_goto (tgt := 4) hx hb dX10_setsWith_36 (by decide) ?_
      exact hw _ _ _ hP (lv_sub hl [2, 3, 1, 0] rfl)
    · replace hw := hw.2 h
      refine lv_iconst (v := 1) hx hb dX10_setsWith_26 (by decide) ?_
      refine lv_goto (tgt := 31) hx hb dX10_setsWith_27 (by decide) ?_
      refine lv_iadd hx hb dX10_setsWith_31 ?_
      refine lv_istore_n (lv' := [(2, .int (x1 + 1)), (0, .ref (Γ.2.2 0)), (1, .int a1), (3, .int x2)]) hx hb dX10_setsWith_32 rfl hl (by decide) rfl (fun ls hl => ?_)
      refine lv_iinc (v := x2 + 1) (lv' := [(3, .int (x2 + 1)), (2, .int (x1 + 1)), (0, .ref (Γ.2.2 0)), (1, .int a1)]) hx hb dX10_setsWith_33 hl (k := 3) rfl (congrArg (fun z => x2 + z) (by decide)) (by decide) rfl (fun ls hl => ?_)
      refine lv_goto (tgt := 4) hx hb dX10_setsWith_36 (by decide) ?_
      exact hw _ _ _ hP (lv_sub hl [2, 3, 1, 0] rfl)
set_option maxHeartbeats 4000000 in
set_option maxRecDepth 100000 in
theorem c_X10_markBehind (l : Launch) (Γ : ft_G) (hI : cR_I Γ) (a0 : Int32) (a1 : Int32) (a2 : Int32) (σ : ft_St) (Φ : Int32 → Prop) (hw : w_X10_markBehind a0 a1 a2  Φ) : cR_Mip l yX10_markBehind wsX10_markBehind ({ frames := 0, cells := 0, slots := 0, locals := 0 } : Room) Γ σ [.int a0, .int a1, .int a2] Φ := by
  refine Met.ofW (cc := cX10_markBehind) (maxL := 3) (ret := (some .int)) (by decide) rfl ?_
  intro p e s m args below meth c s₁ B hml hv
  obtain ⟨rfl, hP, hK, hN⟩ := hv
  have hx := B.exec
  have hb := B.bytes
  have hr := B.returns
  have hts := atoms_spec (ws := wsX10_markBehind) B.pre
  have hown : s.vm.findClass RX10 = some m.cls := findClass_of_methodNamed B.named
  have hlocks := B.notSynchronized
  have hP : cR_P Γ s σ s.heap [] := ⟨hP, va_S.rf⟩
  have hl := lv_entry ([.int a0, .int a1, .int a2]) (n := 3) (Nat.le_of_ble_eq_true rfl)
  rw [lg_entry_eq]
  generalize (lg_sl ([.int a0, .int a1, .int a2]) ++ List.replicate (3 - (lg_sl ([.int a0, .int a1, .int a2])).length) Slot.unset).toArray = ls at hl ⊢
  have hl : lv_has ls 3 [(0, .int a0), (1, .int a1), (2, .int a2)] := hl
  unfold w_X10_markBehind at hw
  refine lv_iload_n hx hb dX10_markBehind_0 rfl (lv_at hl 0 rfl) ?_
  refine lv_bipush (v := 10) hx hb dX10_markBehind_1 (by decide) ?_
  refine ft_cut (hw (∀ (H : Heap) (locs : List Loc) (ls : Array Slot), cR_P Γ s σ H locs → lv_has ls 3 [(1, .int a1)] → cR_Wi p l e ({ frames := 0, cells := 0, slots := 0, locals := 0 } : Room) s m [.int a0, .int a1, .int a2] below meth c Γ (fun r u => u = σ ∧ Φ r) H locs 10 ls []) (fun  hw H locs ls hP hl => ?_)) (fun hw => ?_)
  · refine lv_bipush (v := 10) hx hb dX10_markBehind_10 (by decide) ?_
    refine lv_goto (tgt := 16) hx hb dX10_markBehind_12 (by decide) ?_
    refine lv_iload_n hx hb dX10_markBehind_16 rfl (lv_at hl 0 rfl) ?_
    refine lv_iadd hx hb dX10_markBehind_17 ?_
    exact W.iret hx hb hr (cR_ri hP ⟨rfl, hw⟩) hP.2.2.2 dX10_markBehind_18
  · refine lv_icmp_ge (tgt := 10) hx hb dX10_markBehind_3 (by decide) (fun h => ?_) (fun h => ?_)
    · replace hw := hw.1 h
      exact hw _ _ _ hP (lv_sub hl [1] rfl)
    · replace hw := hw.2 h
      refine lv_iload_n hx hb dX10_markBehind_6 rfl (lv_at hl 2 rfl) ?_
      refine lv_if_eq (tgt := 15) hx hb dX10_markBehind_7 (by decide) (fun h => ?_) (fun h => ?_)
      · replace hw := hw.1 h
        refine lv_iconst (v := 0) hx hb dX10_markBehind_15 (by decide) ?_
        refine lv_iload_n hx hb dX10_markBehind_16 rfl (lv_at hl 1 rfl) ?_
        refine lv_iadd hx hb dX10_markBehind_17 ?_
        exact W.iret hx hb hr (cR_ri hP ⟨rfl, hw⟩) hP.2.2.2 dX10_markBehind_18
      · replace hw := hw.2 h
        exact hw _ _ _ hP (lv_sub hl [1] rfl)
