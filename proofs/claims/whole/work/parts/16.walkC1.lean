theorem q_X1_take_1 : (Cond.fieldLink RX1 9 "FaultTwins$Machine" "from" "[I") ∈ wsX1_take := List.mem_of_getElem? (i := 1) (by decide +kernel)
theorem q_X1_take_2 : (Cond.methodLink RX1 59 arraycopyName) ∈ wsX1_take := List.mem_of_getElem? (i := 2) (by decide +kernel)
theorem q_X1_take_3 : (Cond.native arraycopyName) ∈ wsX1_take := List.mem_of_getElem? (i := 3) (by decide +kernel)
theorem q_X1_take_4 : (Cond.static arraycopyName) ∈ wsX1_take := List.mem_of_getElem? (i := 4) (by decide +kernel)
theorem q_X1_take_5 : (Cond.initialized "java/lang/System") ∈ wsX1_take := List.mem_of_getElem? (i := 5) (by decide +kernel)
theorem q_X1_take_6 : (Cond.fieldLink RX1 15 "FaultTwins$Machine" "by" "[I") ∈ wsX1_take := List.mem_of_getElem? (i := 6) (by decide +kernel)
theorem q_X1_take_7 : (Cond.fieldLink RX1 18 "FaultTwins$Machine" "to" "[I") ∈ wsX1_take := List.mem_of_getElem? (i := 7) (by decide +kernel)
theorem q_X1_take_8 : (Cond.fieldLink RX1 25 "FaultTwins$Machine" "ways" "I") ∈ wsX1_take := List.mem_of_getElem? (i := 8) (by decide +kernel)
theorem q_X1_take_9 : (Cond.fieldLink RX1 21 "FaultTwins$Machine" "seen" "I") ∈ wsX1_take := List.mem_of_getElem? (i := 9) (by decide +kernel)
theorem q_X1_take_10 : (Cond.fieldLink RX1 28 "FaultTwins$Machine" "faults" "I") ∈ wsX1_take := List.mem_of_getElem? (i := 10) (by decide +kernel)
set_option maxHeartbeats 4000000 in
set_option maxRecDepth 100000 in
theorem c_X1_take (l : Launch) (Γ : ft_G) (hI : cC_I Γ) (k : Nat) (hk : cC_K k = 1) (k1 : Nat) (hk1 : cC_K k1 = 1) (σ : ft_St) (Φ : ft_St → Prop) (hw : w_X1_take k k1 σ Φ) : cC_Mv l yX1_take wsX1_take ({ frames := 1, cells := 0, slots := 0, locals := 60 } : Room) Γ σ [.ref (Γ.2.2 k), .ref (Γ.2.2 k1)] Φ := by
  refine Met.ofW (cc := cX1_take) (maxL := 2) (ret := none) (by decide) rfl ?_
  intro p e s m args below meth c s₁ B hml hv
  obtain ⟨rfl, hP, hK, hN⟩ := hv
  have hx := B.exec
  have hb := B.bytes
  have hr := B.returns
  have hts := atoms_spec (ws := wsX1_take) B.pre
  have hown : s.vm.findClass RX1 = some m.cls := findClass_of_methodNamed B.named
  have hlocks := B.notSynchronized
  have i1 : ∀ w ∈ wsX10, w ∈ wsX1_take := fun w h => List.mem_cons_of_mem _ (List.mem_append_right _ h)
  have hP : cC_P Γ s σ s.heap [] := ⟨hP, va_S.rf⟩
  have hl := lv_entry ([.ref (Γ.2.2 k), .ref (Γ.2.2 k1)]) (n := 2) (Nat.le_of_ble_eq_true rfl)
  rw [lg_entry_eq]
  generalize (lg_sl ([.ref (Γ.2.2 k), .ref (Γ.2.2 k1)]) ++ List.replicate (2 - (lg_sl ([.ref (Γ.2.2 k), .ref (Γ.2.2 k1)])).length) Slot.unset).toArray = ls at hl ⊢
  have hl : lv_has ls 2 [(0, .ref (Γ.2.2 k)), (1, .ref (Γ.2.2 k1))] := hl
  unfold w_X1_take at hw
  refine lv_aload_n hx hb dX1_take_0 rfl (lv_at hl 1 rfl) ?_
  refine gC_1_0 hx hb hts i1 hown hK hP hk1 (hts _ q_X1_take_1) dX1_take_1 ?_
  refine lv_iconst (v := 0) hx hb dX1_take_4 (by decide) ?_
  refine lv_aload_n hx hb dX1_take_5 rfl (lv_at hl 0 rfl) ?_
  refine gC_1_0 hx hb hts i1 hown hK hP hk (hts _ q_X1_take_1) dX1_take_6 ?_
  refine lv_iconst (v := 0) hx hb dX1_take_9 (by decide) ?_
  refine lv_bipush (v := 24) hx hb dX1_take_10 (by decide) ?_
  refine cC_copy hx hb (by rw [hml]; exact hl.1.symm) hown (hts _ q_X1_take_2) (hts _ q_X1_take_3) (hts _ q_X1_take_4) (hts _ q_X1_take_5) hK hI hP (tC_1_0 hk1) (tC_1_0 hk) (nC_1_0 hk1) (nC_1_0 hk) (by decide) (by decide) (by decide) (by decide) (by decide) (by decide) (by decide) dX1_take_12 (fun H locs hP => ?_)
  obtain ⟨s1, hs1⟩ : ∃ u, u = ft_sA σ (k + 1) (va_cpy (σ.2.1 (k1 + 1)) (σ.2.1 (k + 1)) (Int32.toNatClampNeg 0) (Int32.toNatClampNeg 0) (Int32.toNatClampNeg 24)) := ⟨_, rfl⟩
  rw [← hs1] at hP
  replace hw := hw s1 hs1
  refine lv_aload_n hx hb dX1_take_15 rfl (lv_at hl 1 rfl) ?_
  refine gC_1_1 hx hb hts i1 hown hK hP hk1 (hts _ q_X1_take_6) dX1_take_16 ?_
  refine lv_iconst (v := 0) hx hb dX1_take_19 (by decide) ?_
  refine lv_aload_n hx hb dX1_take_20 rfl (lv_at hl 0 rfl) ?_
  refine gC_1_1 hx hb hts i1 hown hK hP hk (hts _ q_X1_take_6) dX1_take_21 ?_
  refine lv_iconst (v := 0) hx hb dX1_take_24 (by decide) ?_
  refine lv_bipush (v := 24) hx hb dX1_take_25 (by decide) ?_
  refine cC_copy hx hb (by rw [hml]; exact hl.1.symm) hown (hts _ q_X1_take_2) (hts _ q_X1_take_3) (hts _ q_X1_take_4) (hts _ q_X1_take_5) hK hI hP (tC_1_1 hk1) (tC_1_1 hk) (nC_1_1 hk1) (nC_1_1 hk) (by decide) (by decide) (by decide) (by decide) (by decide) (by decide) (by decide) dX1_take_27 (fun H locs hP => ?_)
  obtain ⟨s2, hs2⟩ : ∃ u, u = ft_sA s1 (k + 2) (va_cpy (s1.2.1 (k1 + 2)) (s1.2.1 (k + 2)) (Int32.toNatClampNeg 0) (Int32.toNatClampNeg 0) (Int32.toNatClampNeg 24)) := ⟨_, rfl⟩
  rw [← hs2] at hP
  replace hw := hw s2 hs2
  refine lv_aload_n hx hb dX1_take_30 rfl (lv_at hl 1 rfl) ?_
  refine gC_1_2 hx hb hts i1 hown hK hP hk1 (hts _ q_X1_take_7) dX1_take_31 ?_
  refine lv_iconst (v := 0) hx hb dX1_take_34 (by decide) ?_
  refine lv_aload_n hx hb dX1_take_35 rfl (lv_at hl 0 rfl) ?_
  refine gC_1_2 hx hb hts i1 hown hK hP hk (hts _ q_X1_take_7) dX1_take_36 ?_
  refine lv_iconst (v := 0) hx hb dX1_take_39 (by decide) ?_
  refine lv_bipush (v := 24) hx hb dX1_take_40 (by decide) ?_
  refine cC_copy hx hb (by rw [hml]; exact hl.1.symm) hown (hts _ q_X1_take_2) (hts _ q_X1_take_3) (hts _ q_X1_take_4) (hts _ q_X1_take_5) hK hI hP (tC_1_2 hk1) (tC_1_2 hk) (nC_1_2 hk1) (nC_1_2 hk) (by decide) (by decide) (by decide) (by decide) (by decide) (by decide) (by decide) dX1_take_42 (fun H locs hP => ?_)
  obtain ⟨s3, hs3⟩ : ∃ u, u = ft_sA s2 (k + 3) (va_cpy (s2.2.1 (k1 + 3)) (s2.2.1 (k + 3)) (Int32.toNatClampNeg 0) (Int32.toNatClampNeg 0) (Int32.toNatClampNeg 24)) := ⟨_, rfl⟩
  rw [← hs3] at hP
  replace hw := hw s3 hs3
  refine lv_aload_n hx hb dX1_take_45 rfl (lv_at hl 0 rfl) ?_
  refine lv_aload_n hx hb dX1_take_46 rfl (lv_at hl 1 rfl) ?_
  refine gC_1_3 hx hb hts i1 hown hK hP hk1 (hts _ q_X1_take_8) dX1_take_47 ?_
  refine pC_1_3 hx hb hts i1 hown hK hI hP hk (hts _ q_X1_take_8) dX1_take_50 (fun H locs hP => ?_)
  obtain ⟨s4, hs4⟩ : ∃ u, u = ft_sF s3 k 3 (s3.1 k1 3) := ⟨_, rfl⟩
  rw [← hs4] at hP
  replace hw := hw s4 hs4
  refine lv_aload_n hx hb dX1_take_53 rfl (lv_at hl 0 rfl) ?_
  refine lv_aload_n hx hb dX1_take_54 rfl (lv_at hl 1 rfl) ?_
  refine gC_1_4 hx hb hts i1 hown hK hP hk1 (hts _ q_X1_take_9) dX1_take_55 ?_
  refine pC_1_4 hx hb hts i1 hown hK hI hP hk (hts _ q_X1_take_9) dX1_take_58 (fun H locs hP => ?_)
  obtain ⟨s5, hs5⟩ : ∃ u, u = ft_sF s4 k 4 (s4.1 k1 4) := ⟨_, rfl⟩
  rw [← hs5] at hP
  replace hw := hw s5 hs5
  refine lv_aload_n hx hb dX1_take_61 rfl (lv_at hl 0 rfl) ?_
  refine lv_aload_n hx hb dX1_take_62 rfl (lv_at hl 1 rfl) ?_
  refine gC_1_5 hx hb hts i1 hown hK hP hk1 (hts _ q_X1_take_10) dX1_take_63 ?_
  refine pC_1_5 hx hb hts i1 hown hK hI hP hk (hts _ q_X1_take_10) dX1_take_66 (fun H locs hP => ?_)
  obtain ⟨s6, hs6⟩ : ∃ u, u = ft_sF s5 k 5 (s5.1 k1 5) := ⟨_, rfl⟩
  rw [← hs6] at hP
  replace hw := hw s6 hs6
  exact W.vret hx hb hr (cC_rv hP hw) hP.2.2.2 dX1_take_69
theorem q_X8_take_1 : (Cond.fieldLink RX8 9 "FaultTwins$Watch" "sights" "[I") ∈ wsX8_take := List.mem_of_getElem? (i := 1) (by decide +kernel)
theorem q_X8_take_2 : (Cond.methodLink RX8 28 arraycopyName) ∈ wsX8_take := List.mem_of_getElem? (i := 2) (by decide +kernel)
theorem q_X8_take_3 : (Cond.native arraycopyName) ∈ wsX8_take := List.mem_of_getElem? (i := 3) (by decide +kernel)
theorem q_X8_take_4 : (Cond.static arraycopyName) ∈ wsX8_take := List.mem_of_getElem? (i := 4) (by decide +kernel)
theorem q_X8_take_5 : (Cond.initialized "java/lang/System") ∈ wsX8_take := List.mem_of_getElem? (i := 5) (by decide +kernel)
theorem q_X8_take_6 : (Cond.fieldLink RX8 15 "FaultTwins$Watch" "count" "I") ∈ wsX8_take := List.mem_of_getElem? (i := 6) (by decide +kernel)
theorem q_X8_take_7 : (Cond.fieldLink RX8 19 "FaultTwins$Watch" "set" "I") ∈ wsX8_take := List.mem_of_getElem? (i := 7) (by decide +kernel)
set_option maxHeartbeats 4000000 in
set_option maxRecDepth 100000 in
theorem c_X8_take (l : Launch) (Γ : ft_G) (hI : cC_I Γ) (k : Nat) (hk : cC_K k = 8) (k1 : Nat) (hk1 : cC_K k1 = 8) (σ : ft_St) (Φ : ft_St → Prop) (hw : w_X8_take k k1 σ Φ) : cC_Mv l yX8_take wsX8_take ({ frames := 1, cells := 0, slots := 0, locals := 60 } : Room) Γ σ [.ref (Γ.2.2 k), .ref (Γ.2.2 k1)] Φ := by
  refine Met.ofW (cc := cX8_take) (maxL := 2) (ret := none) (by decide) rfl ?_
  intro p e s m args below meth c s₁ B hml hv
  obtain ⟨rfl, hP, hK, hN⟩ := hv
  have hx := B.exec
  have hb := B.bytes
  have hr := B.returns
  have hts := atoms_spec (ws := wsX8_take) B.pre
  have hown : s.vm.findClass RX8 = some m.cls := findClass_of_methodNamed B.named
  have hlocks := B.notSynchronized
  have i8 : ∀ w ∈ wsX80, w ∈ wsX8_take := fun w h => List.mem_cons_of_mem _ (List.mem_append_right _ h)
  have hP : cC_P Γ s σ s.heap [] := ⟨hP, va_S.rf⟩
  have hl := lv_entry ([.ref (Γ.2.2 k), .ref (Γ.2.2 k1)]) (n := 2) (Nat.le_of_ble_eq_true rfl)
  rw [lg_entry_eq]
  generalize (lg_sl ([.ref (Γ.2.2 k), .ref (Γ.2.2 k1)]) ++ List.replicate (2 - (lg_sl ([.ref (Γ.2.2 k), .ref (Γ.2.2 k1)])).length) Slot.unset).toArray = ls at hl ⊢
  have hl : lv_has ls 2 [(0, .ref (Γ.2.2 k)), (1, .ref (Γ.2.2 k1))] := hl
  unfold w_X8_take at hw
  refine lv_aload_n hx hb dX8_take_0 rfl (lv_at hl 1 rfl) ?_
  refine gC_8_0 hx hb hts i8 hown hK hP hk1 (hts _ q_X8_take_1) dX8_take_1 ?_
  refine lv_iconst (v := 0) hx hb dX8_take_4 (by decide) ?_
  refine lv_aload_n hx hb dX8_take_5 rfl (lv_at hl 0 rfl) ?_
  refine gC_8_0 hx hb hts i8 hown hK hP hk (hts _ q_X8_take_1) dX8_take_6 ?_
  refine lv_iconst (v := 0) hx hb dX8_take_9 (by decide) ?_
  refine lv_bipush (v := 8) hx hb dX8_take_10 (by decide) ?_
  refine cC_copy hx hb (by rw [hml]; exact hl.1.symm) hown (hts _ q_X8_take_2) (hts _ q_X8_take_3) (hts _ q_X8_take_4) (hts _ q_X8_take_5) hK hI hP (tC_8_0 hk1) (tC_8_0 hk) (nC_8_0 hk1) (nC_8_0 hk) (by decide) (by decide) (by decide) (by decide) (by decide) (by decide) (by decide) dX8_take_12 (fun H locs hP => ?_)
  obtain ⟨s1, hs1⟩ : ∃ u, u = ft_sA σ (k + 1) (va_cpy (σ.2.1 (k1 + 1)) (σ.2.1 (k + 1)) (Int32.toNatClampNeg 0) (Int32.toNatClampNeg 0) (Int32.toNatClampNeg 8)) := ⟨_, rfl⟩
  rw [← hs1] at hP
  replace hw := hw s1 hs1
  refine lv_aload_n hx hb dX8_take_15 rfl (lv_at hl 0 rfl) ?_
  refine lv_aload_n hx hb dX8_take_16 rfl (lv_at hl 1 rfl) ?_
  refine gC_8_1 hx hb hts i8 hown hK hP hk1 (hts _ q_X8_take_6) dX8_take_17 ?_
  refine pC_8_1 hx hb hts i8 hown hK hI hP hk (hts _ q_X8_take_6) dX8_take_20 (fun H locs hP => ?_)
  obtain ⟨s2, hs2⟩ : ∃ u, u = ft_sF s1 k 1 (s1.1 k1 1) := ⟨_, rfl⟩
  rw [← hs2] at hP
  replace hw := hw s2 hs2
  refine lv_aload_n hx hb dX8_take_23 rfl (lv_at hl 0 rfl) ?_
  refine lv_aload_n hx hb dX8_take_24 rfl (lv_at hl 1 rfl) ?_
  refine gC_8_2 hx hb hts i8 hown hK hP hk1 (hts _ q_X8_take_7) dX8_take_25 ?_
  refine pC_8_2 hx hb hts i8 hown hK hI hP hk (hts _ q_X8_take_7) dX8_take_28 (fun H locs hP => ?_)
  obtain ⟨s3, hs3⟩ : ∃ u, u = ft_sF s2 k 2 (s2.1 k1 2) := ⟨_, rfl⟩
  rw [← hs3] at hP
  replace hw := hw s3 hs3
  exact W.vret hx hb hr (cC_rv hP hw) hP.2.2.2 dX8_take_31
theorem q_X4_take_1 : (Cond.fieldLink RX4 10 "FaultTwins$State" "machine" "LFaultTwins$Machine;") ∈ wsX4_take := List.mem_of_getElem? (i := 1) (by decide +kernel)
theorem q_X4_take_2 : (Cond.fieldLink RX4 19 "FaultTwins$State" "watch" "LFaultTwins$Watch;") ∈ wsX4_take := List.mem_of_getElem? (i := 2) (by decide +kernel)
set_option maxHeartbeats 4000000 in
set_option maxRecDepth 100000 in
theorem c_X4_take (l : Launch) (Γ : ft_G) (hI : cC_I Γ) (k : Nat) (hk : cC_K k = 4) (k1 : Nat) (hk1 : cC_K k1 = 4) (σ : ft_St) (Φ : ft_St → Prop) (hw : w_X4_take k k1 σ Φ) : cC_Mv l yX4_take wsX4_take ({ frames := 2, cells := 0, slots := 0, locals := 81 } : Room) Γ σ [.ref (Γ.2.2 k), .ref (Γ.2.2 k1)] Φ := by
  refine Met.ofW (cc := cX4_take) (maxL := 2) (ret := none) (by decide) rfl ?_
  intro p e s m args below meth c s₁ B hml hv
  obtain ⟨rfl, hP, hK, hN⟩ := hv
  have hx := B.exec
  have hb := B.bytes
  have hr := B.returns
  have hts := atoms_spec (ws := wsX4_take) B.pre
  have hown : s.vm.findClass RX4 = some m.cls := findClass_of_methodNamed B.named
  have hlocks := B.notSynchronized
  have i4 : ∀ w ∈ wsX40, w ∈ wsX4_take := fun w h => List.mem_cons_of_mem _ (List.mem_append_left _ (List.mem_append_left _ (List.mem_append_right _ h)))
  have hP : cC_P Γ s σ s.heap [] := ⟨hP, va_S.rf⟩
  have hl := lv_entry ([.ref (Γ.2.2 k), .ref (Γ.2.2 k1)]) (n := 2) (Nat.le_of_ble_eq_true rfl)
  rw [lg_entry_eq]
  generalize (lg_sl ([.ref (Γ.2.2 k), .ref (Γ.2.2 k1)]) ++ List.replicate (2 - (lg_sl ([.ref (Γ.2.2 k), .ref (Γ.2.2 k1)])).length) Slot.unset).toArray = ls at hl ⊢
  have hl : lv_has ls 2 [(0, .ref (Γ.2.2 k)), (1, .ref (Γ.2.2 k1))] := hl
  unfold w_X4_take at hw
  refine lv_aload_n hx hb dX4_take_0 rfl (lv_at hl 0 rfl) ?_
  refine gC_4_0 hx hb hts i4 hown hK hP hk (hts _ q_X4_take_1) dX4_take_1 ?_
  refine lv_aload_n hx hb dX4_take_4 rfl (lv_at hl 1 rfl) ?_
  refine gC_4_0 hx hb hts i4 hown hK hP hk1 (hts _ q_X4_take_1) dX4_take_5 ?_
  refine cC_Vv (rest := []) ⟨hx, hb, hml, hown, hts⟩ (c_X1_take l Γ hI (k + 1) (tC_4_0 hk) (k1 + 1) (tC_4_0 hk1) σ _ hw) (cwV 1 hts gX4_take_X1_take rfl rfl rfl (by decide +kernel) ⟨Nat.le_of_ble_eq_true rfl, Nat.le_of_ble_eq_true rfl⟩) hK hN hP (cC_lt (tC_4_0 hk) (by decide)) (cC_E1 (tC_4_0 hk)) rfl rfl rfl hl.1 rfl (Nat.le_of_ble_eq_true rfl) dX4_take_8 ⟨Nat.le_refl _, Nat.le_refl _⟩ (fun s1 H locs hw hP => ?_)
  refine lv_aload_n hx hb dX4_take_11 rfl (lv_at hl 0 rfl) ?_
  refine gC_4_1 hx hb hts i4 hown hK hP hk (hts _ q_X4_take_2) dX4_take_12 ?_
  refine lv_aload_n hx hb dX4_take_15 rfl (lv_at hl 1 rfl) ?_
  refine gC_4_1 hx hb hts i4 hown hK hP hk1 (hts _ q_X4_take_2) dX4_take_16 ?_
  refine cC_Vv (rest := []) ⟨hx, hb, hml, hown, hts⟩ (c_X8_take l Γ hI (k + 5) (tC_4_1 hk) (k1 + 5) (tC_4_1 hk1) s1 _ hw) (cwV 1 hts gX4_take_X8_take rfl rfl rfl (by decide +kernel) ⟨Nat.le_of_ble_eq_true rfl, Nat.le_of_ble_eq_true rfl⟩) hK hN hP (cC_lt (tC_4_1 hk) (by decide)) (cC_E8 (tC_4_1 hk)) rfl rfl rfl hl.1 rfl (Nat.le_of_ble_eq_true rfl) dX4_take_19 ⟨Nat.le_refl _, Nat.le_refl _⟩ (fun s2 H locs hw hP => ?_)
  exact W.vret hx hb hr (cC_rv hP hw) hP.2.2.2 dX4_take_22
theorem q_X0_keep_1 : (Cond.fieldLink RX0 11 "FaultTwins$History" "states" "[LFaultTwins$State;") ∈ wsX0_keep := List.mem_of_getElem? (i := 1) (by decide +kernel)
theorem q_X0_keep_2 : (Cond.fieldLink RX0 18 "FaultTwins$History" "next" "I") ∈ wsX0_keep := List.mem_of_getElem? (i := 2) (by decide +kernel)
theorem q_X0_keep_3 : (Cond.fieldLink RX0 26 "FaultTwins$History" "count" "I") ∈ wsX0_keep := List.mem_of_getElem? (i := 3) (by decide +kernel)
theorem q_X0_keep_4 : (Cond.methodLink RX0 29 Lib.Math.min.name) ∈ wsX0_keep := List.mem_of_getElem? (i := 4) (by decide +kernel)
theorem q_X0_keep_5 : (Cond.static Lib.Math.min.name) ∈ wsX0_keep := List.mem_of_getElem? (i := 5) (by decide +kernel)
theorem q_X0_keep_6 : (Cond.initialized "java/lang/Math") ∈ wsX0_keep := List.mem_of_getElem? (i := 6) (by decide +kernel)
theorem q_X0_keep_7 : (Cond.code Lib.Math.min.name Lib.Math.min.code 2 (some .int)) ∈ wsX0_keep := List.mem_of_getElem? (i := 7) (by decide +kernel)
set_option maxHeartbeats 4000000 in
set_option maxRecDepth 100000 in
theorem c_X0_keep (l : Launch) (Γ : ft_G) (hI : cC_I Γ) (k : Nat) (hk : cC_K k = 0) (k1 : Nat) (hk1 : cC_K k1 = 4) (σ : ft_St) (Φ : ft_St → Prop) (hw : w_X0_keep k k1 σ Φ) : cC_Mv l yX0_keep wsX0_keep ({ frames := 3, cells := 0, slots := 0, locals := 102 } : Room) Γ σ [.ref (Γ.2.2 k), .ref (Γ.2.2 k1)] Φ := by
  refine Met.ofW (cc := cX0_keep) (maxL := 2) (ret := none) (by decide) rfl ?_
  intro p e s m args below meth c s₁ B hml hv
  obtain ⟨rfl, hP, hK, hN⟩ := hv
  have hx := B.exec
  have hb := B.bytes
  have hr := B.returns
  have hts := atoms_spec (ws := wsX0_keep) B.pre
  have hown : s.vm.findClass RX0 = some m.cls := findClass_of_methodNamed B.named
  have hlocks := B.notSynchronized
  have i0 : ∀ w ∈ wsX00, w ∈ wsX0_keep := fun w h => List.mem_cons_of_mem _ (List.mem_append_left _ (List.mem_append_left _ (List.mem_append_left _ (List.mem_append_right _ h))))
  have hP : cC_P Γ s σ s.heap [] := ⟨hP, va_S.rf⟩
  have hl := lv_entry ([.ref (Γ.2.2 k), .ref (Γ.2.2 k1)]) (n := 2) (Nat.le_of_ble_eq_true rfl)
  rw [lg_entry_eq]
  generalize (lg_sl ([.ref (Γ.2.2 k), .ref (Γ.2.2 k1)]) ++ List.replicate (2 - (lg_sl ([.ref (Γ.2.2 k), .ref (Γ.2.2 k1)])).length) Slot.unset).toArray = ls at hl ⊢
  have hl : lv_has ls 2 [(0, .ref (Γ.2.2 k)), (1, .ref (Γ.2.2 k1))] := hl
  unfold w_X0_keep at hw
  refine lv_aload_n hx hb dX0_keep_0 rfl (lv_at hl 0 rfl) ?_
  refine gC_0_0 hx hb hts i0 hown hK hP hk (hts _ q_X0_keep_1) dX0_keep_1 ?_
  refine lv_aload_n hx hb dX0_keep_4 rfl (lv_at hl 0 rfl) ?_
  refine gC_0_1 hx hb hts i0 hown hK hP hk (hts _ q_X0_keep_2) dX0_keep_5 ?_
  have hj8 : vp_in (σ.1 k 1) 6 := hw.1
  refine aC_ald hx hb hK hP (tC_0_0 hk) (nC_0_0 hk) hw.1 dX0_keep_8 ?_
  replace hw := hw.2
  refine lv_aload_n hx hb dX0_keep_9 rfl (lv_at hl 1 rfl) ?_
  refine cC_Vv (rest := []) ⟨hx, hb, hml, hown, hts⟩ (c_X4_take l Γ hI ((k + 1) + 1 + 7 * (Int32.toNatClampNeg (σ.1 k 1))) (tC_14 (tC_0_0 hk) (ft_in_lt hj8)) k1 hk1 σ _ hw) (cwV 1 hts gX0_keep_X4_take rfl rfl rfl (by decide +kernel) ⟨Nat.le_of_ble_eq_true rfl, Nat.le_of_ble_eq_true rfl⟩) hK hN hP (cC_lt (tC_14 (tC_0_0 hk) (ft_in_lt hj8)) (by decide)) (cC_E4 (tC_14 (tC_0_0 hk) (ft_in_lt hj8))) rfl rfl rfl hl.1 rfl (Nat.le_of_ble_eq_true rfl) dX0_keep_10 ⟨Nat.le_refl _, Nat.le_refl _⟩ (fun s1 H locs hw hP => ?_)
  refine lv_aload_n hx hb dX0_keep_13 rfl (lv_at hl 0 rfl) ?_
  refine lv_aload_n hx hb dX0_keep_14 rfl (lv_at hl 0 rfl) ?_
  refine gC_0_1 hx hb hts i0 hown hK hP hk (hts _ q_X0_keep_2) dX0_keep_15 ?_
  refine lv_iconst (v := 5) hx hb dX0_keep_18 (by decide) ?_
  refine ft_cut (hw (fun (x2 : Int32) => ∀ (H : Heap) (locs : List Loc) (ls : Array Slot), cC_P Γ s s1 H locs → lv_has ls 2 [(0, .ref (Γ.2.2 k))] → cC_Wv p l e ({ frames := 3, cells := 0, slots := 0, locals := 102 } : Room) s m [.ref (Γ.2.2 k), .ref (Γ.2.2 k1)] below meth c Γ Φ H locs 32 ls [.int x2, .ref (Γ.2.2 k)]) (fun x2 hw H locs ls hP hl => ?_)) (fun hw => ?_)
  · refine pC_0_1 hx hb hts i0 hown hK hI hP hk (hts _ q_X0_keep_2) dX0_keep_32 (fun H locs hP => ?_)
    obtain ⟨s4, hs4⟩ : ∃ u, u = ft_sF s1 k 1 x2 := ⟨_, rfl⟩
    rw [← hs4] at hP
    replace hw := hw s4 hs4
    refine lv_aload_n hx hb dX0_keep_35 rfl (lv_at hl 0 rfl) ?_
    refine lv_aload_n hx hb dX0_keep_36 rfl (lv_at hl 0 rfl) ?_
    refine gC_0_2 hx hb hts i0 hown hK hP hk (hts _ q_X0_keep_3) dX0_keep_37 ?_
    refine lv_iconst (v := 1) hx hb dX0_keep_40 (by decide) ?_
    refine lv_iadd hx hb dX0_keep_41 ?_
    refine lv_bipush (v := 6) hx hb dX0_keep_42 (by decide) ?_
    refine va_mmin hx hb (by rw [hml]; exact hl.1.symm) hown (hts _ q_X0_keep_4) (hts _ q_X0_keep_5) (hts _ q_X0_keep_6) (hts _ q_X0_keep_7) (Nat.le_of_ble_eq_true rfl) (Nat.le_of_ble_eq_true rfl) (Nat.le_refl _) (Nat.le_refl _) dX0_keep_44 ?_
    refine pC_0_2 hx hb hts i0 hown hK hI hP hk (hts _ q_X0_keep_3) dX0_keep_47 (fun H locs hP => ?_)
    obtain ⟨s5, hs5⟩ : ∃ u, u = ft_sF s4 k 2 (if 6 < ((s4.1 k 2) + 1) then 6 else ((s4.1 k 2) + 1)) := ⟨_, rfl⟩
    rw [← hs5] at hP
    replace hw := hw s5 hs5
    exact W.vret hx hb hr (cC_rv hP hw) hP.2.2.2 dX0_keep_50
  · refine lv_icmp_ne (tgt := 26) hx hb dX0_keep_19 (by decide) (fun h => ?_) (fun h => ?_)
    · replace hw := hw.1 h
      refine lv_aload_n hx hb dX0_keep_26 rfl (lv_at hl 0 rfl) ?_
      refine gC_0_1 hx hb hts i0 hown hK hP hk (hts _ q_X0_keep_2) dX0_keep_27 ?_
      refine lv_iconst (v := 1) hx hb dX0_keep_30 (by decide) ?_
      refine lv_iadd hx hb dX0_keep_31 ?_
      exact hw _ _ _ hP (lv_sub hl [0] rfl)
    · replace hw := hw.2 h
      refine lv_iconst (v := 0) hx hb dX0_keep_22 (by decide) ?_
      refine lv_goto (tgt := 32) hx hb dX0_keep_23 (by decide) ?_
      exact hw _ _ _ hP (lv_sub hl [0] rfl)
theorem q_X0_giveBack_1 : (Cond.fieldLink RX0 26 "FaultTwins$History" "count" "I") ∈ wsX0_giveBack := List.mem_of_getElem? (i := 1) (by decide +kernel)
theorem q_X0_giveBack_2 : (Cond.fieldLink RX0 18 "FaultTwins$History" "next" "I") ∈ wsX0_giveBack := List.mem_of_getElem? (i := 2) (by decide +kernel)
theorem q_X0_giveBack_3 : (Cond.fieldLink RX0 11 "FaultTwins$History" "states" "[LFaultTwins$State;") ∈ wsX0_giveBack := List.mem_of_getElem? (i := 3) (by decide +kernel)
set_option maxHeartbeats 4000000 in
set_option maxRecDepth 100000 in
theorem c_X0_giveBack (l : Launch) (Γ : ft_G) (hI : cC_I Γ) (k : Nat) (hk : cC_K k = 0) (k1 : Nat) (hk1 : cC_K k1 = 4) (σ : ft_St) (Φ : ft_St → Prop) (hw : w_X0_giveBack k k1 σ Φ) : cC_Mv l yX0_giveBack wsX0_giveBack ({ frames := 3, cells := 0, slots := 0, locals := 102 } : Room) Γ σ [.ref (Γ.2.2 k), .ref (Γ.2.2 k1)] Φ := by
  refine Met.ofW (cc := cX0_giveBack) (maxL := 2) (ret := none) (by decide) rfl ?_
  intro p e s m args below meth c s₁ B hml hv
  obtain ⟨rfl, hP, hK, hN⟩ := hv
  have hx := B.exec
  have hb := B.bytes
  have hr := B.returns
  have hts := atoms_spec (ws := wsX0_giveBack) B.pre
  have hown : s.vm.findClass RX0 = some m.cls := findClass_of_methodNamed B.named
  have hlocks := B.notSynchronized
  have i0 : ∀ w ∈ wsX00, w ∈ wsX0_giveBack := fun w h => List.mem_cons_of_mem _ (List.mem_append_left _ (List.mem_append_left _ (List.mem_append_left _ (List.mem_append_right _ h))))
  have hP : cC_P Γ s σ s.heap [] := ⟨hP, va_S.rf⟩
  have hl := lv_entry ([.ref (Γ.2.2 k), .ref (Γ.2.2 k1)]) (n := 2) (Nat.le_of_ble_eq_true rfl)
  rw [lg_entry_eq]
  generalize (lg_sl ([.ref (Γ.2.2 k), .ref (Γ.2.2 k1)]) ++ List.replicate (2 - (lg_sl ([.ref (Γ.2.2 k), .ref (Γ.2.2 k1)])).length) Slot.unset).toArray = ls at hl ⊢
  have hl : lv_has ls 2 [(0, .ref (Γ.2.2 k)), (1, .ref (Γ.2.2 k1))] := hl
  unfold w_X0_giveBack at hw
  refine lv_aload_n hx hb dX0_giveBack_0 rfl (lv_at hl 0 rfl) ?_
  refine gC_0_2 hx hb hts i0 hown hK hP hk (hts _ q_X0_giveBack_1) dX0_giveBack_1 ?_
  refine lv_if_le (tgt := 51) hx hb dX0_giveBack_4 (by decide) (fun h => ?_) (fun h => ?_)
  · replace hw := hw.1 h
    exact W.vret hx hb hr (cC_rv hP hw) hP.2.2.2 dX0_giveBack_51
  · replace hw := hw.2 h
    refine lv_aload_n hx hb dX0_giveBack_7 rfl (lv_at hl 0 rfl) ?_
    refine lv_aload_n hx hb dX0_giveBack_8 rfl (lv_at hl 0 rfl) ?_
    refine gC_0_1 hx hb hts i0 hown hK hP hk (hts _ q_X0_giveBack_2) dX0_giveBack_9 ?_
    refine ft_cut (hw (fun (x1 : Int32) => ∀ (H : Heap) (locs : List Loc) (ls : Array Slot), cC_P Γ s σ H locs → lv_has ls 2 [(0, .ref (Γ.2.2 k)), (1, .ref (Γ.2.2 k1))] → cC_Wv p l e ({ frames := 3, cells := 0, slots := 0, locals := 102 } : Room) s m [.ref (Γ.2.2 k), .ref (Γ.2.2 k1)] below meth c Γ Φ H locs 25 ls [.int x1, .ref (Γ.2.2 k)]) (fun x1 hw H locs ls hP hl => ?_)) (fun hw => ?_)
    · refine pC_0_1 hx hb hts i0 hown hK hI hP hk (hts _ q_X0_giveBack_2) dX0_giveBack_25 (fun H locs hP => ?_)
      obtain ⟨s3, hs3⟩ : ∃ u, u = ft_sF σ k 1 x1 := ⟨_, rfl⟩
      rw [← hs3] at hP
      replace hw := hw s3 hs3
      refine lv_aload_n hx hb dX0_giveBack_28 rfl (lv_at hl 0 rfl) ?_
      refine lv_dup hx hb dX0_giveBack_29 rfl ?_
      refine gC_0_2 hx hb hts i0 hown hK hP hk (hts _ q_X0_giveBack_1) dX0_giveBack_30 ?_
      refine lv_iconst (v := 1) hx hb dX0_giveBack_33 (by decide) ?_
      refine lv_isub hx hb dX0_giveBack_34 ?_
      refine pC_0_2 hx hb hts i0 hown hK hI hP hk (hts _ q_X0_giveBack_1) dX0_giveBack_35 (fun H locs hP => ?_)
      obtain ⟨s4, hs4⟩ : ∃ u, u = ft_sF s3 k 2 ((s3.1 k 2) - 1) := ⟨_, rfl⟩
      rw [← hs4] at hP
      replace hw := hw s4 hs4
      refine lv_aload_n hx hb dX0_giveBack_38 rfl (lv_at hl 1 rfl) ?_
      refine lv_aload_n hx hb dX0_giveBack_39 rfl (lv_at hl 0 rfl) ?_
      refine gC_0_0 hx hb hts i0 hown hK hP hk (hts _ q_X0_giveBack_3) dX0_giveBack_40 ?_
      refine lv_aload_n hx hb dX0_giveBack_43 rfl (lv_at hl 0 rfl) ?_
      refine gC_0_1 hx hb hts i0 hown hK hP hk (hts _ q_X0_giveBack_2) dX0_giveBack_44 ?_
      have hj47 : vp_in (s4.1 k 1) 6 := hw.1
      refine aC_ald hx hb hK hP (tC_0_0 hk) (nC_0_0 hk) hw.1 dX0_giveBack_47 ?_
      replace hw := hw.2
      refine cC_Vv (rest := []) ⟨hx, hb, hml, hown, hts⟩ (c_X4_take l Γ hI k1 hk1 ((k + 1) + 1 + 7 * (Int32.toNatClampNeg (s4.1 k 1))) (tC_14 (tC_0_0 hk) (ft_in_lt hj47)) s4 _ hw) (cwV 1 hts gX0_giveBack_X4_take rfl rfl rfl (by decide +kernel) ⟨Nat.le_of_ble_eq_true rfl, Nat.le_of_ble_eq_true rfl⟩) hK hN hP (cC_lt hk1 (by decide)) (cC_E4 hk1) rfl rfl rfl hl.1 rfl (Nat.le_of_ble_eq_true rfl) dX0_giveBack_48 ⟨Nat.le_refl _, Nat.le_refl _⟩ (fun s5 H locs hw hP => ?_)
      exact W.vret hx hb hr (cC_rv hP hw) hP.2.2.2 dX0_giveBack_51
    · refine lv_if_ne (tgt := 19) hx hb dX0_giveBack_12 (by decide) (fun h => ?_) (fun h => ?_)
      · replace hw := hw.1 h
        refine lv_aload_n hx hb dX0_giveBack_19 rfl (lv_at hl 0 rfl) ?_
        refine gC_0_1 hx hb hts i0 hown hK hP hk (hts _ q_X0_giveBack_2) dX0_giveBack_20 ?_
        refine lv_iconst (v := 1) hx hb dX0_giveBack_23 (by decide) ?_
        refine lv_isub hx hb dX0_giveBack_24 ?_
        exact hw _ _ _ hP (lv_sub hl [0, 1] rfl)
      · replace hw := hw.2 h
        refine lv_iconst (v := 5) hx hb dX0_giveBack_15 (by decide) ?_
        refine lv_goto (tgt := 25) hx hb dX0_giveBack_16 (by decide) ?_
        exact hw _ _ _ hP (lv_sub hl [0, 1] rfl)
theorem q_X1_isFull_1 : (Cond.fieldLink RX1 25 "FaultTwins$Machine" "ways" "I") ∈ wsX1_isFull := List.mem_of_getElem? (i := 1) (by decide +kernel)
set_option maxHeartbeats 4000000 in
set_option maxRecDepth 100000 in
theorem c_X1_isFull (l : Launch) (Γ : ft_G) (hI : cC_I Γ) (k : Nat) (hk : cC_K k = 1) (σ : ft_St) (Φ : Int32 → Prop) (hw : w_X1_isFull k σ Φ) : cC_Mip l yX1_isFull wsX1_isFull ({ frames := 0, cells := 0, slots := 0, locals := 0 } : Room) Γ σ [.ref (Γ.2.2 k)] Φ := by
  refine Met.ofW (cc := cX1_isFull) (maxL := 1) (ret := (some .boolean)) (by decide) rfl ?_
  intro p e s m args below meth c s₁ B hml hv
  obtain ⟨rfl, hP, hK, hN⟩ := hv
  have hx := B.exec
  have hb := B.bytes
  have hr := B.returns
  have hts := atoms_spec (ws := wsX1_isFull) B.pre
  have hown : s.vm.findClass RX1 = some m.cls := findClass_of_methodNamed B.named
  have hlocks := B.notSynchronized
  have i1 : ∀ w ∈ wsX10, w ∈ wsX1_isFull := fun w h => List.mem_cons_of_mem _ (List.mem_append_right _ h)
  have hP : cC_P Γ s σ s.heap [] := ⟨hP, va_S.rf⟩
  have hl := lv_entry ([.ref (Γ.2.2 k)]) (n := 1) (Nat.le_of_ble_eq_true rfl)
  rw [lg_entry_eq]
  generalize (lg_sl ([.ref (Γ.2.2 k)]) ++ List.replicate (1 - (lg_sl ([.ref (Γ.2.2 k)])).length) Slot.unset).toArray = ls at hl ⊢
  have hl : lv_has ls 1 [(0, .ref (Γ.2.2 k))] := hl
  unfold w_X1_isFull at hw
  refine lv_aload_n hx hb dX1_isFull_0 rfl (lv_at hl 0 rfl) ?_
  refine gC_1_3 hx hb hts i1 hown hK hP hk (hts _ q_X1_isFull_1) dX1_isFull_1 ?_
  refine lv_bipush (v := 24) hx hb dX1_isFull_4 (by decide) ?_
  refine lv_icmp_lt (tgt := 13) hx hb dX1_isFull_6 (by decide) (fun h => ?_) (fun h => ?_)
  · replace hw := hw.1 h
    refine lv_iconst (v := 0) hx hb dX1_isFull_13 (by decide) ?_
    exact W.zret hx hb hr rfl (cC_ri hP ⟨rfl, hw⟩) hP.2.2.2 dX1_isFull_14
  · replace hw := hw.2 h
    refine lv_iconst (v := 1) hx hb dX1_isFull_9 (by decide) ?_
    refine lv_goto (tgt := 14) hx hb dX1_isFull_10 (by decide) ?_
    exact W.zret hx hb hr rfl (cC_ri hP ⟨rfl, hw⟩) hP.2.2.2 dX1_isFull_14
theorem q_X1_isSeen_1 : (Cond.fieldLink RX1 21 "FaultTwins$Machine" "seen" "I") ∈ wsX1_isSeen := List.mem_of_getElem? (i := 1) (by decide +kernel)
set_option maxHeartbeats 4000000 in
set_option maxRecDepth 100000 in
theorem c_X1_isSeen (l : Launch) (Γ : ft_G) (hI : cC_I Γ) (k : Nat) (hk : cC_K k = 1) (a1 : Int32) (σ : ft_St) (Φ : Int32 → Prop) (hw : w_X1_isSeen k a1 σ Φ) : cC_Mip l yX1_isSeen wsX1_isSeen ({ frames := 0, cells := 0, slots := 0, locals := 0 } : Room) Γ σ [.ref (Γ.2.2 k), .int a1] Φ := by
  refine Met.ofW (cc := cX1_isSeen) (maxL := 2) (ret := (some .boolean)) (by decide) rfl ?_
  intro p e s m args below meth c s₁ B hml hv
  obtain ⟨rfl, hP, hK, hN⟩ := hv
  have hx := B.exec
  have hb := B.bytes
  have hr := B.returns
  have hts := atoms_spec (ws := wsX1_isSeen) B.pre
  have hown : s.vm.findClass RX1 = some m.cls := findClass_of_methodNamed B.named
  have hlocks := B.notSynchronized
  have i1 : ∀ w ∈ wsX10, w ∈ wsX1_isSeen := fun w h => List.mem_cons_of_mem _ (List.mem_append_right _ h)
  have hP : cC_P Γ s σ s.heap [] := ⟨hP, va_S.rf⟩
  have hl := lv_entry ([.ref (Γ.2.2 k), .int a1]) (n := 2) (Nat.le_of_ble_eq_true rfl)
  rw [lg_entry_eq]
  generalize (lg_sl ([.ref (Γ.2.2 k), .int a1]) ++ List.replicate (2 - (lg_sl ([.ref (Γ.2.2 k), .int a1])).length) Slot.unset).toArray = ls at hl ⊢
  have hl : lv_has ls 2 [(0, .ref (Γ.2.2 k)), (1, .int a1)] := hl
  unfold w_X1_isSeen at hw
  refine lv_aload_n hx hb dX1_isSeen_0 rfl (lv_at hl 0 rfl) ?_
  refine gC_1_4 hx hb hts i1 hown hK hP hk (hts _ q_X1_isSeen_1) dX1_isSeen_1 ?_
  refine lv_iload_n hx hb dX1_isSeen_4 rfl (lv_at hl 1 rfl) ?_
  refine lv_ishr hx hb dX1_isSeen_5 ?_
  refine lv_iconst (v := 1) hx hb dX1_isSeen_6 (by decide) ?_
  refine lv_iand hx hb dX1_isSeen_7 ?_
  refine lv_iconst (v := 1) hx hb dX1_isSeen_8 (by decide) ?_
  refine lv_icmp_ne (tgt := 16) hx hb dX1_isSeen_9 (by decide) (fun h => ?_) (fun h => ?_)
  · replace hw := hw.1 h
    refine lv_iconst (v := 0) hx hb dX1_isSeen_16 (by decide) ?_
    exact W.zret hx hb hr rfl (cC_ri hP ⟨rfl, hw⟩) hP.2.2.2 dX1_isSeen_17
  · replace hw := hw.2 h
    refine lv_iconst (v := 1) hx hb dX1_isSeen_12 (by decide) ?_
    refine lv_goto (tgt := 17) hx hb dX1_isSeen_13 (by decide) ?_
    exact W.zret hx hb hr rfl (cC_ri hP ⟨rfl, hw⟩) hP.2.2.2 dX1_isSeen_17
theorem q_X1_isFault_1 : (Cond.fieldLink RX1 28 "FaultTwins$Machine" "faults" "I") ∈ wsX1_isFault := List.mem_of_getElem? (i := 1) (by decide +kernel)
set_option maxHeartbeats 4000000 in
set_option maxRecDepth 100000 in
theorem c_X1_isFault (l : Launch) (Γ : ft_G) (hI : cC_I Γ) (k : Nat) (hk : cC_K k = 1) (a1 : Int32) (σ : ft_St) (Φ : Int32 → Prop) (hw : w_X1_isFault k a1 σ Φ) : cC_Mip l yX1_isFault wsX1_isFault ({ frames := 0, cells := 0, slots := 0, locals := 0 } : Room) Γ σ [.ref (Γ.2.2 k), .int a1] Φ := by
  refine Met.ofW (cc := cX1_isFault) (maxL := 2) (ret := (some .boolean)) (by decide) rfl ?_
  intro p e s m args below meth c s₁ B hml hv
  obtain ⟨rfl, hP, hK, hN⟩ := hv
  have hx := B.exec
  have hb := B.bytes
  have hr := B.returns
  have hts := atoms_spec (ws := wsX1_isFault) B.pre
  have hown : s.vm.findClass RX1 = some m.cls := findClass_of_methodNamed B.named
  have hlocks := B.notSynchronized
  have i1 : ∀ w ∈ wsX10, w ∈ wsX1_isFault := fun w h => List.mem_cons_of_mem _ (List.mem_append_right _ h)
  have hP : cC_P Γ s σ s.heap [] := ⟨hP, va_S.rf⟩
  have hl := lv_entry ([.ref (Γ.2.2 k), .int a1]) (n := 2) (Nat.le_of_ble_eq_true rfl)
  rw [lg_entry_eq]
  generalize (lg_sl ([.ref (Γ.2.2 k), .int a1]) ++ List.replicate (2 - (lg_sl ([.ref (Γ.2.2 k), .int a1])).length) Slot.unset).toArray = ls at hl ⊢
  have hl : lv_has ls 2 [(0, .ref (Γ.2.2 k)), (1, .int a1)] := hl
  unfold w_X1_isFault at hw
  refine lv_aload_n hx hb dX1_isFault_0 rfl (lv_at hl 0 rfl) ?_
  refine gC_1_5 hx hb hts i1 hown hK hP hk (hts _ q_X1_isFault_1) dX1_isFault_1 ?_
  refine lv_iload_n hx hb dX1_isFault_4 rfl (lv_at hl 1 rfl) ?_
  refine lv_ishr hx hb dX1_isFault_5 ?_
  refine lv_iconst (v := 1) hx hb dX1_isFault_6 (by decide) ?_
  refine lv_iand hx hb dX1_isFault_7 ?_
  refine lv_iconst (v := 1) hx hb dX1_isFault_8 (by decide) ?_
  refine lv_icmp_ne (tgt := 16) hx hb dX1_isFault_9 (by decide) (fun h => ?_) (fun h => ?_)
  · replace hw := hw.1 h
    refine lv_iconst (v := 0) hx hb dX1_isFault_16 (by decide) ?_
    exact W.zret hx hb hr rfl (cC_ri hP ⟨rfl, hw⟩) hP.2.2.2 dX1_isFault_17
  · replace hw := hw.2 h
    refine lv_iconst (v := 1) hx hb dX1_isFault_12 (by decide) ?_
    refine lv_goto (tgt := 17) hx hb dX1_isFault_13 (by decide) ?_
    exact W.zret hx hb hr rfl (cC_ri hP ⟨rfl, hw⟩) hP.2.2.2 dX1_isFault_17
theorem q_X1_eyesFree_1 : (Cond.fieldLink RX1 21 "FaultTwins$Machine" "seen" "I") ∈ wsX1_eyesFree := List.mem_of_getElem? (i := 1) (by decide +kernel)
theorem q_X1_eyesFree_2 : (Cond.fieldLink RX1 28 "FaultTwins$Machine" "faults" "I") ∈ wsX1_eyesFree := List.mem_of_getElem? (i := 2) (by decide +kernel)
set_option maxHeartbeats 4000000 in
set_option maxRecDepth 100000 in
theorem c_X1_eyesFree (l : Launch) (Γ : ft_G) (hI : cC_I Γ) (k : Nat) (hk : cC_K k = 1) (σ : ft_St) (Φ : Int32 → Prop) (hw : w_X1_eyesFree k σ Φ) : cC_Mip l yX1_eyesFree wsX1_eyesFree ({ frames := 0, cells := 0, slots := 0, locals := 0 } : Room) Γ σ [.ref (Γ.2.2 k)] Φ := by
  refine Met.ofW (cc := cX1_eyesFree) (maxL := 1) (ret := (some .int)) (by decide) rfl ?_
  intro p e s m args below meth c s₁ B hml hv
  obtain ⟨rfl, hP, hK, hN⟩ := hv
  have hx := B.exec
  have hb := B.bytes
  have hr := B.returns
  have hts := atoms_spec (ws := wsX1_eyesFree) B.pre
  have hown : s.vm.findClass RX1 = some m.cls := findClass_of_methodNamed B.named
  have hlocks := B.notSynchronized
  have i1 : ∀ w ∈ wsX10, w ∈ wsX1_eyesFree := fun w h => List.mem_cons_of_mem _ (List.mem_append_right _ h)
  have hP : cC_P Γ s σ s.heap [] := ⟨hP, va_S.rf⟩
  have hl := lv_entry ([.ref (Γ.2.2 k)]) (n := 1) (Nat.le_of_ble_eq_true rfl)
  rw [lg_entry_eq]
  generalize (lg_sl ([.ref (Γ.2.2 k)]) ++ List.replicate (1 - (lg_sl ([.ref (Γ.2.2 k)])).length) Slot.unset).toArray = ls at hl ⊢
  have hl : lv_has ls 1 [(0, .ref (Γ.2.2 k))] := hl
  unfold w_X1_eyesFree at hw
  refine lv_sipush (v := 255) hx hb dX1_eyesFree_0 (by decide) ?_
  refine lv_aload_n hx hb dX1_eyesFree_3 rfl (lv_at hl 0 rfl) ?_
  refine gC_1_4 hx hb hts i1 hown hK hP hk (hts _ q_X1_eyesFree_1) dX1_eyesFree_4 ?_
  refine lv_iconst (v := (-1)) hx hb dX1_eyesFree_7 (by decide) ?_
  refine lv_ixor hx hb dX1_eyesFree_8 ?_
  refine lv_iand hx hb dX1_eyesFree_9 ?_
  refine lv_aload_n hx hb dX1_eyesFree_10 rfl (lv_at hl 0 rfl) ?_
  refine gC_1_5 hx hb hts i1 hown hK hP hk (hts _ q_X1_eyesFree_2) dX1_eyesFree_11 ?_
  refine lv_iconst (v := (-1)) hx hb dX1_eyesFree_14 (by decide) ?_
  refine lv_ixor hx hb dX1_eyesFree_15 ?_
  refine lv_iand hx hb dX1_eyesFree_16 ?_
  exact W.iret hx hb hr (cC_ri hP ⟨rfl, hw⟩) hP.2.2.2 dX1_eyesFree_17
theorem q_X1_has_1 : (Cond.fieldLink RX1 25 "FaultTwins$Machine" "ways" "I") ∈ wsX1_has := List.mem_of_getElem? (i := 1) (by decide +kernel)
theorem q_X1_has_2 : (Cond.fieldLink RX1 9 "FaultTwins$Machine" "from" "[I") ∈ wsX1_has := List.mem_of_getElem? (i := 2) (by decide +kernel)
theorem q_X1_has_3 : (Cond.fieldLink RX1 15 "FaultTwins$Machine" "by" "[I") ∈ wsX1_has := List.mem_of_getElem? (i := 3) (by decide +kernel)
theorem q_X1_has_4 : (Cond.fieldLink RX1 18 "FaultTwins$Machine" "to" "[I") ∈ wsX1_has := List.mem_of_getElem? (i := 4) (by decide +kernel)
set_option maxHeartbeats 4000000 in
set_option maxRecDepth 100000 in
theorem c_X1_has (l : Launch) (Γ : ft_G) (hI : cC_I Γ) (k : Nat) (hk : cC_K k = 1) (a1 : Int32) (a2 : Int32) (a3 : Int32) (σ : ft_St) (Φ : Int32 → Prop) (hw : w_X1_has k a1 a2 a3 σ Φ) : cC_Mip l yX1_has wsX1_has ({ frames := 0, cells := 0, slots := 0, locals := 0 } : Room) Γ σ [.ref (Γ.2.2 k), .int a1, .int a2, .int a3] Φ := by
  refine Met.ofW (cc := cX1_has) (maxL := 5) (ret := (some .boolean)) (by decide) rfl ?_
  intro p e s m args below meth c s₁ B hml hv
  obtain ⟨rfl, hP, hK, hN⟩ := hv
  have hx := B.exec
  have hb := B.bytes
  have hr := B.returns
  have hts := atoms_spec (ws := wsX1_has) B.pre
  have hown : s.vm.findClass RX1 = some m.cls := findClass_of_methodNamed B.named
  have hlocks := B.notSynchronized
  have i1 : ∀ w ∈ wsX10, w ∈ wsX1_has := fun w h => List.mem_cons_of_mem _ (List.mem_append_right _ h)
  have hP : cC_P Γ s σ s.heap [] := ⟨hP, va_S.rf⟩
  have hl := lv_entry ([.ref (Γ.2.2 k), .int a1, .int a2, .int a3]) (n := 5) (Nat.le_of_ble_eq_true rfl)
  rw [lg_entry_eq]
  generalize (lg_sl ([.ref (Γ.2.2 k), .int a1, .int a2, .int a3]) ++ List.replicate (5 - (lg_sl ([.ref (Γ.2.2 k), .int a1, .int a2, .int a3])).length) Slot.unset).toArray = ls at hl ⊢
  have hl : lv_has ls 5 [(0, .ref (Γ.2.2 k)), (1, .int a1), (2, .int a2), (3, .int a3)] := hl
  unfold w_X1_has at hw
  refine lv_iconst (v := 0) hx hb dX1_has_0 (by decide) ?_
  refine lv_istore (lv' := [(4, .int 0), (0, .ref (Γ.2.2 k)), (1, .int a1), (2, .int a2), (3, .int a3)]) hx hb dX1_has_1 hl (by decide) rfl (fun ls hl => ?_)
  refine hw (fun (x1 : Int32) => ∀ (H : Heap) (locs : List Loc) (ls : Array Slot), cC_P Γ s σ H locs → lv_has ls 5 [(0, .ref (Γ.2.2 k)), (1, .int a1), (2, .int a2), (3, .int a3), (4, .int x1)] → cC_Wi p l e ({ frames := 0, cells := 0, slots := 0, locals := 0 } : Room) s m [.ref (Γ.2.2 k), .int a1, .int a2, .int a3] below meth c Γ (fun r u => u = σ ∧ Φ r) H locs 3 ls []) (fun x1 hw H locs ls hP hl => ?_) _ _ _ hP (lv_sub hl [1, 2, 3, 4, 0] rfl)
  refine lv_iload hx hb dX1_has_3 (lv_at hl 4 rfl) ?_
  refine lv_aload_n hx hb dX1_has_5 rfl (lv_at hl 0 rfl) ?_
  refine gC_1_3 hx hb hts i1 hown hK hP hk (hts _ q_X1_has_1) dX1_has_6 ?_
  refine lv_icmp_ge (tgt := 53) hx hb dX1_has_9 (by decide) (fun h => ?_) (fun h => ?_)
  · replace hw := hw.1 h
    refine lv_iconst (v := 0) hx hb dX1_has_53 (by decide) ?_
    exact W.zret hx hb hr rfl (cC_ri hP ⟨rfl, hw⟩) hP.2.2.2 dX1_has_54
  · replace hw := hw.2 h
    refine lv_aload_n hx hb dX1_has_12 rfl (lv_at hl 0 rfl) ?_
    refine gC_1_0 hx hb hts i1 hown hK hP hk (hts _ q_X1_has_2) dX1_has_13 ?_
    refine lv_iload hx hb dX1_has_16 (lv_at hl 4 rfl) ?_
    refine aC_ld hx hb hK hP (tC_1_0 hk) (nC_1_0 hk) hw.1 dX1_has_18 ?_
    replace hw := hw.2
    refine lv_iload_n hx hb dX1_has_19 rfl (lv_at hl 1 rfl) ?_
    refine lv_icmp_ne (tgt := 47) hx hb dX1_has_20 (by decide) (fun h => ?_) (fun h => ?_)
    · replace hw := hw.1 h
      refine lv_iinc (v := x1 + 1) (lv' := [(4, .int (x1 + 1)), (0, .ref (Γ.2.2 k)), (1, .int a1), (2, .int a2), (3, .int a3)]) hx hb dX1_has_47 hl (k := 4) rfl (congrArg (fun z => x1 + z) (by decide)) (by decide) rfl (fun ls hl => ?_)
      refine lv_goto (tgt := 3) hx hb dX1_has_50 (by decide) ?_
      exact hw _ _ _ hP (lv_sub hl [1, 2, 3, 4, 0] rfl)
    · replace hw := hw.2 h
      refine lv_aload_n hx hb dX1_has_23 rfl (lv_at hl 0 rfl) ?_
      refine gC_1_1 hx hb hts i1 hown hK hP hk (hts _ q_X1_has_3) dX1_has_24 ?_
      refine lv_iload hx hb dX1_has_27 (lv_at hl 4 rfl) ?_
      refine aC_ld hx hb hK hP (tC_1_1 hk) (nC_1_1 hk) hw.1 dX1_has_29 ?_
      replace hw := hw.2
      refine lv_iload_n hx hb dX1_has_30 rfl (lv_at hl 2 rfl) ?_
      refine lv_icmp_ne (tgt := 47) hx hb dX1_has_31 (by decide) (fun h => ?_) (fun h => ?_)
      · replace hw := hw.1 h
        refine lv_iinc (v := x1 + 1) (lv' := [(4, .int (x1 + 1)), (0, .ref (Γ.2.2 k)), (1, .int a1), (2, .int a2), (3, .int a3)]) hx hb dX1_has_47 hl (k := 4) rfl (congrArg (fun z => x1 + z) (by decide)) (by decide) rfl (fun ls hl => ?_)
        refine lv_goto (tgt := 3) hx hb dX1_has_50 (by decide) ?_
        exact hw _ _ _ hP (lv_sub hl [1, 2, 3, 4, 0] rfl)
      · replace hw := hw.2 h
        refine lv_aload_n hx hb dX1_has_34 rfl (lv_at hl 0 rfl) ?_
        refine gC_1_2 hx hb hts i1 hown hK hP hk (hts _ q_X1_has_4) dX1_has_35 ?_
        refine lv_iload hx hb dX1_has_38 (lv_at hl 4 rfl) ?_
        refine aC_ld hx hb hK hP (tC_1_2 hk) (nC_1_2 hk) hw.1 dX1_has_40 ?_
        replace hw := hw.2
        refine lv_iload_n hx hb dX1_has_41 rfl (lv_at hl 3 rfl) ?_
        refine lv_icmp_ne (tgt := 47) hx hb dX1_has_42 (by decide) (fun h => ?_) (fun h => ?_)
        · replace hw := hw.1 h
          refine lv_iinc (v := x1 + 1) (lv' := [(4, .int (x1 + 1)), (0, .ref (Γ.2.2 k)), (1, .int a1), (2, .int a2), (3, .int a3)]) hx hb dX1_has_47 hl (k := 4) rfl (congrArg (fun z => x1 + z) (by decide)) (by decide) rfl (fun ls hl => ?_)
          refine lv_goto (tgt := 3) hx hb dX1_has_50 (by decide) ?_
          exact hw _ _ _ hP (lv_sub hl [1, 2, 3, 4, 0] rfl)
        · replace hw := hw.2 h
          refine lv_iconst (v := 1) hx hb dX1_has_45 (by decide) ?_
          exact W.zret hx hb hr rfl (cC_ri hP ⟨rfl, hw⟩) hP.2.2.2 dX1_has_46
theorem q_X1_add_1 : (Cond.fieldLink RX1 9 "FaultTwins$Machine" "from" "[I") ∈ wsX1_add := List.mem_of_getElem? (i := 1) (by decide +kernel)
theorem q_X1_add_2 : (Cond.fieldLink RX1 25 "FaultTwins$Machine" "ways" "I") ∈ wsX1_add := List.mem_of_getElem? (i := 2) (by decide +kernel)
theorem q_X1_add_3 : (Cond.fieldLink RX1 15 "FaultTwins$Machine" "by" "[I") ∈ wsX1_add := List.mem_of_getElem? (i := 3) (by decide +kernel)
theorem q_X1_add_4 : (Cond.fieldLink RX1 18 "FaultTwins$Machine" "to" "[I") ∈ wsX1_add := List.mem_of_getElem? (i := 4) (by decide +kernel)
set_option maxHeartbeats 4000000 in
set_option maxRecDepth 100000 in
theorem c_X1_add (l : Launch) (Γ : ft_G) (hI : cC_I Γ) (k : Nat) (hk : cC_K k = 1) (a1 : Int32) (a2 : Int32) (a3 : Int32) (σ : ft_St) (Φ : ft_St → Prop) (hw : w_X1_add k a1 a2 a3 σ Φ) : cC_Mv l yX1_add wsX1_add ({ frames := 1, cells := 0, slots := 0, locals := 20 } : Room) Γ σ [.ref (Γ.2.2 k), .int a1, .int a2, .int a3] Φ := by
  refine Met.ofW (cc := cX1_add) (maxL := 4) (ret := none) (by decide) rfl ?_
  intro p e s m args below meth c s₁ B hml hv
  obtain ⟨rfl, hP, hK, hN⟩ := hv
  have hx := B.exec
  have hb := B.bytes
  have hr := B.returns
  have hts := atoms_spec (ws := wsX1_add) B.pre
  have hown : s.vm.findClass RX1 = some m.cls := findClass_of_methodNamed B.named
  have hlocks := B.notSynchronized
  have i1 : ∀ w ∈ wsX10, w ∈ wsX1_add := fun w h => List.mem_cons_of_mem _ (List.mem_append_right _ h)
  have hP : cC_P Γ s σ s.heap [] := ⟨hP, va_S.rf⟩
  have hl := lv_entry ([.ref (Γ.2.2 k), .int a1, .int a2, .int a3]) (n := 4) (Nat.le_of_ble_eq_true rfl)
  rw [lg_entry_eq]
  generalize (lg_sl ([.ref (Γ.2.2 k), .int a1, .int a2, .int a3]) ++ List.replicate (4 - (lg_sl ([.ref (Γ.2.2 k), .int a1, .int a2, .int a3])).length) Slot.unset).toArray = ls at hl ⊢
  have hl : lv_has ls 4 [(0, .ref (Γ.2.2 k)), (1, .int a1), (2, .int a2), (3, .int a3)] := hl
  unfold w_X1_add at hw
  refine lv_aload_n hx hb dX1_add_0 rfl (lv_at hl 0 rfl) ?_
  refine cC_Vip (rest := []) ⟨hx, hb, hml, hown, hts⟩ (c_X1_isFull l Γ hI k hk σ _ hw) (cwV 0 hts gX1_add_X1_isFull rfl rfl rfl (by decide +kernel) ⟨Nat.le_of_ble_eq_true rfl, Nat.le_of_ble_eq_true rfl⟩) hK hN hP (cC_lt hk (by decide)) (cC_E1 hk) rfl rfl rfl hl.1 rfl (Nat.le_of_ble_eq_true rfl) dX1_add_1 ⟨Nat.le_refl _, Nat.le_refl _⟩ (fun r1 H locs hw hP => ?_)
  refine lv_if_ne (tgt := 47) hx hb dX1_add_4 (by decide) (fun h => ?_) (fun h => ?_)
  · replace hw := hw.1 h
    exact W.vret hx hb hr (cC_rv hP hw) hP.2.2.2 dX1_add_47
  · replace hw := hw.2 h
    refine lv_aload_n hx hb dX1_add_7 rfl (lv_at hl 0 rfl) ?_
    refine gC_1_0 hx hb hts i1 hown hK hP hk (hts _ q_X1_add_1) dX1_add_8 ?_
    refine lv_aload_n hx hb dX1_add_11 rfl (lv_at hl 0 rfl) ?_
    refine gC_1_3 hx hb hts i1 hown hK hP hk (hts _ q_X1_add_2) dX1_add_12 ?_
    refine lv_iload_n hx hb dX1_add_15 rfl (lv_at hl 1 rfl) ?_
    refine aC_st hx hb hK hI hP (tC_1_0 hk) (nC_1_0 hk) hw.1 dX1_add_16 (fun H locs hP => ?_)
    replace hw := hw.2
    obtain ⟨s2, hs2⟩ : ∃ u, u = ft_sA σ (k + 1) (upd (σ.2.1 (k + 1)) (Int32.toNatClampNeg (σ.1 k 3)) a1) := ⟨_, rfl⟩
    rw [← hs2] at hP
    replace hw := hw s2 hs2
    refine lv_aload_n hx hb dX1_add_17 rfl (lv_at hl 0 rfl) ?_
    refine gC_1_1 hx hb hts i1 hown hK hP hk (hts _ q_X1_add_3) dX1_add_18 ?_
    refine lv_aload_n hx hb dX1_add_21 rfl (lv_at hl 0 rfl) ?_
    refine gC_1_3 hx hb hts i1 hown hK hP hk (hts _ q_X1_add_2) dX1_add_22 ?_
    refine lv_iload_n hx hb dX1_add_25 rfl (lv_at hl 2 rfl) ?_
    refine aC_st hx hb hK hI hP (tC_1_1 hk) (nC_1_1 hk) hw.1 dX1_add_26 (fun H locs hP => ?_)
    replace hw := hw.2
    obtain ⟨s3, hs3⟩ : ∃ u, u = ft_sA s2 (k + 2) (upd (s2.2.1 (k + 2)) (Int32.toNatClampNeg (s2.1 k 3)) a2) := ⟨_, rfl⟩
    rw [← hs3] at hP
    replace hw := hw s3 hs3
    refine lv_aload_n hx hb dX1_add_27 rfl (lv_at hl 0 rfl) ?_
    refine gC_1_2 hx hb hts i1 hown hK hP hk (hts _ q_X1_add_4) dX1_add_28 ?_
    refine lv_aload_n hx hb dX1_add_31 rfl (lv_at hl 0 rfl) ?_
    refine gC_1_3 hx hb hts i1 hown hK hP hk (hts _ q_X1_add_2) dX1_add_32 ?_
    refine lv_iload_n hx hb dX1_add_35 rfl (lv_at hl 3 rfl) ?_
    refine aC_st hx hb hK hI hP (tC_1_2 hk) (nC_1_2 hk) hw.1 dX1_add_36 (fun H locs hP => ?_)
    replace hw := hw.2
    obtain ⟨s4, hs4⟩ : ∃ u, u = ft_sA s3 (k + 3) (upd (s3.2.1 (k + 3)) (Int32.toNatClampNeg (s3.1 k 3)) a3) := ⟨_, rfl⟩
    rw [← hs4] at hP
    replace hw := hw s4 hs4
    refine lv_aload_n hx hb dX1_add_37 rfl (lv_at hl 0 rfl) ?_
    refine lv_dup hx hb dX1_add_38 rfl ?_
    refine gC_1_3 hx hb hts i1 hown hK hP hk (hts _ q_X1_add_2) dX1_add_39 ?_
    refine lv_iconst (v := 1) hx hb dX1_add_42 (by decide) ?_
    refine lv_iadd hx hb dX1_add_43 ?_
    refine pC_1_3 hx hb hts i1 hown hK hI hP hk (hts _ q_X1_add_2) dX1_add_44 (fun H locs hP => ?_)
    obtain ⟨s5, hs5⟩ : ∃ u, u = ft_sF s4 k 3 ((s4.1 k 3) + 1) := ⟨_, rfl⟩
    rw [← hs5] at hP
    replace hw := hw s5 hs5
    exact W.vret hx hb hr (cC_rv hP hw) hP.2.2.2 dX1_add_47
theorem q_X1_remove_1 : (Cond.fieldLink RX1 25 "FaultTwins$Machine" "ways" "I") ∈ wsX1_remove := List.mem_of_getElem? (i := 1) (by decide +kernel)
theorem q_X1_remove_2 : (Cond.fieldLink RX1 9 "FaultTwins$Machine" "from" "[I") ∈ wsX1_remove := List.mem_of_getElem? (i := 2) (by decide +kernel)
theorem q_X1_remove_3 : (Cond.fieldLink RX1 15 "FaultTwins$Machine" "by" "[I") ∈ wsX1_remove := List.mem_of_getElem? (i := 3) (by decide +kernel)
theorem q_X1_remove_4 : (Cond.fieldLink RX1 18 "FaultTwins$Machine" "to" "[I") ∈ wsX1_remove := List.mem_of_getElem? (i := 4) (by decide +kernel)
set_option maxHeartbeats 4000000 in
set_option maxRecDepth 100000 in
theorem c_X1_remove (l : Launch) (Γ : ft_G) (hI : cC_I Γ) (k : Nat) (hk : cC_K k = 1) (a1 : Int32) (σ : ft_St) (Φ : ft_St → Prop) (hw : w_X1_remove k a1 σ Φ) : cC_Mv l yX1_remove wsX1_remove ({ frames := 0, cells := 0, slots := 0, locals := 0 } : Room) Γ σ [.ref (Γ.2.2 k), .int a1] Φ := by
  refine Met.ofW (cc := cX1_remove) (maxL := 3) (ret := none) (by decide) rfl ?_
  intro p e s m args below meth c s₁ B hml hv
  obtain ⟨rfl, hP, hK, hN⟩ := hv
  have hx := B.exec
  have hb := B.bytes
  have hr := B.returns
  have hts := atoms_spec (ws := wsX1_remove) B.pre
  have hown : s.vm.findClass RX1 = some m.cls := findClass_of_methodNamed B.named
  have hlocks := B.notSynchronized
  have i1 : ∀ w ∈ wsX10, w ∈ wsX1_remove := fun w h => List.mem_cons_of_mem _ (List.mem_append_right _ h)
  have hP : cC_P Γ s σ s.heap [] := ⟨hP, va_S.rf⟩
  have hl := lv_entry ([.ref (Γ.2.2 k), .int a1]) (n := 3) (Nat.le_of_ble_eq_true rfl)
  rw [lg_entry_eq]
  generalize (lg_sl ([.ref (Γ.2.2 k), .int a1]) ++ List.replicate (3 - (lg_sl ([.ref (Γ.2.2 k), .int a1])).length) Slot.unset).toArray = ls at hl ⊢
  have hl : lv_has ls 3 [(0, .ref (Γ.2.2 k)), (1, .int a1)] := hl
  unfold w_X1_remove at hw
  refine lv_iload_n hx hb dX1_remove_0 rfl (lv_at hl 1 rfl) ?_
  refine lv_iconst (v := 1) hx hb dX1_remove_1 (by decide) ?_
  refine lv_iadd hx hb dX1_remove_2 ?_
  refine lv_istore_n (lv' := [(2, .int (a1 + 1)), (0, .ref (Γ.2.2 k)), (1, .int a1)]) hx hb dX1_remove_3 rfl hl (by decide) rfl (fun ls hl => ?_)
  refine hw (fun (x1 : Int32) (s2 : ft_St) => ∀ (H : Heap) (locs : List Loc) (ls : Array Slot), cC_P Γ s s2 H locs → lv_has ls 3 [(0, .ref (Γ.2.2 k)), (2, .int x1)] → cC_Wv p l e ({ frames := 0, cells := 0, slots := 0, locals := 0 } : Room) s m [.ref (Γ.2.2 k), .int a1] below meth c Γ Φ H locs 4 ls []) (fun x1 s2 hw H locs ls hP hl => ?_) _ _ _ hP (lv_sub hl [1, 0] rfl)
  refine lv_iload_n hx hb dX1_remove_4 rfl (lv_at hl 1 rfl) ?_
  refine lv_aload_n hx hb dX1_remove_5 rfl (lv_at hl 0 rfl) ?_
  refine gC_1_3 hx hb hts i1 hown hK hP hk (hts _ q_X1_remove_1) dX1_remove_6 ?_
  refine lv_icmp_ge (tgt := 60) hx hb dX1_remove_9 (by decide) (fun h => ?_) (fun h => ?_)
  · replace hw := hw.1 h
    refine lv_aload_n hx hb dX1_remove_60 rfl (lv_at hl 0 rfl) ?_
    refine lv_dup hx hb dX1_remove_61 rfl ?_
    refine gC_1_3 hx hb hts i1 hown hK hP hk (hts _ q_X1_remove_1) dX1_remove_62 ?_
    refine lv_iconst (v := 1) hx hb dX1_remove_65 (by decide) ?_
    refine lv_isub hx hb dX1_remove_66 ?_
    refine pC_1_3 hx hb hts i1 hown hK hI hP hk (hts _ q_X1_remove_1) dX1_remove_67 (fun H locs hP => ?_)
    obtain ⟨s4, hs4⟩ : ∃ u, u = ft_sF s2 k 3 ((s2.1 k 3) - 1) := ⟨_, rfl⟩
    rw [← hs4] at hP
    replace hw := hw s4 hs4
    exact W.vret hx hb hr (cC_rv hP hw) hP.2.2.2 dX1_remove_70
  · replace hw := hw.2 h
    refine lv_aload_n hx hb dX1_remove_12 rfl (lv_at hl 0 rfl) ?_
    refine gC_1_0 hx hb hts i1 hown hK hP hk (hts _ q_X1_remove_2) dX1_remove_13 ?_
    refine lv_iload_n hx hb dX1_remove_16 rfl (lv_at hl 1 rfl) ?_
    refine lv_iconst (v := 1) hx hb dX1_remove_17 (by decide) ?_
    refine lv_isub hx hb dX1_remove_18 ?_
    refine lv_aload_n hx hb dX1_remove_19 rfl (lv_at hl 0 rfl) ?_
    refine gC_1_0 hx hb hts i1 hown hK hP hk (hts _ q_X1_remove_2) dX1_remove_20 ?_
    refine lv_iload_n hx hb dX1_remove_23 rfl (lv_at hl 1 rfl) ?_
    refine aC_ld hx hb hK hP (tC_1_0 hk) (nC_1_0 hk) hw.1 dX1_remove_24 ?_
    replace hw := hw.2
    refine aC_st hx hb hK hI hP (tC_1_0 hk) (nC_1_0 hk) hw.1 dX1_remove_25 (fun H locs hP => ?_)
    replace hw := hw.2
    obtain ⟨s5, hs5⟩ : ∃ u, u = ft_sA s2 (k + 1) (upd (s2.2.1 (k + 1)) (Int32.toNatClampNeg (x1 - 1)) (s2.2.1 (k + 1) (Int32.toNatClampNeg x1))) := ⟨_, rfl⟩
    rw [← hs5] at hP
    replace hw := hw s5 hs5
    refine lv_aload_n hx hb dX1_remove_26 rfl (lv_at hl 0 rfl) ?_
    refine gC_1_1 hx hb hts i1 hown hK hP hk (hts _ q_X1_remove_3) dX1_remove_27 ?_
    refine lv_iload_n hx hb dX1_remove_30 rfl (lv_at hl 1 rfl) ?_
    refine lv_iconst (v := 1) hx hb dX1_remove_31 (by decide) ?_
    refine lv_isub hx hb dX1_remove_32 ?_
    refine lv_aload_n hx hb dX1_remove_33 rfl (lv_at hl 0 rfl) ?_
    refine gC_1_1 hx hb hts i1 hown hK hP hk (hts _ q_X1_remove_3) dX1_remove_34 ?_
    refine lv_iload_n hx hb dX1_remove_37 rfl (lv_at hl 1 rfl) ?_
    refine aC_ld hx hb hK hP (tC_1_1 hk) (nC_1_1 hk) hw.1 dX1_remove_38 ?_
    replace hw := hw.2
    refine aC_st hx hb hK hI hP (tC_1_1 hk) (nC_1_1 hk) hw.1 dX1_remove_39 (fun H locs hP => ?_)
    replace hw := hw.2
    obtain ⟨s6, hs6⟩ : ∃ u, u = ft_sA s5 (k + 2) (upd (s5.2.1 (k + 2)) (Int32.toNatClampNeg (x1 - 1)) (s5.2.1 (k + 2) (Int32.toNatClampNeg x1))) := ⟨_, rfl⟩
    rw [← hs6] at hP
    replace hw := hw s6 hs6
    refine lv_aload_n hx hb dX1_remove_40 rfl (lv_at hl 0 rfl) ?_
    refine gC_1_2 hx hb hts i1 hown hK hP hk (hts _ q_X1_remove_4) dX1_remove_41 ?_
    refine lv_iload_n hx hb dX1_remove_44 rfl (lv_at hl 1 rfl) ?_
    refine lv_iconst (v := 1) hx hb dX1_remove_45 (by decide) ?_
    refine lv_isub hx hb dX1_remove_46 ?_
    refine lv_aload_n hx hb dX1_remove_47 rfl (lv_at hl 0 rfl) ?_
    refine gC_1_2 hx hb hts i1 hown hK hP hk (hts _ q_X1_remove_4) dX1_remove_48 ?_
    refine lv_iload_n hx hb dX1_remove_51 rfl (lv_at hl 1 rfl) ?_
    refine aC_ld hx hb hK hP (tC_1_2 hk) (nC_1_2 hk) hw.1 dX1_remove_52 ?_
    replace hw := hw.2
    refine aC_st hx hb hK hI hP (tC_1_2 hk) (nC_1_2 hk) hw.1 dX1_remove_53 (fun H locs hP => ?_)
    replace hw := hw.2
    obtain ⟨s7, hs7⟩ : ∃ u, u = ft_sA s6 (k + 3) (upd (s6.2.1 (k + 3)) (Int32.toNatClampNeg (x1 - 1)) (s6.2.1 (k + 3) (Int32.toNatClampNeg x1))) := ⟨_, rfl⟩
    rw [← hs7] at hP
    replace hw := hw s7 hs7
    refine lv_iinc (v := x1 + 1) (lv' := [(2, .int (x1 + 1)), (0, .ref (Γ.2.2 k))]) hx hb dX1_remove_54 hl (k := 1) rfl (congrArg (fun z => x1 + z) (by decide)) (by decide) rfl (fun ls hl => ?_)
    refine lv_goto (tgt := 4) hx hb dX1_remove_57 (by decide) ?_
    exact hw _ _ _ hP (lv_sub hl [1, 0] rfl)
theorem q_X1_drawWays_1 : (Cond.fieldLink RX1 25 "FaultTwins$Machine" "ways" "I") ∈ wsX1_drawWays := List.mem_of_getElem? (i := 1) (by decide +kernel)
theorem q_X1_drawWays_2 : (Cond.constantLong RX1 35 (1103515245)) ∈ wsX1_drawWays := List.mem_of_getElem? (i := 2) (by decide +kernel)
theorem q_X1_drawWays_3 : (Cond.constantLong RX1 37 (12345)) ∈ wsX1_drawWays := List.mem_of_getElem? (i := 3) (by decide +kernel)
theorem q_X1_drawWays_4 : (Cond.constantLong RX1 39 (2147483648)) ∈ wsX1_drawWays := List.mem_of_getElem? (i := 4) (by decide +kernel)
theorem q_X1_drawWays_5 : (Cond.constantLong RX1 41 (65536)) ∈ wsX1_drawWays := List.mem_of_getElem? (i := 5) (by decide +kernel)
theorem q_X1_drawWays_6 : (Cond.constantLong RX1 43 (6)) ∈ wsX1_drawWays := List.mem_of_getElem? (i := 6) (by decide +kernel)
theorem q_X1_drawWays_7 : (Cond.constantLong RX1 45 (1024)) ∈ wsX1_drawWays := List.mem_of_getElem? (i := 7) (by decide +kernel)
theorem q_X1_drawWays_8 : (Cond.constantLong RX1 47 (8)) ∈ wsX1_drawWays := List.mem_of_getElem? (i := 8) (by decide +kernel)
theorem q_X1_drawWays_9 : (Cond.constantLong RX1 49 (32768)) ∈ wsX1_drawWays := List.mem_of_getElem? (i := 9) (by decide +kernel)
set_option maxHeartbeats 4000000 in
set_option maxRecDepth 100000 in
theorem c_X1_drawWays (l : Launch) (Γ : ft_G) (hI : cC_I Γ) (k : Nat) (hk : cC_K k = 1) (a1 : Int32) (a2 : Int32) (σ : ft_St) (Φ : ft_St → Prop) (hw : w_X1_drawWays k a1 a2 σ Φ) : cC_Mv l yX1_drawWays wsX1_drawWays ({ frames := 2, cells := 0, slots := 0, locals := 43 } : Room) Γ σ [.ref (Γ.2.2 k), .int a1, .int a2] Φ := by
  refine Met.ofW (cc := cX1_drawWays) (maxL := 9) (ret := none) (by decide) rfl ?_
  intro p e s m args below meth c s₁ B hml hv
  obtain ⟨rfl, hP, hK, hN⟩ := hv
  have hx := B.exec
  have hb := B.bytes
  have hr := B.returns
  have hts := atoms_spec (ws := wsX1_drawWays) B.pre
  have hown : s.vm.findClass RX1 = some m.cls := findClass_of_methodNamed B.named
  have hlocks := B.notSynchronized
  have i1 : ∀ w ∈ wsX10, w ∈ wsX1_drawWays := fun w h => List.mem_cons_of_mem _ (List.mem_append_right _ h)
  have hP : cC_P Γ s σ s.heap [] := ⟨hP, va_S.rf⟩
  have hl := lv_entry ([.ref (Γ.2.2 k), .int a1, .int a2]) (n := 9) (Nat.le_of_ble_eq_true rfl)
  rw [lg_entry_eq]
  generalize (lg_sl ([.ref (Γ.2.2 k), .int a1, .int a2]) ++ List.replicate (9 - (lg_sl ([.ref (Γ.2.2 k), .int a1, .int a2])).length) Slot.unset).toArray = ls at hl ⊢
  have hl : lv_has ls 9 [(0, .ref (Γ.2.2 k)), (1, .int a1), (2, .int a2)] := hl
  unfold w_X1_drawWays at hw
  refine lv_aload_n hx hb dX1_drawWays_0 rfl (lv_at hl 0 rfl) ?_
  refine lv_iconst (v := 0) hx hb dX1_drawWays_1 (by decide) ?_
  refine pC_1_3 hx hb hts i1 hown hK hI hP hk (hts _ q_X1_drawWays_1) dX1_drawWays_2 (fun H locs hP => ?_)
  obtain ⟨s1, hs1⟩ : ∃ u, u = ft_sF σ k 3 0 := ⟨_, rfl⟩
  rw [← hs1] at hP
  replace hw := hw s1 hs1
  refine lv_iload_n hx hb dX1_drawWays_5 rfl (lv_at hl 1 rfl) ?_
  refine lv_i2l hx hb dX1_drawWays_6 rfl ?_
  refine lv_lstore_n (lv' := [(3, .long (Int32.toInt64 a1)), (0, .ref (Γ.2.2 k)), (1, .int a1), (2, .int a2)]) hx hb dX1_drawWays_7 rfl hl (by decide) rfl (fun ls hl => ?_)
  refine lv_iconst (v := 0) hx hb dX1_drawWays_8 (by decide) ?_
  refine lv_istore (lv' := [(5, .int 0), (3, .long (Int32.toInt64 a1)), (0, .ref (Γ.2.2 k)), (1, .int a1), (2, .int a2)]) hx hb dX1_drawWays_9 hl (by decide) rfl (fun ls hl => ?_)
  refine hw (fun (y2 : Int64) (x3 : Int32) (s4 : ft_St) => ∀ (H : Heap) (locs : List Loc) (ls : Array Slot), cC_P Γ s s4 H locs → lv_has ls 9 [(0, .ref (Γ.2.2 k)), (2, .int a2), (3, .long y2), (5, .int x3)] → cC_Wv p l e ({ frames := 2, cells := 0, slots := 0, locals := 43 } : Room) s m [.ref (Γ.2.2 k), .int a1, .int a2] below meth c Γ Φ H locs 11 ls []) (fun y2 x3 s4 hw H locs ls hP hl => ?_) _ _ _ hP (lv_sub hl [2, 4, 1, 0] rfl)
  refine lv_iload hx hb dX1_drawWays_11 (lv_at hl 3 rfl) ?_
  refine lv_iload_n hx hb dX1_drawWays_13 rfl (lv_at hl 1 rfl) ?_
  refine lv_icmp_ge (tgt := 96) hx hb dX1_drawWays_14 (by decide) (fun h => ?_) (fun h => ?_)
  · replace hw := hw.1 h
    exact W.vret hx hb hr (cC_rv hP hw) hP.2.2.2 dX1_drawWays_96
  · replace hw := hw.2 h
    refine lv_lload_n hx hb dX1_drawWays_17 rfl (lv_at hl 2 rfl) ?_
    refine lv_ldc2 hx hb hown (hts _ q_X1_drawWays_2) dX1_drawWays_18 ?_
    refine lv_lmul hx hb dX1_drawWays_21 ?_
    refine lv_ldc2 hx hb hown (hts _ q_X1_drawWays_3) dX1_drawWays_22 ?_
    refine lv_ladd hx hb dX1_drawWays_25 ?_
    refine lv_ldc2 hx hb hown (hts _ q_X1_drawWays_4) dX1_drawWays_26 ?_
    refine lv_lrem hx hb dX1_drawWays_29 (by decide) ?_
    refine lv_topl (fun y6 ey6 => ?_)
    replace hw := hw y6 ey6
    refine lv_lstore_n (lv' := [(3, .long y6), (0, .ref (Γ.2.2 k)), (2, .int a2), (5, .int x3)]) hx hb dX1_drawWays_30 rfl hl (by decide) rfl (fun ls hl => ?_)
    refine lv_lload_n hx hb dX1_drawWays_31 rfl (lv_at hl 0 rfl) ?_
    refine lv_ldc2 hx hb hown (hts _ q_X1_drawWays_5) dX1_drawWays_32 ?_
    refine lv_ldiv hx hb dX1_drawWays_35 (by decide) ?_
    refine lv_ldc2 hx hb hown (hts _ q_X1_drawWays_6) dX1_drawWays_36 ?_
    refine lv_lrem hx hb dX1_drawWays_39 (by decide) ?_
    refine lv_l2i hx hb dX1_drawWays_40 rfl ?_
    refine lv_topi (fun x7 ex7 => ?_)
    replace hw := hw x7 ex7
    refine lv_istore (lv' := [(6, .int x7), (3, .long y6), (0, .ref (Γ.2.2 k)), (2, .int a2), (5, .int x3)]) hx hb dX1_drawWays_41 hl (by decide) rfl (fun ls hl => ?_)
    refine lv_lload_n hx hb dX1_drawWays_43 rfl (lv_at hl 1 rfl) ?_
    refine lv_ldc2 hx hb hown (hts _ q_X1_drawWays_7) dX1_drawWays_44 ?_
    refine lv_ldiv hx hb dX1_drawWays_47 (by decide) ?_
    refine lv_ldc2 hx hb hown (hts _ q_X1_drawWays_8) dX1_drawWays_48 ?_
    refine lv_lrem hx hb dX1_drawWays_51 (by decide) ?_
    refine lv_l2i hx hb dX1_drawWays_52 rfl ?_
    refine lv_topi (fun x8 ex8 => ?_)
    replace hw := hw x8 ex8
    refine lv_istore (lv' := [(7, .int x8), (6, .int x7), (3, .long y6), (0, .ref (Γ.2.2 k)), (2, .int a2), (5, .int x3)]) hx hb dX1_drawWays_53 hl (by decide) rfl (fun ls hl => ?_)
    refine lv_lload_n hx hb dX1_drawWays_55 rfl (lv_at hl 2 rfl) ?_
    refine lv_ldc2 hx hb hown (hts _ q_X1_drawWays_9) dX1_drawWays_56 ?_
    refine lv_ldiv hx hb dX1_drawWays_59 (by decide) ?_
    refine lv_ldc2 hx hb hown (hts _ q_X1_drawWays_6) dX1_drawWays_60 ?_
    refine lv_lrem hx hb dX1_drawWays_63 (by decide) ?_
    refine lv_l2i hx hb dX1_drawWays_64 rfl ?_
    refine lv_topi (fun x9 ex9 => ?_)
    replace hw := hw x9 ex9
    refine lv_istore (lv' := [(8, .int x9), (7, .int x8), (6, .int x7), (3, .long y6), (0, .ref (Γ.2.2 k)), (2, .int a2), (5, .int x3)]) hx hb dX1_drawWays_65 hl (by decide) rfl (fun ls hl => ?_)
    refine lv_aload_n hx hb dX1_drawWays_67 rfl (lv_at hl 4 rfl) ?_
    refine lv_iload hx hb dX1_drawWays_68 (lv_at hl 2 rfl) ?_
    refine lv_iload hx hb dX1_drawWays_70 (lv_at hl 1 rfl) ?_
    refine lv_iload hx hb dX1_drawWays_72 (lv_at hl 0 rfl) ?_
    refine cC_Vip (rest := []) ⟨hx, hb, hml, hown, hts⟩ (c_X1_has l Γ hI k hk x7 x8 x9 s4 _ hw) (cwV 3 hts gX1_drawWays_X1_has rfl rfl rfl (by decide +kernel) ⟨Nat.le_of_ble_eq_true rfl, Nat.le_of_ble_eq_true rfl⟩) hK hN hP (cC_lt hk (by decide)) (cC_E1 hk) rfl rfl rfl hl.1 rfl (Nat.le_of_ble_eq_true rfl) dX1_drawWays_74 ⟨Nat.le_refl _, Nat.le_refl _⟩ (fun r10 H locs hw hP => ?_)
    refine lv_if_ne (tgt := 90) hx hb dX1_drawWays_77 (by decide) (fun h => ?_) (fun h => ?_)
    · replace hw := hw.1 h
      refine lv_iinc (v := x3 + 1) (lv' := [(5, .int (x3 + 1)), (8, .int x9), (7, .int x8), (6, .int x7), (3, .long y6), (0, .ref (Γ.2.2 k)), (2, .int a2)]) hx hb dX1_drawWays_90 hl (k := 6) rfl (congrArg (fun z => x3 + z) (by decide)) (by decide) rfl (fun ls hl => ?_)
      refine lv_goto (tgt := 11) hx hb dX1_drawWays_93 (by decide) ?_
      exact hw _ _ _ hP (lv_sub hl [5, 6, 4, 0] rfl)
    · replace hw := hw.2 h
      refine lv_aload_n hx hb dX1_drawWays_80 rfl (lv_at hl 4 rfl) ?_
      refine lv_iload hx hb dX1_drawWays_81 (lv_at hl 2 rfl) ?_
      refine lv_iload hx hb dX1_drawWays_83 (lv_at hl 1 rfl) ?_
      refine lv_iload hx hb dX1_drawWays_85 (lv_at hl 0 rfl) ?_
      refine cC_Vv (rest := []) ⟨hx, hb, hml, hown, hts⟩ (c_X1_add l Γ hI k hk x7 x8 x9 s4 _ hw) (cwV 3 hts gX1_drawWays_X1_add rfl rfl rfl (by decide +kernel) ⟨Nat.le_of_ble_eq_true rfl, Nat.le_of_ble_eq_true rfl⟩) hK hN hP (cC_lt hk (by decide)) (cC_E1 hk) rfl rfl rfl hl.1 rfl (Nat.le_of_ble_eq_true rfl) dX1_drawWays_87 ⟨Nat.le_refl _, Nat.le_refl _⟩ (fun s11 H locs hw hP => ?_)
      refine lv_iinc (v := x3 + 1) (lv' := [(5, .int (x3 + 1)), (8, .int x9), (7, .int x8), (6, .int x7), (3, .long y6), (0, .ref (Γ.2.2 k)), (2, .int a2)]) hx hb dX1_drawWays_90 hl (k := 6) rfl (congrArg (fun z => x3 + z) (by decide)) (by decide) rfl (fun ls hl => ?_)
      refine lv_goto (tgt := 11) hx hb dX1_drawWays_93 (by decide) ?_
      exact hw _ _ _ hP (lv_sub hl [5, 6, 4, 0] rfl)
theorem q_X1_markBehind_1 : (Cond.fieldLink RX1 28 "FaultTwins$Machine" "faults" "I") ∈ wsX1_markBehind := List.mem_of_getElem? (i := 1) (by decide +kernel)
theorem q_X1_markBehind_2 : (Cond.fieldLink RX1 15 "FaultTwins$Machine" "by" "[I") ∈ wsX1_markBehind := List.mem_of_getElem? (i := 2) (by decide +kernel)
theorem q_X1_markBehind_3 : (Cond.fieldLink RX1 18 "FaultTwins$Machine" "to" "[I") ∈ wsX1_markBehind := List.mem_of_getElem? (i := 3) (by decide +kernel)
set_option maxHeartbeats 4000000 in
set_option maxRecDepth 100000 in
theorem c_X1_markBehind (l : Launch) (Γ : ft_G) (hI : cC_I Γ) (k : Nat) (hk : cC_K k = 1) (a1 : Int32) (a2 : Int32) (σ : ft_St) (Φ : Int32 → Prop) (hw : w_X1_markBehind k a1 a2 σ Φ) : cC_Mip l yX1_markBehind wsX1_markBehind ({ frames := 0, cells := 0, slots := 0, locals := 0 } : Room) Γ σ [.ref (Γ.2.2 k), .int a1, .int a2] Φ := by
  refine Met.ofW (cc := cX1_markBehind) (maxL := 4) (ret := (some .int)) (by decide) rfl ?_
  intro p e s m args below meth c s₁ B hml hv
  obtain ⟨rfl, hP, hK, hN⟩ := hv
  have hx := B.exec
  have hb := B.bytes
  have hr := B.returns
  have hts := atoms_spec (ws := wsX1_markBehind) B.pre
  have hown : s.vm.findClass RX1 = some m.cls := findClass_of_methodNamed B.named
  have hlocks := B.notSynchronized
  have i1 : ∀ w ∈ wsX10, w ∈ wsX1_markBehind := fun w h => List.mem_cons_of_mem _ (List.mem_append_right _ h)
  have hP : cC_P Γ s σ s.heap [] := ⟨hP, va_S.rf⟩
  have hl := lv_entry ([.ref (Γ.2.2 k), .int a1, .int a2]) (n := 4) (Nat.le_of_ble_eq_true rfl)
  rw [lg_entry_eq]
  generalize (lg_sl ([.ref (Γ.2.2 k), .int a1, .int a2]) ++ List.replicate (4 - (lg_sl ([.ref (Γ.2.2 k), .int a1, .int a2])).length) Slot.unset).toArray = ls at hl ⊢
  have hl : lv_has ls 4 [(0, .ref (Γ.2.2 k)), (1, .int a1), (2, .int a2)] := hl
  unfold w_X1_markBehind at hw
  refine lv_iload_n hx hb dX1_markBehind_0 rfl (lv_at hl 2 rfl) ?_
  refine lv_bipush (v := 10) hx hb dX1_markBehind_1 (by decide) ?_
  refine ft_cut (hw (fun (x1 : Int32) => ∀ (H : Heap) (locs : List Loc) (ls : Array Slot), cC_P Γ s σ H locs → lv_has ls 4 [(0, .ref (Γ.2.2 k)), (1, .int a1)] → cC_Wi p l e ({ frames := 0, cells := 0, slots := 0, locals := 0 } : Room) s m [.ref (Γ.2.2 k), .int a1, .int a2] below meth c Γ (fun r u => u = σ ∧ Φ r) H locs 28 ls [.int x1]) (fun x1 hw H locs ls hP hl => ?_)) (fun hw => ?_)
  · refine lv_istore_n (lv' := [(3, .int x1), (0, .ref (Γ.2.2 k)), (1, .int a1)]) hx hb dX1_markBehind_28 rfl hl (by decide) rfl (fun ls hl => ?_)
    refine lv_iload_n hx hb dX1_markBehind_29 rfl (lv_at hl 0 rfl) ?_
    refine lv_if_eq (tgt := 45) hx hb dX1_markBehind_30 (by decide) (fun h => ?_) (fun h => ?_)
    · replace hw := hw.1 h
      refine lv_aload_n hx hb dX1_markBehind_45 rfl (lv_at hl 1 rfl) ?_
      refine gC_1_2 hx hb hts i1 hown hK hP hk (hts _ q_X1_markBehind_3) dX1_markBehind_46 ?_
      refine lv_iload_n hx hb dX1_markBehind_49 rfl (lv_at hl 2 rfl) ?_
      refine aC_ld hx hb hK hP (tC_1_2 hk) (nC_1_2 hk) hw.1 dX1_markBehind_50 ?_
      replace hw := hw.2
      exact W.iret hx hb hr (cC_ri hP ⟨rfl, hw⟩) hP.2.2.2 dX1_markBehind_51
    · replace hw := hw.2 h
      refine lv_aload_n hx hb dX1_markBehind_33 rfl (lv_at hl 1 rfl) ?_
      refine gC_1_2 hx hb hts i1 hown hK hP hk (hts _ q_X1_markBehind_3) dX1_markBehind_34 ?_
      refine lv_iload_n hx hb dX1_markBehind_37 rfl (lv_at hl 2 rfl) ?_
      refine aC_ld hx hb hK hP (tC_1_2 hk) (nC_1_2 hk) hw.1 dX1_markBehind_38 ?_
      replace hw := hw.2
      refine lv_bipush (v := 10) hx hb dX1_markBehind_39 (by decide) ?_
      refine lv_iadd hx hb dX1_markBehind_41 ?_
      refine lv_goto (tgt := 51) hx hb dX1_markBehind_42 (by decide) ?_
      exact W.iret hx hb hr (cC_ri hP ⟨rfl, hw⟩) hP.2.2.2 dX1_markBehind_51
  · refine ft_cut (hw (∀ (H : Heap) (locs : List Loc) (ls : Array Slot), cC_P Γ s σ H locs → lv_has ls 4 [(0, .ref (Γ.2.2 k)), (1, .int a1)] → cC_Wi p l e ({ frames := 0, cells := 0, slots := 0, locals := 0 } : Room) s m [.ref (Γ.2.2 k), .int a1, .int a2] below meth c Γ (fun r u => u = σ ∧ Φ r) H locs 23 ls []) (fun  hw H locs ls hP hl => ?_)) (fun hw => ?_)
    · refine lv_iconst (v := 1) hx hb dX1_markBehind_23 (by decide) ?_
      refine lv_goto (tgt := 28) hx hb dX1_markBehind_24 (by decide) ?_
      exact hw _ _ _ hP (lv_sub hl [0, 1] rfl)
    · refine lv_icmp_ge (tgt := 23) hx hb dX1_markBehind_3 (by decide) (fun h => ?_) (fun h => ?_)
      · replace hw := hw.1 h
        exact hw _ _ _ hP (lv_sub hl [0, 1] rfl)
      · replace hw := hw.2 h
        refine lv_aload_n hx hb dX1_markBehind_6 rfl (lv_at hl 0 rfl) ?_
        refine gC_1_5 hx hb hts i1 hown hK hP hk (hts _ q_X1_markBehind_1) dX1_markBehind_7 ?_
        refine lv_aload_n hx hb dX1_markBehind_10 rfl (lv_at hl 0 rfl) ?_
        refine gC_1_1 hx hb hts i1 hown hK hP hk (hts _ q_X1_markBehind_2) dX1_markBehind_11 ?_
        refine lv_iload_n hx hb dX1_markBehind_14 rfl (lv_at hl 1 rfl) ?_
        refine aC_ld hx hb hK hP (tC_1_1 hk) (nC_1_1 hk) hw.1 dX1_markBehind_15 ?_
        replace hw := hw.2
        refine lv_ishr hx hb dX1_markBehind_16 ?_
        refine lv_iconst (v := 1) hx hb dX1_markBehind_17 (by decide) ?_
        refine lv_iand hx hb dX1_markBehind_18 ?_
        refine lv_iconst (v := 1) hx hb dX1_markBehind_19 (by decide) ?_
        refine lv_icmp_ne (tgt := 27) hx hb dX1_markBehind_20 (by decide) (fun h => ?_) (fun h => ?_)
        · replace hw := hw.1 h
          refine lv_iconst (v := 0) hx hb dX1_markBehind_27 (by decide) ?_
          exact hw _ _ _ hP (lv_sub hl [0, 1] rfl)
        · replace hw := hw.2 h
          exact hw _ _ _ hP (lv_sub hl [0, 1] rfl)
set_option maxHeartbeats 4000000 in
set_option maxRecDepth 100000 in
theorem c_X2_isFigure (l : Launch) (Γ : ft_G) (hI : cC_I Γ) (a0 : Int32) (σ : ft_St) (Φ : Int32 → Prop) (hw : w_X2_isFigure a0  Φ) : cC_Mip l yX2_isFigure wsX2_isFigure ({ frames := 0, cells := 0, slots := 0, locals := 0 } : Room) Γ σ [.int a0] Φ := by
  refine Met.ofW (cc := cX2_isFigure) (maxL := 1) (ret := (some .boolean)) (by decide) rfl ?_
  intro p e s m args below meth c s₁ B hml hv
  obtain ⟨rfl, hP, hK, hN⟩ := hv
  have hx := B.exec
  have hb := B.bytes
  have hr := B.returns
  have hts := atoms_spec (ws := wsX2_isFigure) B.pre
  have hown : s.vm.findClass RX2 = some m.cls := findClass_of_methodNamed B.named
  have hlocks := B.notSynchronized
  have hP : cC_P Γ s σ s.heap [] := ⟨hP, va_S.rf⟩
  have hl := lv_entry ([.int a0]) (n := 1) (Nat.le_of_ble_eq_true rfl)
  rw [lg_entry_eq]
  generalize (lg_sl ([.int a0]) ++ List.replicate (1 - (lg_sl ([.int a0])).length) Slot.unset).toArray = ls at hl ⊢
  have hl : lv_has ls 1 [(0, .int a0)] := hl
  unfold w_X2_isFigure at hw
  refine lv_iload_n hx hb dX2_isFigure_0 rfl (lv_at hl 0 rfl) ?_
  refine lv_bipush (v := 48) hx hb dX2_isFigure_1 (by decide) ?_
  refine ft_cut (hw (∀ (H : Heap) (locs : List Loc) (ls : Array Slot), cC_P Γ s σ H locs → lv_has ls 1 [] → cC_Wi p l e ({ frames := 0, cells := 0, slots := 0, locals := 0 } : Room) s m [.int a0] below meth c Γ (fun r u => u = σ ∧ Φ r) H locs 16 ls []) (fun  hw H locs ls hP hl => ?_)) (fun hw => ?_)
  · refine lv_iconst (v := 0) hx hb dX2_isFigure_16 (by decide) ?_
    exact W.zret hx hb hr rfl (cC_ri hP ⟨rfl, hw⟩) hP.2.2.2 dX2_isFigure_17
  · refine lv_icmp_lt (tgt := 16) hx hb dX2_isFigure_3 (by decide) (fun h => ?_) (fun h => ?_)
    · replace hw := hw.1 h
      exact hw _ _ _ hP (lv_sub hl [] rfl)
    · replace hw := hw.2 h
      refine lv_iload_n hx hb dX2_isFigure_6 rfl (lv_at hl 0 rfl) ?_
      refine lv_bipush (v := 57) hx hb dX2_isFigure_7 (by decide) ?_
      refine lv_icmp_gt (tgt := 16) hx hb dX2_isFigure_9 (by decide) (fun h => ?_) (fun h => ?_)
      · replace hw := hw.1 h
        exact hw _ _ _ hP (lv_sub hl [] rfl)
      · replace hw := hw.2 h
        refine lv_iconst (v := 1) hx hb dX2_isFigure_12 (by decide) ?_
        refine lv_goto (tgt := 17) hx hb dX2_isFigure_13 (by decide) ?_
        exact W.zret hx hb hr rfl (cC_ri hP ⟨rfl, hw⟩) hP.2.2.2 dX2_isFigure_17
theorem q_X2_takeFirst_1 : (Cond.fieldLink RX2 22 "FaultTwins$Reader" "stage" "I") ∈ wsX2_takeFirst := List.mem_of_getElem? (i := 1) (by decide +kernel)
theorem q_X2_takeFirst_2 : (Cond.fieldLink RX2 56 "FaultTwins$Reader" "letters" "I") ∈ wsX2_takeFirst := List.mem_of_getElem? (i := 2) (by decide +kernel)
theorem q_X2_takeFirst_3 : (Cond.fieldLink RX2 12 "FaultTwins$Reader" "draft" "LFaultTwins$Machine;") ∈ wsX2_takeFirst := List.mem_of_getElem? (i := 3) (by decide +kernel)
theorem q_X2_takeFirst_4 : (Cond.fieldLink RX2 67 "FaultTwins$Reader" "wayPlace" "I") ∈ wsX2_takeFirst := List.mem_of_getElem? (i := 4) (by decide +kernel)
theorem q_X2_takeFirst_5 : (Cond.fieldLink RX2 70 "FaultTwins$Reader" "wayFrom" "I") ∈ wsX2_takeFirst := List.mem_of_getElem? (i := 5) (by decide +kernel)
set_option maxHeartbeats 4000000 in
set_option maxRecDepth 100000 in
theorem c_X2_takeFirst (l : Launch) (Γ : ft_G) (hI : cC_I Γ) (k : Nat) (hk : cC_K k = 2) (a1 : Int32) (a2 : Int32) (σ : ft_St) (Φ : Int32 → ft_St → Prop) (hw : w_X2_takeFirst k a1 a2 σ Φ) : cC_Mi l yX2_takeFirst wsX2_takeFirst ({ frames := 1, cells := 0, slots := 0, locals := 20 } : Room) Γ σ [.ref (Γ.2.2 k), .int a1, .int a2] Φ := by
  refine Met.ofW (cc := cX2_takeFirst) (maxL := 3) (ret := (some .int)) (by decide) rfl ?_
  intro p e s m args below meth c s₁ B hml hv
  obtain ⟨rfl, hP, hK, hN⟩ := hv
  have hx := B.exec
  have hb := B.bytes
  have hr := B.returns
  have hts := atoms_spec (ws := wsX2_takeFirst) B.pre
  have hown : s.vm.findClass RX2 = some m.cls := findClass_of_methodNamed B.named
  have hlocks := B.notSynchronized
  have i2 : ∀ w ∈ wsX20, w ∈ wsX2_takeFirst := fun w h => List.mem_cons_of_mem _ (List.mem_append_left _ (List.mem_append_right _ h))
  have hP : cC_P Γ s σ s.heap [] := ⟨hP, va_S.rf⟩
  have hl := lv_entry ([.ref (Γ.2.2 k), .int a1, .int a2]) (n := 3) (Nat.le_of_ble_eq_true rfl)
  rw [lg_entry_eq]
  generalize (lg_sl ([.ref (Γ.2.2 k), .int a1, .int a2]) ++ List.replicate (3 - (lg_sl ([.ref (Γ.2.2 k), .int a1, .int a2])).length) Slot.unset).toArray = ls at hl ⊢
  have hl : lv_has ls 3 [(0, .ref (Γ.2.2 k)), (1, .int a1), (2, .int a2)] := hl
  unfold w_X2_takeFirst at hw
  refine lv_iload_n hx hb dX2_takeFirst_0 rfl (lv_at hl 1 rfl) ?_
  refine lv_bipush (v := 33) hx hb dX2_takeFirst_1 (by decide) ?_
  refine ft_cut (hw (∀ (H : Heap) (locs : List Loc) (ls : Array Slot), cC_P Γ s σ H locs → lv_has ls 3 [(0, .ref (Γ.2.2 k)), (1, .int a1)] → cC_Wi p l e ({ frames := 1, cells := 0, slots := 0, locals := 20 } : Room) s m [.ref (Γ.2.2 k), .int a1, .int a2] below meth c Γ Φ H locs 12 ls []) (fun  hw H locs ls hP hl => ?_)) (fun hw => ?_)
  · refine lv_aload_n hx hb dX2_takeFirst_12 rfl (lv_at hl 0 rfl) ?_
    refine lv_iload_n hx hb dX2_takeFirst_13 rfl (lv_at hl 1 rfl) ?_
    refine lv_bipush (v := 33) hx hb dX2_takeFirst_14 (by decide) ?_
    refine ft_cut (hw (fun (x2 : Int32) => ∀ (H : Heap) (locs : List Loc) (ls : Array Slot), cC_P Γ s σ H locs → lv_has ls 3 [(0, .ref (Γ.2.2 k))] → cC_Wi p l e ({ frames := 1, cells := 0, slots := 0, locals := 20 } : Room) s m [.ref (Γ.2.2 k), .int a1, .int a2] below meth c Γ Φ H locs 24 ls [.int x2, .ref (Γ.2.2 k)]) (fun x2 hw H locs ls hP hl => ?_)) (fun hw => ?_)
    · refine pC_2_1 hx hb hts i2 hown hK hI hP hk (hts _ q_X2_takeFirst_1) dX2_takeFirst_24 (fun H locs hP => ?_)
      obtain ⟨s4, hs4⟩ : ∃ u, u = ft_sF σ k 1 x2 := ⟨_, rfl⟩
      rw [← hs4] at hP
      replace hw := hw s4 hs4
      refine lv_aload_n hx hb dX2_takeFirst_27 rfl (lv_at hl 0 rfl) ?_
      refine lv_iconst (v := 0) hx hb dX2_takeFirst_28 (by decide) ?_
      refine pC_2_6 hx hb hts i2 hown hK hI hP hk (hts _ q_X2_takeFirst_2) dX2_takeFirst_29 (fun H locs hP => ?_)
      obtain ⟨s5, hs5⟩ : ∃ u, u = ft_sF s4 k 6 0 := ⟨_, rfl⟩
      rw [← hs5] at hP
      replace hw := hw s5 hs5
      refine lv_iconst (v := (-1)) hx hb dX2_takeFirst_32 (by decide) ?_
      exact W.iret hx hb hr (cC_ri hP hw) hP.2.2.2 dX2_takeFirst_33
    · refine lv_icmp_ne (tgt := 23) hx hb dX2_takeFirst_16 (by decide) (fun h => ?_) (fun h => ?_)
      · replace hw := hw.1 h
        refine lv_iconst (v := 5) hx hb dX2_takeFirst_23 (by decide) ?_
        exact hw _ _ _ hP (lv_sub hl [0] rfl)
      · replace hw := hw.2 h
        refine lv_iconst (v := 4) hx hb dX2_takeFirst_19 (by decide) ?_
        refine lv_goto (tgt := 24) hx hb dX2_takeFirst_20 (by decide) ?_
        exact hw _ _ _ hP (lv_sub hl [0] rfl)
  · refine lv_icmp_eq (tgt := 12) hx hb dX2_takeFirst_3 (by decide) (fun h => ?_) (fun h => ?_)
    · replace hw := hw.1 h
      exact hw _ _ _ hP (lv_sub hl [0, 1] rfl)
    · replace hw := hw.2 h
      refine lv_iload_n hx hb dX2_takeFirst_6 rfl (lv_at hl 1 rfl) ?_
      refine lv_bipush (v := 63) hx hb dX2_takeFirst_7 (by decide) ?_
      refine lv_icmp_ne (tgt := 34) hx hb dX2_takeFirst_9 (by decide) (fun h => ?_) (fun h => ?_)
      · replace hw := hw.1 h
        refine lv_iload_n hx hb dX2_takeFirst_34 rfl (lv_at hl 1 rfl) ?_
        refine cC_Sip (rest := []) ⟨hx, hb, hml, hown, hts⟩ (c_X2_isFigure l Γ hI a1 σ _ hw) (va_cwS 1 hts gX2_takeFirst_X2_isFigure rfl rfl rfl (by decide +kernel) ⟨Nat.le_of_ble_eq_true rfl, Nat.le_of_ble_eq_true rfl⟩) hK hN hP rfl hl.1 rfl (Nat.le_of_ble_eq_true rfl) dX2_takeFirst_35 ⟨Nat.le_refl _, Nat.le_refl _⟩ (fun r6 H locs hw hP => ?_)
        refine lv_if_eq (tgt := 51) hx hb dX2_takeFirst_38 (by decide) (fun h => ?_) (fun h => ?_)
        · replace hw := hw.1 h
          refine lv_iload_n hx hb dX2_takeFirst_51 rfl (lv_at hl 2 rfl) ?_
          exact W.iret hx hb hr (cC_ri hP hw) hP.2.2.2 dX2_takeFirst_52
        · replace hw := hw.2 h
          refine lv_aload_n hx hb dX2_takeFirst_41 rfl (lv_at hl 0 rfl) ?_
          refine gC_2_0 hx hb hts i2 hown hK hP hk (hts _ q_X2_takeFirst_3) dX2_takeFirst_42 ?_
          refine cC_Vip (rest := []) ⟨hx, hb, hml, hown, hts⟩ (c_X1_isFull l Γ hI (k + 1) (tC_2_0 hk) σ _ hw) (cwV 0 hts gX2_takeFirst_X1_isFull rfl rfl rfl (by decide +kernel) ⟨Nat.le_of_ble_eq_true rfl, Nat.le_of_ble_eq_true rfl⟩) hK hN hP (cC_lt (tC_2_0 hk) (by decide)) (cC_E1 (tC_2_0 hk)) rfl rfl rfl hl.1 rfl (Nat.le_of_ble_eq_true rfl) dX2_takeFirst_45 ⟨Nat.le_refl _, Nat.le_refl _⟩ (fun r7 H locs hw hP => ?_)
          refine lv_if_eq (tgt := 53) hx hb dX2_takeFirst_48 (by decide) (fun h => ?_) (fun h => ?_)
          · replace hw := hw.1 h
            refine lv_aload_n hx hb dX2_takeFirst_53 rfl (lv_at hl 0 rfl) ?_
            refine lv_iload_n hx hb dX2_takeFirst_54 rfl (lv_at hl 2 rfl) ?_
            refine pC_2_3 hx hb hts i2 hown hK hI hP hk (hts _ q_X2_takeFirst_4) dX2_takeFirst_55 (fun H locs hP => ?_)
            obtain ⟨s8, hs8⟩ : ∃ u, u = ft_sF σ k 3 a2 := ⟨_, rfl⟩
            rw [← hs8] at hP
            replace hw := hw s8 hs8
            refine lv_aload_n hx hb dX2_takeFirst_58 rfl (lv_at hl 0 rfl) ?_
            refine lv_iload_n hx hb dX2_takeFirst_59 rfl (lv_at hl 1 rfl) ?_
            refine lv_bipush (v := 48) hx hb dX2_takeFirst_60 (by decide) ?_
            refine lv_isub hx hb dX2_takeFirst_62 ?_
            refine pC_2_4 hx hb hts i2 hown hK hI hP hk (hts _ q_X2_takeFirst_5) dX2_takeFirst_63 (fun H locs hP => ?_)
            obtain ⟨s9, hs9⟩ : ∃ u, u = ft_sF s8 k 4 (a1 - 48) := ⟨_, rfl⟩
            rw [← hs9] at hP
            replace hw := hw s9 hs9
            refine lv_aload_n hx hb dX2_takeFirst_66 rfl (lv_at hl 0 rfl) ?_
            refine lv_iconst (v := 1) hx hb dX2_takeFirst_67 (by decide) ?_
            refine pC_2_1 hx hb hts i2 hown hK hI hP hk (hts _ q_X2_takeFirst_1) dX2_takeFirst_68 (fun H locs hP => ?_)
            obtain ⟨s10, hs10⟩ : ∃ u, u = ft_sF s9 k 1 1 := ⟨_, rfl⟩
            rw [← hs10] at hP
            replace hw := hw s10 hs10
            refine lv_iconst (v := (-1)) hx hb dX2_takeFirst_71 (by decide) ?_
            exact W.iret hx hb hr (cC_ri hP hw) hP.2.2.2 dX2_takeFirst_72
          · replace hw := hw.2 h
            refine lv_iload_n hx hb dX2_takeFirst_51 rfl (lv_at hl 2 rfl) ?_
            exact W.iret hx hb hr (cC_ri hP hw) hP.2.2.2 dX2_takeFirst_52
      · replace hw := hw.2 h
        exact hw _ _ _ hP (lv_sub hl [0, 1] rfl)
set_option maxHeartbeats 4000000 in
set_option maxRecDepth 100000 in
theorem c_X2_isLetter (l : Launch) (Γ : ft_G) (hI : cC_I Γ) (a0 : Int32) (σ : ft_St) (Φ : Int32 → Prop) (hw : w_X2_isLetter a0  Φ) : cC_Mip l yX2_isLetter wsX2_isLetter ({ frames := 0, cells := 0, slots := 0, locals := 0 } : Room) Γ σ [.int a0] Φ := by
  refine Met.ofW (cc := cX2_isLetter) (maxL := 1) (ret := (some .boolean)) (by decide) rfl ?_
  intro p e s m args below meth c s₁ B hml hv
  obtain ⟨rfl, hP, hK, hN⟩ := hv
  have hx := B.exec
  have hb := B.bytes
  have hr := B.returns
  have hts := atoms_spec (ws := wsX2_isLetter) B.pre
  have hown : s.vm.findClass RX2 = some m.cls := findClass_of_methodNamed B.named
  have hlocks := B.notSynchronized
  have hP : cC_P Γ s σ s.heap [] := ⟨hP, va_S.rf⟩
  have hl := lv_entry ([.int a0]) (n := 1) (Nat.le_of_ble_eq_true rfl)
  rw [lg_entry_eq]
  generalize (lg_sl ([.int a0]) ++ List.replicate (1 - (lg_sl ([.int a0])).length) Slot.unset).toArray = ls at hl ⊢
  have hl : lv_has ls 1 [(0, .int a0)] := hl
  unfold w_X2_isLetter at hw
  refine lv_iload_n hx hb dX2_isLetter_0 rfl (lv_at hl 0 rfl) ?_
  refine lv_bipush (v := 97) hx hb dX2_isLetter_1 (by decide) ?_
  refine ft_cut (hw (∀ (H : Heap) (locs : List Loc) (ls : Array Slot), cC_P Γ s σ H locs → lv_has ls 1 [] → cC_Wi p l e ({ frames := 0, cells := 0, slots := 0, locals := 0 } : Room) s m [.int a0] below meth c Γ (fun r u => u = σ ∧ Φ r) H locs 16 ls []) (fun  hw H locs ls hP hl => ?_)) (fun hw => ?_)
  · refine lv_iconst (v := 0) hx hb dX2_isLetter_16 (by decide) ?_
    exact W.zret hx hb hr rfl (cC_ri hP ⟨rfl, hw⟩) hP.2.2.2 dX2_isLetter_17
  · refine lv_icmp_lt (tgt := 16) hx hb dX2_isLetter_3 (by decide) (fun h => ?_) (fun h => ?_)
    · replace hw := hw.1 h
      exact hw _ _ _ hP (lv_sub hl [] rfl)
    · replace hw := hw.2 h
      refine lv_iload_n hx hb dX2_isLetter_6 rfl (lv_at hl 0 rfl) ?_
      refine lv_bipush (v := 104) hx hb dX2_isLetter_7 (by decide) ?_
      refine lv_icmp_gt (tgt := 16) hx hb dX2_isLetter_9 (by decide) (fun h => ?_) (fun h => ?_)
      · replace hw := hw.1 h
        exact hw _ _ _ hP (lv_sub hl [] rfl)
      · replace hw := hw.2 h
        refine lv_iconst (v := 1) hx hb dX2_isLetter_12 (by decide) ?_
        refine lv_goto (tgt := 17) hx hb dX2_isLetter_13 (by decide) ?_
        exact W.zret hx hb hr rfl (cC_ri hP ⟨rfl, hw⟩) hP.2.2.2 dX2_isLetter_17
theorem q_X2_takeDeed_1 : (Cond.fieldLink RX2 76 "FaultTwins$Reader" "wayDeed" "I") ∈ wsX2_takeDeed := List.mem_of_getElem? (i := 1) (by decide +kernel)
theorem q_X2_takeDeed_2 : (Cond.fieldLink RX2 22 "FaultTwins$Reader" "stage" "I") ∈ wsX2_takeDeed := List.mem_of_getElem? (i := 2) (by decide +kernel)
set_option maxHeartbeats 4000000 in
set_option maxRecDepth 100000 in
theorem c_X2_takeDeed (l : Launch) (Γ : ft_G) (hI : cC_I Γ) (k : Nat) (hk : cC_K k = 2) (a1 : Int32) (a2 : Int32) (σ : ft_St) (Φ : Int32 → ft_St → Prop) (hw : w_X2_takeDeed k a1 a2 σ Φ) : cC_Mi l yX2_takeDeed wsX2_takeDeed ({ frames := 1, cells := 0, slots := 0, locals := 20 } : Room) Γ σ [.ref (Γ.2.2 k), .int a1, .int a2] Φ := by
  refine Met.ofW (cc := cX2_takeDeed) (maxL := 3) (ret := (some .int)) (by decide) rfl ?_
  intro p e s m args below meth c s₁ B hml hv
  obtain ⟨rfl, hP, hK, hN⟩ := hv
  have hx := B.exec
  have hb := B.bytes
  have hr := B.returns
  have hts := atoms_spec (ws := wsX2_takeDeed) B.pre
  have hown : s.vm.findClass RX2 = some m.cls := findClass_of_methodNamed B.named
  have hlocks := B.notSynchronized
  have i2 : ∀ w ∈ wsX20, w ∈ wsX2_takeDeed := fun w h => List.mem_cons_of_mem _ (List.mem_append_right _ h)
  have hP : cC_P Γ s σ s.heap [] := ⟨hP, va_S.rf⟩
  have hl := lv_entry ([.ref (Γ.2.2 k), .int a1, .int a2]) (n := 3) (Nat.le_of_ble_eq_true rfl)
  rw [lg_entry_eq]
  generalize (lg_sl ([.ref (Γ.2.2 k), .int a1, .int a2]) ++ List.replicate (3 - (lg_sl ([.ref (Γ.2.2 k), .int a1, .int a2])).length) Slot.unset).toArray = ls at hl ⊢
  have hl : lv_has ls 3 [(0, .ref (Γ.2.2 k)), (1, .int a1), (2, .int a2)] := hl
  unfold w_X2_takeDeed at hw
  refine lv_iload_n hx hb dX2_takeDeed_0 rfl (lv_at hl 1 rfl) ?_
  refine cC_Sip (rest := []) ⟨hx, hb, hml, hown, hts⟩ (c_X2_isLetter l Γ hI a1 σ _ hw) (va_cwS 1 hts gX2_takeDeed_X2_isLetter rfl rfl rfl (by decide +kernel) ⟨Nat.le_of_ble_eq_true rfl, Nat.le_of_ble_eq_true rfl⟩) hK hN hP rfl hl.1 rfl (Nat.le_of_ble_eq_true rfl) dX2_takeDeed_1 ⟨Nat.le_refl _, Nat.le_refl _⟩ (fun r1 H locs hw hP => ?_)
  refine lv_if_ne (tgt := 9) hx hb dX2_takeDeed_4 (by decide) (fun h => ?_) (fun h => ?_)
  · replace hw := hw.1 h
    refine lv_aload_n hx hb dX2_takeDeed_9 rfl (lv_at hl 0 rfl) ?_
    refine lv_iload_n hx hb dX2_takeDeed_10 rfl (lv_at hl 1 rfl) ?_
    refine lv_bipush (v := 97) hx hb dX2_takeDeed_11 (by decide) ?_
    refine lv_isub hx hb dX2_takeDeed_13 ?_
    refine pC_2_5 hx hb hts i2 hown hK hI hP hk (hts _ q_X2_takeDeed_1) dX2_takeDeed_14 (fun H locs hP => ?_)
    obtain ⟨s2, hs2⟩ : ∃ u, u = ft_sF σ k 5 (a1 - 97) := ⟨_, rfl⟩
    rw [← hs2] at hP
    replace hw := hw s2 hs2
    refine lv_aload_n hx hb dX2_takeDeed_17 rfl (lv_at hl 0 rfl) ?_
    refine lv_iconst (v := 2) hx hb dX2_takeDeed_18 (by decide) ?_
    refine pC_2_1 hx hb hts i2 hown hK hI hP hk (hts _ q_X2_takeDeed_2) dX2_takeDeed_19 (fun H locs hP => ?_)
    obtain ⟨s3, hs3⟩ : ∃ u, u = ft_sF s2 k 1 2 := ⟨_, rfl⟩
    rw [← hs3] at hP
    replace hw := hw s3 hs3
    refine lv_iconst (v := (-1)) hx hb dX2_takeDeed_22 (by decide) ?_
    exact W.iret hx hb hr (cC_ri hP hw) hP.2.2.2 dX2_takeDeed_23
  · replace hw := hw.2 h
    refine lv_iload_n hx hb dX2_takeDeed_7 rfl (lv_at hl 2 rfl) ?_
    exact W.iret hx hb hr (cC_ri hP hw) hP.2.2.2 dX2_takeDeed_8
theorem q_X2_takeTo_1 : (Cond.fieldLink RX2 12 "FaultTwins$Reader" "draft" "LFaultTwins$Machine;") ∈ wsX2_takeTo := List.mem_of_getElem? (i := 1) (by decide +kernel)
theorem q_X2_takeTo_2 : (Cond.fieldLink RX2 70 "FaultTwins$Reader" "wayFrom" "I") ∈ wsX2_takeTo := List.mem_of_getElem? (i := 2) (by decide +kernel)
theorem q_X2_takeTo_3 : (Cond.fieldLink RX2 76 "FaultTwins$Reader" "wayDeed" "I") ∈ wsX2_takeTo := List.mem_of_getElem? (i := 3) (by decide +kernel)
theorem q_X2_takeTo_4 : (Cond.fieldLink RX2 67 "FaultTwins$Reader" "wayPlace" "I") ∈ wsX2_takeTo := List.mem_of_getElem? (i := 4) (by decide +kernel)
theorem q_X2_takeTo_5 : (Cond.fieldLink RX2 22 "FaultTwins$Reader" "stage" "I") ∈ wsX2_takeTo := List.mem_of_getElem? (i := 5) (by decide +kernel)
set_option maxHeartbeats 4000000 in
set_option maxRecDepth 100000 in
theorem c_X2_takeTo (l : Launch) (Γ : ft_G) (hI : cC_I Γ) (k : Nat) (hk : cC_K k = 2) (a1 : Int32) (a2 : Int32) (σ : ft_St) (Φ : Int32 → ft_St → Prop) (hw : w_X2_takeTo k a1 a2 σ Φ) : cC_Mi l yX2_takeTo wsX2_takeTo ({ frames := 2, cells := 0, slots := 0, locals := 43 } : Room) Γ σ [.ref (Γ.2.2 k), .int a1, .int a2] Φ := by
  refine Met.ofW (cc := cX2_takeTo) (maxL := 4) (ret := (some .int)) (by decide) rfl ?_
  intro p e s m args below meth c s₁ B hml hv
  obtain ⟨rfl, hP, hK, hN⟩ := hv
  have hx := B.exec
  have hb := B.bytes
  have hr := B.returns
  have hts := atoms_spec (ws := wsX2_takeTo) B.pre
  have hown : s.vm.findClass RX2 = some m.cls := findClass_of_methodNamed B.named
  have hlocks := B.notSynchronized
  have i2 : ∀ w ∈ wsX20, w ∈ wsX2_takeTo := fun w h => List.mem_cons_of_mem _ (List.mem_append_left _ (List.mem_append_right _ h))
  have hP : cC_P Γ s σ s.heap [] := ⟨hP, va_S.rf⟩
  have hl := lv_entry ([.ref (Γ.2.2 k), .int a1, .int a2]) (n := 4) (Nat.le_of_ble_eq_true rfl)
  rw [lg_entry_eq]
  generalize (lg_sl ([.ref (Γ.2.2 k), .int a1, .int a2]) ++ List.replicate (4 - (lg_sl ([.ref (Γ.2.2 k), .int a1, .int a2])).length) Slot.unset).toArray = ls at hl ⊢
  have hl : lv_has ls 4 [(0, .ref (Γ.2.2 k)), (1, .int a1), (2, .int a2)] := hl
  unfold w_X2_takeTo at hw
  refine lv_iload_n hx hb dX2_takeTo_0 rfl (lv_at hl 1 rfl) ?_
  refine cC_Sip (rest := []) ⟨hx, hb, hml, hown, hts⟩ (c_X2_isFigure l Γ hI a1 σ _ hw) (va_cwS 1 hts gX2_takeTo_X2_isFigure rfl rfl rfl (by decide +kernel) ⟨Nat.le_of_ble_eq_true rfl, Nat.le_of_ble_eq_true rfl⟩) hK hN hP rfl hl.1 rfl (Nat.le_of_ble_eq_true rfl) dX2_takeTo_1 ⟨Nat.le_refl _, Nat.le_refl _⟩ (fun r1 H locs hw hP => ?_)
  refine lv_if_ne (tgt := 9) hx hb dX2_takeTo_4 (by decide) (fun h => ?_) (fun h => ?_)
  · replace hw := hw.1 h
    refine lv_iload_n hx hb dX2_takeTo_9 rfl (lv_at hl 1 rfl) ?_
    refine lv_bipush (v := 48) hx hb dX2_takeTo_10 (by decide) ?_
    refine lv_isub hx hb dX2_takeTo_12 ?_
    refine lv_istore_n (lv' := [(3, .int (a1 - 48)), (0, .ref (Γ.2.2 k)), (1, .int a1), (2, .int a2)]) hx hb dX2_takeTo_13 rfl hl (by decide) rfl (fun ls hl => ?_)
    refine lv_aload_n hx hb dX2_takeTo_14 rfl (lv_at hl 1 rfl) ?_
    refine gC_2_0 hx hb hts i2 hown hK hP hk (hts _ q_X2_takeTo_1) dX2_takeTo_15 ?_
    refine lv_aload_n hx hb dX2_takeTo_18 rfl (lv_at hl 1 rfl) ?_
    refine gC_2_4 hx hb hts i2 hown hK hP hk (hts _ q_X2_takeTo_2) dX2_takeTo_19 ?_
    refine lv_aload_n hx hb dX2_takeTo_22 rfl (lv_at hl 1 rfl) ?_
    refine gC_2_5 hx hb hts i2 hown hK hP hk (hts _ q_X2_takeTo_3) dX2_takeTo_23 ?_
    refine lv_iload_n hx hb dX2_takeTo_26 rfl (lv_at hl 0 rfl) ?_
    refine cC_Vip (rest := []) ⟨hx, hb, hml, hown, hts⟩ (c_X1_has l Γ hI (k + 1) (tC_2_0 hk) (σ.1 k 4) (σ.1 k 5) (a1 - 48) σ _ hw) (cwV 3 hts gX2_takeTo_X1_has rfl rfl rfl (by decide +kernel) ⟨Nat.le_of_ble_eq_true rfl, Nat.le_of_ble_eq_true rfl⟩) hK hN hP (cC_lt (tC_2_0 hk) (by decide)) (cC_E1 (tC_2_0 hk)) rfl rfl rfl hl.1 rfl (Nat.le_of_ble_eq_true rfl) dX2_takeTo_27 ⟨Nat.le_refl _, Nat.le_refl _⟩ (fun r2 H locs hw hP => ?_)
    refine lv_if_eq (tgt := 38) hx hb dX2_takeTo_30 (by decide) (fun h => ?_) (fun h => ?_)
    · replace hw := hw.1 h
      refine lv_aload_n hx hb dX2_takeTo_38 rfl (lv_at hl 1 rfl) ?_
      refine gC_2_0 hx hb hts i2 hown hK hP hk (hts _ q_X2_takeTo_1) dX2_takeTo_39 ?_
      refine lv_aload_n hx hb dX2_takeTo_42 rfl (lv_at hl 1 rfl) ?_
      refine gC_2_4 hx hb hts i2 hown hK hP hk (hts _ q_X2_takeTo_2) dX2_takeTo_43 ?_
      refine lv_aload_n hx hb dX2_takeTo_46 rfl (lv_at hl 1 rfl) ?_
      refine gC_2_5 hx hb hts i2 hown hK hP hk (hts _ q_X2_takeTo_3) dX2_takeTo_47 ?_
      refine lv_iload_n hx hb dX2_takeTo_50 rfl (lv_at hl 0 rfl) ?_
      refine cC_Vv (rest := []) ⟨hx, hb, hml, hown, hts⟩ (c_X1_add l Γ hI (k + 1) (tC_2_0 hk) (σ.1 k 4) (σ.1 k 5) (a1 - 48) σ _ hw) (cwV 3 hts gX2_takeTo_X1_add rfl rfl rfl (by decide +kernel) ⟨Nat.le_of_ble_eq_true rfl, Nat.le_of_ble_eq_true rfl⟩) hK hN hP (cC_lt (tC_2_0 hk) (by decide)) (cC_E1 (tC_2_0 hk)) rfl rfl rfl hl.1 rfl (Nat.le_of_ble_eq_true rfl) dX2_takeTo_51 ⟨Nat.le_refl _, Nat.le_refl _⟩ (fun s3 H locs hw hP => ?_)
      refine lv_aload_n hx hb dX2_takeTo_54 rfl (lv_at hl 1 rfl) ?_
      refine lv_iconst (v := 3) hx hb dX2_takeTo_55 (by decide) ?_
      refine pC_2_1 hx hb hts i2 hown hK hI hP hk (hts _ q_X2_takeTo_5) dX2_takeTo_56 (fun H locs hP => ?_)
      obtain ⟨s4, hs4⟩ : ∃ u, u = ft_sF s3 k 1 3 := ⟨_, rfl⟩
      rw [← hs4] at hP
      replace hw := hw s4 hs4
      refine lv_iconst (v := (-1)) hx hb dX2_takeTo_59 (by decide) ?_
      exact W.iret hx hb hr (cC_ri hP hw) hP.2.2.2 dX2_takeTo_60
    · replace hw := hw.2 h
      refine lv_aload_n hx hb dX2_takeTo_33 rfl (lv_at hl 1 rfl) ?_
      refine gC_2_3 hx hb hts i2 hown hK hP hk (hts _ q_X2_takeTo_4) dX2_takeTo_34 ?_
      exact W.iret hx hb hr (cC_ri hP hw) hP.2.2.2 dX2_takeTo_37
  · replace hw := hw.2 h
    refine lv_iload_n hx hb dX2_takeTo_7 rfl (lv_at hl 2 rfl) ?_
    exact W.iret hx hb hr (cC_ri hP hw) hP.2.2.2 dX2_takeTo_8
theorem q_X2_takeEnd_1 : (Cond.fieldLink RX2 26 "FaultTwins$Reader" "orders" "I") ∈ wsX2_takeEnd := List.mem_of_getElem? (i := 1) (by decide +kernel)
theorem q_X2_takeEnd_2 : (Cond.fieldLink RX2 22 "FaultTwins$Reader" "stage" "I") ∈ wsX2_takeEnd := List.mem_of_getElem? (i := 2) (by decide +kernel)
set_option maxHeartbeats 4000000 in
set_option maxRecDepth 100000 in
theorem c_X2_takeEnd (l : Launch) (Γ : ft_G) (hI : cC_I Γ) (k : Nat) (hk : cC_K k = 2) (a1 : Int32) (a2 : Int32) (σ : ft_St) (Φ : Int32 → ft_St → Prop) (hw : w_X2_takeEnd k a1 a2 σ Φ) : cC_Mi l yX2_takeEnd wsX2_takeEnd ({ frames := 0, cells := 0, slots := 0, locals := 0 } : Room) Γ σ [.ref (Γ.2.2 k), .int a1, .int a2] Φ := by
  refine Met.ofW (cc := cX2_takeEnd) (maxL := 3) (ret := (some .int)) (by decide) rfl ?_
  intro p e s m args below meth c s₁ B hml hv
  obtain ⟨rfl, hP, hK, hN⟩ := hv
  have hx := B.exec
  have hb := B.bytes
  have hr := B.returns
  have hts := atoms_spec (ws := wsX2_takeEnd) B.pre
  have hown : s.vm.findClass RX2 = some m.cls := findClass_of_methodNamed B.named
  have hlocks := B.notSynchronized
  have i2 : ∀ w ∈ wsX20, w ∈ wsX2_takeEnd := fun w h => List.mem_cons_of_mem _ (List.mem_append_right _ h)
  have hP : cC_P Γ s σ s.heap [] := ⟨hP, va_S.rf⟩
  have hl := lv_entry ([.ref (Γ.2.2 k), .int a1, .int a2]) (n := 3) (Nat.le_of_ble_eq_true rfl)
  rw [lg_entry_eq]
  generalize (lg_sl ([.ref (Γ.2.2 k), .int a1, .int a2]) ++ List.replicate (3 - (lg_sl ([.ref (Γ.2.2 k), .int a1, .int a2])).length) Slot.unset).toArray = ls at hl ⊢
  have hl : lv_has ls 3 [(0, .ref (Γ.2.2 k)), (1, .int a1), (2, .int a2)] := hl
  unfold w_X2_takeEnd at hw
  refine lv_iload_n hx hb dX2_takeEnd_0 rfl (lv_at hl 1 rfl) ?_
  refine lv_bipush (v := 59) hx hb dX2_takeEnd_1 (by decide) ?_
  refine lv_icmp_eq (tgt := 8) hx hb dX2_takeEnd_3 (by decide) (fun h => ?_) (fun h => ?_)
  · replace hw := hw.1 h
    refine lv_aload_n hx hb dX2_takeEnd_8 rfl (lv_at hl 0 rfl) ?_
    refine lv_dup hx hb dX2_takeEnd_9 rfl ?_
    refine gC_2_2 hx hb hts i2 hown hK hP hk (hts _ q_X2_takeEnd_1) dX2_takeEnd_10 ?_
    refine lv_iconst (v := 1) hx hb dX2_takeEnd_13 (by decide) ?_
    refine lv_iadd hx hb dX2_takeEnd_14 ?_
    refine pC_2_2 hx hb hts i2 hown hK hI hP hk (hts _ q_X2_takeEnd_1) dX2_takeEnd_15 (fun H locs hP => ?_)
    obtain ⟨s1, hs1⟩ : ∃ u, u = ft_sF σ k 2 ((σ.1 k 2) + 1) := ⟨_, rfl⟩
    rw [← hs1] at hP
    replace hw := hw s1 hs1
    refine lv_aload_n hx hb dX2_takeEnd_18 rfl (lv_at hl 0 rfl) ?_
    refine lv_iconst (v := 0) hx hb dX2_takeEnd_19 (by decide) ?_
    refine pC_2_1 hx hb hts i2 hown hK hI hP hk (hts _ q_X2_takeEnd_2) dX2_takeEnd_20 (fun H locs hP => ?_)
    obtain ⟨s2, hs2⟩ : ∃ u, u = ft_sF s1 k 1 0 := ⟨_, rfl⟩
    rw [← hs2] at hP
    replace hw := hw s2 hs2
    refine lv_iconst (v := (-1)) hx hb dX2_takeEnd_23 (by decide) ?_
    exact W.iret hx hb hr (cC_ri hP hw) hP.2.2.2 dX2_takeEnd_24
  · replace hw := hw.2 h
    refine lv_iload_n hx hb dX2_takeEnd_6 rfl (lv_at hl 2 rfl) ?_
    exact W.iret hx hb hr (cC_ri hP hw) hP.2.2.2 dX2_takeEnd_7
theorem q_X2_takeInList_1 : (Cond.fieldLink RX2 56 "FaultTwins$Reader" "letters" "I") ∈ wsX2_takeInList := List.mem_of_getElem? (i := 1) (by decide +kernel)
theorem q_X2_takeInList_2 : (Cond.fieldLink RX2 22 "FaultTwins$Reader" "stage" "I") ∈ wsX2_takeInList := List.mem_of_getElem? (i := 2) (by decide +kernel)
theorem q_X2_takeInList_3 : (Cond.fieldLink RX2 12 "FaultTwins$Reader" "draft" "LFaultTwins$Machine;") ∈ wsX2_takeInList := List.mem_of_getElem? (i := 3) (by decide +kernel)
theorem q_X2_takeInList_4 : (Cond.fieldLink RX2 87 "FaultTwins$Machine" "faults" "I") ∈ wsX2_takeInList := List.mem_of_getElem? (i := 4) (by decide +kernel)
theorem q_X2_takeInList_5 : (Cond.fieldLink RX2 90 "FaultTwins$Machine" "seen" "I") ∈ wsX2_takeInList := List.mem_of_getElem? (i := 5) (by decide +kernel)
set_option maxHeartbeats 4000000 in
set_option maxRecDepth 100000 in
theorem c_X2_takeInList (l : Launch) (Γ : ft_G) (hI : cC_I Γ) (k : Nat) (hk : cC_K k = 2) (a1 : Int32) (a2 : Int32) (σ : ft_St) (Φ : Int32 → ft_St → Prop) (hw : w_X2_takeInList k a1 a2 σ Φ) : cC_Mi l yX2_takeInList wsX2_takeInList ({ frames := 1, cells := 0, slots := 0, locals := 22 } : Room) Γ σ [.ref (Γ.2.2 k), .int a1, .int a2] Φ := by
  refine Met.ofW (cc := cX2_takeInList) (maxL := 3) (ret := (some .int)) (by decide) rfl ?_
  intro p e s m args below meth c s₁ B hml hv
  obtain ⟨rfl, hP, hK, hN⟩ := hv
  have hx := B.exec
  have hb := B.bytes
  have hr := B.returns
  have hts := atoms_spec (ws := wsX2_takeInList) B.pre
  have hown : s.vm.findClass RX2 = some m.cls := findClass_of_methodNamed B.named
  have hlocks := B.notSynchronized
  have i1 : ∀ w ∈ wsX10, w ∈ wsX2_takeInList := fun w h => List.mem_cons_of_mem _ (List.mem_append_right _ h)
  have i2 : ∀ w ∈ wsX20, w ∈ wsX2_takeInList := fun w h => List.mem_cons_of_mem _ (List.mem_append_left _ (List.mem_append_right _ h))
  have hP : cC_P Γ s σ s.heap [] := ⟨hP, va_S.rf⟩
  have hl := lv_entry ([.ref (Γ.2.2 k), .int a1, .int a2]) (n := 3) (Nat.le_of_ble_eq_true rfl)
  rw [lg_entry_eq]
  generalize (lg_sl ([.ref (Γ.2.2 k), .int a1, .int a2]) ++ List.replicate (3 - (lg_sl ([.ref (Γ.2.2 k), .int a1, .int a2])).length) Slot.unset).toArray = ls at hl ⊢
  have hl : lv_has ls 3 [(0, .ref (Γ.2.2 k)), (1, .int a1), (2, .int a2)] := hl
  unfold w_X2_takeInList at hw
  refine lv_iload_n hx hb dX2_takeInList_0 rfl (lv_at hl 1 rfl) ?_
  refine cC_Sip (rest := []) ⟨hx, hb, hml, hown, hts⟩ (c_X2_isLetter l Γ hI a1 σ _ hw) (va_cwS 1 hts gX2_takeInList_X2_isLetter rfl rfl rfl (by decide +kernel) ⟨Nat.le_of_ble_eq_true rfl, Nat.le_of_ble_eq_true rfl⟩) hK hN hP rfl hl.1 rfl (Nat.le_of_ble_eq_true rfl) dX2_takeInList_1 ⟨Nat.le_refl _, Nat.le_refl _⟩ (fun r1 H locs hw hP => ?_)
  refine lv_if_eq (tgt := 24) hx hb dX2_takeInList_4 (by decide) (fun h => ?_) (fun h => ?_)
  · replace hw := hw.1 h
    refine lv_iload_n hx hb dX2_takeInList_24 rfl (lv_at hl 1 rfl) ?_
    refine lv_bipush (v := 59) hx hb dX2_takeInList_25 (by decide) ?_
    refine ft_cut (hw (fun (s2 : ft_St) => ∀ (H : Heap) (locs : List Loc) (ls : Array Slot), cC_P Γ s s2 H locs → lv_has ls 3 [(0, .ref (Γ.2.2 k)), (1, .int a1), (2, .int a2)] → cC_Wi p l e ({ frames := 1, cells := 0, slots := 0, locals := 22 } : Room) s m [.ref (Γ.2.2 k), .int a1, .int a2] below meth c Γ Φ H locs 75 ls []) (fun s2 hw H locs ls hP hl => ?_)) (fun hw => ?_)
    · refine lv_aload_n hx hb dX2_takeInList_75 rfl (lv_at hl 0 rfl) ?_
      refine lv_iload_n hx hb dX2_takeInList_76 rfl (lv_at hl 1 rfl) ?_
      refine lv_iload_n hx hb dX2_takeInList_77 rfl (lv_at hl 2 rfl) ?_
      refine cC_Vi (rest := []) ⟨hx, hb, hml, hown, hts⟩ (c_X2_takeEnd l Γ hI k hk a1 a2 s2 _ hw) (cwV 2 hts gX2_takeInList_X2_takeEnd rfl rfl rfl (by decide +kernel) ⟨Nat.le_of_ble_eq_true rfl, Nat.le_of_ble_eq_true rfl⟩) hK hN hP (cC_lt hk (by decide)) (cC_E2 hk) rfl rfl rfl hl.1 rfl (Nat.le_of_ble_eq_true rfl) dX2_takeInList_78 ⟨Nat.le_refl _, Nat.le_refl _⟩ (fun r4 s5 H locs hw hP => ?_)
      exact W.iret hx hb hr (cC_ri hP hw) hP.2.2.2 dX2_takeInList_81
    · refine ft_cut (hw (∀ (H : Heap) (locs : List Loc) (ls : Array Slot), cC_P Γ s σ H locs → lv_has ls 3 [(0, .ref (Γ.2.2 k)), (1, .int a1), (2, .int a2)] → cC_Wi p l e ({ frames := 1, cells := 0, slots := 0, locals := 22 } : Room) s m [.ref (Γ.2.2 k), .int a1, .int a2] below meth c Γ Φ H locs 52 ls []) (fun  hw H locs ls hP hl => ?_)) (fun hw => ?_)
      · refine lv_iload_n hx hb dX2_takeInList_52 rfl (lv_at hl 1 rfl) ?_
        refine lv_bipush (v := 59) hx hb dX2_takeInList_53 (by decide) ?_
        refine lv_icmp_ne (tgt := 75) hx hb dX2_takeInList_55 (by decide) (fun h => ?_) (fun h => ?_)
        · replace hw := hw.1 h
          exact hw _ _ _ hP (lv_sub hl [0, 1, 2] rfl)
        · replace hw := hw.2 h
          refine lv_aload_n hx hb dX2_takeInList_58 rfl (lv_at hl 0 rfl) ?_
          refine gC_2_0 hx hb hts i2 hown hK hP hk (hts _ q_X2_takeInList_3) dX2_takeInList_59 ?_
          refine lv_sipush (v := 255) hx hb dX2_takeInList_62 (by decide) ?_
          refine lv_aload_n hx hb dX2_takeInList_65 rfl (lv_at hl 0 rfl) ?_
          refine gC_2_6 hx hb hts i2 hown hK hP hk (hts _ q_X2_takeInList_1) dX2_takeInList_66 ?_
          refine lv_iconst (v := (-1)) hx hb dX2_takeInList_69 (by decide) ?_
          refine lv_ixor hx hb dX2_takeInList_70 ?_
          refine lv_iand hx hb dX2_takeInList_71 ?_
          refine pC_1_4 hx hb hts i1 hown hK hI hP (tC_2_0 hk) (hts _ q_X2_takeInList_5) dX2_takeInList_72 (fun H locs hP => ?_)
          obtain ⟨s7, hs7⟩ : ∃ u, u = ft_sF σ (k + 1) 4 (255 &&& ((σ.1 k 6) ^^^ (-1))) := ⟨_, rfl⟩
          rw [← hs7] at hP
          replace hw := hw s7 hs7
          exact hw _ _ _ hP (lv_sub hl [0, 1, 2] rfl)
      · refine lv_icmp_ne (tgt := 52) hx hb dX2_takeInList_27 (by decide) (fun h => ?_) (fun h => ?_)
        · replace hw := hw.1 h
          exact hw _ _ _ hP (lv_sub hl [0, 1, 2] rfl)
        · replace hw := hw.2 h
          refine lv_aload_n hx hb dX2_takeInList_30 rfl (lv_at hl 0 rfl) ?_
          refine gC_2_1 hx hb hts i2 hown hK hP hk (hts _ q_X2_takeInList_2) dX2_takeInList_31 ?_
          refine lv_iconst (v := 4) hx hb dX2_takeInList_34 (by decide) ?_
          refine lv_icmp_ne (tgt := 52) hx hb dX2_takeInList_35 (by decide) (fun h => ?_) (fun h => ?_)
          · replace hw := hw.1 h
            exact hw _ _ _ hP (lv_sub hl [0, 1, 2] rfl)
          · replace hw := hw.2 h
            refine lv_aload_n hx hb dX2_takeInList_38 rfl (lv_at hl 0 rfl) ?_
            refine gC_2_0 hx hb hts i2 hown hK hP hk (hts _ q_X2_takeInList_3) dX2_takeInList_39 ?_
            refine lv_aload_n hx hb dX2_takeInList_42 rfl (lv_at hl 0 rfl) ?_
            refine gC_2_6 hx hb hts i2 hown hK hP hk (hts _ q_X2_takeInList_1) dX2_takeInList_43 ?_
            refine pC_1_5 hx hb hts i1 hown hK hI hP (tC_2_0 hk) (hts _ q_X2_takeInList_4) dX2_takeInList_46 (fun H locs hP => ?_)
            obtain ⟨s8, hs8⟩ : ∃ u, u = ft_sF σ (k + 1) 5 (σ.1 k 6) := ⟨_, rfl⟩
            rw [← hs8] at hP
            replace hw := hw s8 hs8
            refine lv_goto (tgt := 75) hx hb dX2_takeInList_49 (by decide) ?_
            exact hw _ _ _ hP (lv_sub hl [0, 1, 2] rfl)
  · replace hw := hw.2 h
    refine lv_aload_n hx hb dX2_takeInList_7 rfl (lv_at hl 0 rfl) ?_
    refine lv_dup hx hb dX2_takeInList_8 rfl ?_
    refine gC_2_6 hx hb hts i2 hown hK hP hk (hts _ q_X2_takeInList_1) dX2_takeInList_9 ?_
    refine lv_iconst (v := 1) hx hb dX2_takeInList_12 (by decide) ?_
    refine lv_iload_n hx hb dX2_takeInList_13 rfl (lv_at hl 1 rfl) ?_
    refine lv_bipush (v := 97) hx hb dX2_takeInList_14 (by decide) ?_
    refine lv_isub hx hb dX2_takeInList_16 ?_
    refine lv_ishl hx hb dX2_takeInList_17 ?_
    refine lv_ior hx hb dX2_takeInList_18 ?_
    refine pC_2_6 hx hb hts i2 hown hK hI hP hk (hts _ q_X2_takeInList_1) dX2_takeInList_19 (fun H locs hP => ?_)
    obtain ⟨s9, hs9⟩ : ∃ u, u = ft_sF σ k 6 ((σ.1 k 6) ||| (1 <<< ((a1 - 97) &&& 31))) := ⟨_, rfl⟩
    rw [← hs9] at hP
    replace hw := hw s9 hs9
    refine lv_iconst (v := (-1)) hx hb dX2_takeInList_22 (by decide) ?_
    exact W.iret hx hb hr (cC_ri hP hw) hP.2.2.2 dX2_takeInList_23
theorem q_X2_take_1 : (Cond.fieldLink RX2 22 "FaultTwins$Reader" "stage" "I") ∈ wsX2_take := List.mem_of_getElem? (i := 1) (by decide +kernel)
set_option maxHeartbeats 4000000 in
set_option maxRecDepth 100000 in
theorem c_X2_take (l : Launch) (Γ : ft_G) (hI : cC_I Γ) (k : Nat) (hk : cC_K k = 2) (a1 : Int32) (a2 : Int32) (σ : ft_St) (Φ : Int32 → ft_St → Prop) (hw : w_X2_take k a1 a2 σ Φ) : cC_Mi l yX2_take wsX2_take ({ frames := 3, cells := 0, slots := 0, locals := 66 } : Room) Γ σ [.ref (Γ.2.2 k), .int a1, .int a2] Φ := by
  refine Met.ofW (cc := cX2_take) (maxL := 3) (ret := (some .int)) (by decide) rfl ?_
  intro p e s m args below meth c s₁ B hml hv
  obtain ⟨rfl, hP, hK, hN⟩ := hv
  have hx := B.exec
  have hb := B.bytes
  have hr := B.returns
  have hts := atoms_spec (ws := wsX2_take) B.pre
  have hown : s.vm.findClass RX2 = some m.cls := findClass_of_methodNamed B.named
  have hlocks := B.notSynchronized
  have i2 : ∀ w ∈ wsX20, w ∈ wsX2_take := fun w h => List.mem_cons_of_mem _ (List.mem_append_left _ (List.mem_append_right _ h))
  have hP : cC_P Γ s σ s.heap [] := ⟨hP, va_S.rf⟩
  have hl := lv_entry ([.ref (Γ.2.2 k), .int a1, .int a2]) (n := 3) (Nat.le_of_ble_eq_true rfl)
  rw [lg_entry_eq]
  generalize (lg_sl ([.ref (Γ.2.2 k), .int a1, .int a2]) ++ List.replicate (3 - (lg_sl ([.ref (Γ.2.2 k), .int a1, .int a2])).length) Slot.unset).toArray = ls at hl ⊢
  have hl : lv_has ls 3 [(0, .ref (Γ.2.2 k)), (1, .int a1), (2, .int a2)] := hl
  unfold w_X2_take at hw
  refine lv_aload_n hx hb dX2_take_0 rfl (lv_at hl 0 rfl) ?_
  refine gC_2_1 hx hb hts i2 hown hK hP hk (hts _ q_X2_take_1) dX2_take_1 ?_
  rcases ft_tab4 (σ.1 k 1) with h | h | h | h | h
  · replace hw := hw.2.2.2.2 h
    refine lv_tableOut (tgt := 64) hx hb dX2_take_4 h (by decide) ?_
    refine lv_aload_n hx hb dX2_take_64 rfl (lv_at hl 0 rfl) ?_
    refine lv_iload_n hx hb dX2_take_65 rfl (lv_at hl 1 rfl) ?_
    refine lv_iload_n hx hb dX2_take_66 rfl (lv_at hl 2 rfl) ?_
    refine cC_Vi (rest := []) ⟨hx, hb, hml, hown, hts⟩ (c_X2_takeInList l Γ hI k hk a1 a2 σ _ hw) (cwV 2 hts gX2_take_X2_takeInList rfl rfl rfl (by decide +kernel) ⟨Nat.le_of_ble_eq_true rfl, Nat.le_of_ble_eq_true rfl⟩) hK hN hP (cC_lt hk (by decide)) (cC_E2 hk) rfl rfl rfl hl.1 rfl (Nat.le_of_ble_eq_true rfl) dX2_take_67 ⟨Nat.le_refl _, Nat.le_refl _⟩ (fun r1 s2 H locs hw hP => ?_)
    exact W.iret hx hb hr (cC_ri hP hw) hP.2.2.2 dX2_take_70
  · replace hw := hw.1 h
    refine lv_tableIn (off := 32) (tgt := 36) hx hb dX2_take_4 (by rw [h]; decide) (by rw [h]; decide) (by rw [h]; rfl) (by decide) ?_
    refine lv_aload_n hx hb dX2_take_36 rfl (lv_at hl 0 rfl) ?_
    refine lv_iload_n hx hb dX2_take_37 rfl (lv_at hl 1 rfl) ?_
    refine lv_iload_n hx hb dX2_take_38 rfl (lv_at hl 2 rfl) ?_
    refine cC_Vi (rest := []) ⟨hx, hb, hml, hown, hts⟩ (c_X2_takeFirst l Γ hI k hk a1 a2 σ _ hw) (cwV 2 hts gX2_take_X2_takeFirst rfl rfl rfl (by decide +kernel) ⟨Nat.le_of_ble_eq_true rfl, Nat.le_of_ble_eq_true rfl⟩) hK hN hP (cC_lt hk (by decide)) (cC_E2 hk) rfl rfl rfl hl.1 rfl (Nat.le_of_ble_eq_true rfl) dX2_take_39 ⟨Nat.le_refl _, Nat.le_refl _⟩ (fun r3 s4 H locs hw hP => ?_)
    exact W.iret hx hb hr (cC_ri hP hw) hP.2.2.2 dX2_take_42
  · replace hw := hw.2.1 h
    refine lv_tableIn (off := 39) (tgt := 43) hx hb dX2_take_4 (by rw [h]; decide) (by rw [h]; decide) (by rw [h]; rfl) (by decide) ?_
    refine lv_aload_n hx hb dX2_take_43 rfl (lv_at hl 0 rfl) ?_
    refine lv_iload_n hx hb dX2_take_44 rfl (lv_at hl 1 rfl) ?_
    refine lv_iload_n hx hb dX2_take_45 rfl (lv_at hl 2 rfl) ?_
    refine cC_Vi (rest := []) ⟨hx, hb, hml, hown, hts⟩ (c_X2_takeDeed l Γ hI k hk a1 a2 σ _ hw) (cwV 2 hts gX2_take_X2_takeDeed rfl rfl rfl (by decide +kernel) ⟨Nat.le_of_ble_eq_true rfl, Nat.le_of_ble_eq_true rfl⟩) hK hN hP (cC_lt hk (by decide)) (cC_E2 hk) rfl rfl rfl hl.1 rfl (Nat.le_of_ble_eq_true rfl) dX2_take_46 ⟨Nat.le_refl _, Nat.le_refl _⟩ (fun r5 s6 H locs hw hP => ?_)
    exact W.iret hx hb hr (cC_ri hP hw) hP.2.2.2 dX2_take_49
  · replace hw := hw.2.2.1 h
    refine lv_tableIn (off := 46) (tgt := 50) hx hb dX2_take_4 (by rw [h]; decide) (by rw [h]; decide) (by rw [h]; rfl) (by decide) ?_
    refine lv_aload_n hx hb dX2_take_50 rfl (lv_at hl 0 rfl) ?_
    refine lv_iload_n hx hb dX2_take_51 rfl (lv_at hl 1 rfl) ?_
    refine lv_iload_n hx hb dX2_take_52 rfl (lv_at hl 2 rfl) ?_
    refine cC_Vi (rest := []) ⟨hx, hb, hml, hown, hts⟩ (c_X2_takeTo l Γ hI k hk a1 a2 σ _ hw) (cwV 2 hts gX2_take_X2_takeTo rfl rfl rfl (by decide +kernel) ⟨Nat.le_of_ble_eq_true rfl, Nat.le_of_ble_eq_true rfl⟩) hK hN hP (cC_lt hk (by decide)) (cC_E2 hk) rfl rfl rfl hl.1 rfl (Nat.le_of_ble_eq_true rfl) dX2_take_53 ⟨Nat.le_refl _, Nat.le_refl _⟩ (fun r7 s8 H locs hw hP => ?_)
    exact W.iret hx hb hr (cC_ri hP hw) hP.2.2.2 dX2_take_56
  · replace hw := hw.2.2.2.1 h
    refine lv_tableIn (off := 53) (tgt := 57) hx hb dX2_take_4 (by rw [h]; decide) (by rw [h]; decide) (by rw [h]; rfl) (by decide) ?_
    refine lv_aload_n hx hb dX2_take_57 rfl (lv_at hl 0 rfl) ?_
    refine lv_iload_n hx hb dX2_take_58 rfl (lv_at hl 1 rfl) ?_
    refine lv_iload_n hx hb dX2_take_59 rfl (lv_at hl 2 rfl) ?_
    refine cC_Vi (rest := []) ⟨hx, hb, hml, hown, hts⟩ (c_X2_takeEnd l Γ hI k hk a1 a2 σ _ hw) (cwV 2 hts gX2_take_X2_takeEnd rfl rfl rfl (by decide +kernel) ⟨Nat.le_of_ble_eq_true rfl, Nat.le_of_ble_eq_true rfl⟩) hK hN hP (cC_lt hk (by decide)) (cC_E2 hk) rfl rfl rfl hl.1 rfl (Nat.le_of_ble_eq_true rfl) dX2_take_60 ⟨Nat.le_refl _, Nat.le_refl _⟩ (fun r9 s10 H locs hw hP => ?_)
    exact W.iret hx hb hr (cC_ri hP hw) hP.2.2.2 dX2_take_63
theorem q_X2_follow_1 : (Cond.fieldLink RX2 12 "FaultTwins$Reader" "draft" "LFaultTwins$Machine;") ∈ wsX2_follow := List.mem_of_getElem? (i := 1) (by decide +kernel)
theorem q_X2_follow_2 : (Cond.fieldLink RX2 22 "FaultTwins$Reader" "stage" "I") ∈ wsX2_follow := List.mem_of_getElem? (i := 2) (by decide +kernel)
theorem q_X2_follow_3 : (Cond.fieldLink RX2 26 "FaultTwins$Reader" "orders" "I") ∈ wsX2_follow := List.mem_of_getElem? (i := 3) (by decide +kernel)
theorem q_X2_follow_4 : (Cond.fieldLink RX2 29 "FaultTwins$Text" "length" "I") ∈ wsX2_follow := List.mem_of_getElem? (i := 4) (by decide +kernel)
theorem q_X2_follow_5 : (Cond.fieldLink RX2 34 "FaultTwins$Text" "bytes" "[B") ∈ wsX2_follow := List.mem_of_getElem? (i := 5) (by decide +kernel)
set_option maxHeartbeats 4000000 in
set_option maxRecDepth 100000 in
theorem c_X2_follow (l : Launch) (Γ : ft_G) (hI : cC_I Γ) (k : Nat) (hk : cC_K k = 2) (k1 : Nat) (hk1 : cC_K k1 = 5) (k2 : Nat) (hk2 : cC_K k2 = 1) (σ : ft_St) (Φ : Int32 → ft_St → Prop) (hw : w_X2_follow k k1 k2 σ Φ) : cC_Mi l yX2_follow wsX2_follow ({ frames := 4, cells := 0, slots := 0, locals := 88 } : Room) Γ σ [.ref (Γ.2.2 k), .ref (Γ.2.2 k1), .ref (Γ.2.2 k2)] Φ := by
  refine Met.ofW (cc := cX2_follow) (maxL := 6) (ret := (some .int)) (by decide) rfl ?_
  intro p e s m args below meth c s₁ B hml hv
  obtain ⟨rfl, hP, hK, hN⟩ := hv
  have hx := B.exec
  have hb := B.bytes
  have hr := B.returns
  have hts := atoms_spec (ws := wsX2_follow) B.pre
  have hown : s.vm.findClass RX2 = some m.cls := findClass_of_methodNamed B.named
  have hlocks := B.notSynchronized
  have i2 : ∀ w ∈ wsX20, w ∈ wsX2_follow := fun w h => List.mem_cons_of_mem _ (List.mem_append_left _ (List.mem_append_left _ (List.mem_append_right _ h)))
  have i5 : ∀ w ∈ wsX50, w ∈ wsX2_follow := fun w h => List.mem_cons_of_mem _ (List.mem_append_left _ (List.mem_append_right _ h))
  have hP : cC_P Γ s σ s.heap [] := ⟨hP, va_S.rf⟩
  have hl := lv_entry ([.ref (Γ.2.2 k), .ref (Γ.2.2 k1), .ref (Γ.2.2 k2)]) (n := 6) (Nat.le_of_ble_eq_true rfl)
  rw [lg_entry_eq]
  generalize (lg_sl ([.ref (Γ.2.2 k), .ref (Γ.2.2 k1), .ref (Γ.2.2 k2)]) ++ List.replicate (6 - (lg_sl ([.ref (Γ.2.2 k), .ref (Γ.2.2 k1), .ref (Γ.2.2 k2)])).length) Slot.unset).toArray = ls at hl ⊢
  have hl : lv_has ls 6 [(0, .ref (Γ.2.2 k)), (1, .ref (Γ.2.2 k1)), (2, .ref (Γ.2.2 k2))] := hl
  unfold w_X2_follow at hw
  refine lv_aload_n hx hb dX2_follow_0 rfl (lv_at hl 0 rfl) ?_
  refine gC_2_0 hx hb hts i2 hown hK hP hk (hts _ q_X2_follow_1) dX2_follow_1 ?_
  refine lv_aload_n hx hb dX2_follow_4 rfl (lv_at hl 2 rfl) ?_
  refine cC_Vv (rest := []) ⟨hx, hb, hml, hown, hts⟩ (c_X1_take l Γ hI (k + 1) (tC_2_0 hk) k2 hk2 σ _ hw) (cwV 1 hts gX2_follow_X1_take rfl rfl rfl (by decide +kernel) ⟨Nat.le_of_ble_eq_true rfl, Nat.le_of_ble_eq_true rfl⟩) hK hN hP (cC_lt (tC_2_0 hk) (by decide)) (cC_E1 (tC_2_0 hk)) rfl rfl rfl hl.1 rfl (Nat.le_of_ble_eq_true rfl) dX2_follow_5 ⟨Nat.le_refl _, Nat.le_refl _⟩ (fun s1 H locs hw hP => ?_)
  refine lv_aload_n hx hb dX2_follow_8 rfl (lv_at hl 0 rfl) ?_
  refine lv_iconst (v := 0) hx hb dX2_follow_9 (by decide) ?_
  refine pC_2_1 hx hb hts i2 hown hK hI hP hk (hts _ q_X2_follow_2) dX2_follow_10 (fun H locs hP => ?_)
  obtain ⟨s2, hs2⟩ : ∃ u, u = ft_sF s1 k 1 0 := ⟨_, rfl⟩
  rw [← hs2] at hP
  replace hw := hw s2 hs2
  refine lv_aload_n hx hb dX2_follow_13 rfl (lv_at hl 0 rfl) ?_
  refine lv_iconst (v := 0) hx hb dX2_follow_14 (by decide) ?_
  refine pC_2_2 hx hb hts i2 hown hK hI hP hk (hts _ q_X2_follow_3) dX2_follow_15 (fun H locs hP => ?_)
  obtain ⟨s3, hs3⟩ : ∃ u, u = ft_sF s2 k 2 0 := ⟨_, rfl⟩
  rw [← hs3] at hP
  replace hw := hw s3 hs3
  refine lv_iconst (v := 0) hx hb dX2_follow_18 (by decide) ?_
  refine lv_istore_n (lv' := [(3, .int 0), (0, .ref (Γ.2.2 k)), (1, .ref (Γ.2.2 k1)), (2, .ref (Γ.2.2 k2))]) hx hb dX2_follow_19 rfl hl (by decide) rfl (fun ls hl => ?_)
  refine hw (fun (x4 : Int32) (s5 : ft_St) => ∀ (H : Heap) (locs : List Loc) (ls : Array Slot), cC_P Γ s s5 H locs → lv_has ls 6 [(0, .ref (Γ.2.2 k)), (1, .ref (Γ.2.2 k1)), (3, .int x4)] → cC_Wi p l e ({ frames := 4, cells := 0, slots := 0, locals := 88 } : Room) s m [.ref (Γ.2.2 k), .ref (Γ.2.2 k1), .ref (Γ.2.2 k2)] below meth c Γ Φ H locs 20 ls []) (fun x4 s5 hw H locs ls hP hl => ?_) _ _ _ hP (lv_sub hl [1, 2, 0] rfl)
  refine lv_iload_n hx hb dX2_follow_20 rfl (lv_at hl 2 rfl) ?_
  refine lv_aload_n hx hb dX2_follow_21 rfl (lv_at hl 1 rfl) ?_
  refine gC_5_1 hx hb hts i5 hown hK hP hk1 (hts _ q_X2_follow_4) dX2_follow_22 ?_
  refine lv_icmp_ge (tgt := 70) hx hb dX2_follow_25 (by decide) (fun h => ?_) (fun h => ?_)
  · replace hw := hw.1 h
    refine lv_aload_n hx hb dX2_follow_70 rfl (lv_at hl 0 rfl) ?_
    refine gC_2_1 hx hb hts i2 hown hK hP hk (hts _ q_X2_follow_2) dX2_follow_71 ?_
    refine ft_cut (hw (∀ (H : Heap) (locs : List Loc) (ls : Array Slot), cC_P Γ s s5 H locs → lv_has ls 6 [(1, .ref (Γ.2.2 k1))] → cC_Wi p l e ({ frames := 4, cells := 0, slots := 0, locals := 88 } : Room) s m [.ref (Γ.2.2 k), .ref (Γ.2.2 k1), .ref (Γ.2.2 k2)] below meth c Γ Φ H locs 84 ls []) (fun  hw H locs ls hP hl => ?_)) (fun hw => ?_)
    · refine lv_bipush (v := (-10)) hx hb dX2_follow_84 (by decide) ?_
      refine lv_aload_n hx hb dX2_follow_86 rfl (lv_at hl 0 rfl) ?_
      refine gC_5_1 hx hb hts i5 hown hK hP hk1 (hts _ q_X2_follow_4) dX2_follow_87 ?_
      refine lv_isub hx hb dX2_follow_90 ?_
      refine lv_goto (tgt := 98) hx hb dX2_follow_91 (by decide) ?_
      exact W.iret hx hb hr (cC_ri hP hw) hP.2.2.2 dX2_follow_98
    · refine lv_if_ne (tgt := 84) hx hb dX2_follow_74 (by decide) (fun h => ?_) (fun h => ?_)
      · replace hw := hw.1 h
        exact hw _ _ _ hP (lv_sub hl [1] rfl)
      · replace hw := hw.2 h
        refine lv_aload_n hx hb dX2_follow_77 rfl (lv_at hl 0 rfl) ?_
        refine gC_2_2 hx hb hts i2 hown hK hP hk (hts _ q_X2_follow_3) dX2_follow_78 ?_
        refine lv_if_ne (tgt := 94) hx hb dX2_follow_81 (by decide) (fun h => ?_) (fun h => ?_)
        · replace hw := hw.1 h
          refine lv_aload_n hx hb dX2_follow_94 rfl (lv_at hl 0 rfl) ?_
          refine gC_2_2 hx hb hts i2 hown hK hP hk (hts _ q_X2_follow_3) dX2_follow_95 ?_
          exact W.iret hx hb hr (cC_ri hP hw) hP.2.2.2 dX2_follow_98
        · replace hw := hw.2 h
          exact hw _ _ _ hP (lv_sub hl [1] rfl)
  · replace hw := hw.2 h
    refine lv_aload_n hx hb dX2_follow_28 rfl (lv_at hl 1 rfl) ?_
    refine gC_5_0 hx hb hts i5 hown hK hP hk1 (hts _ q_X2_follow_5) dX2_follow_29 ?_
    refine lv_iload_n hx hb dX2_follow_32 rfl (lv_at hl 2 rfl) ?_
    refine aC_bld hx hb hK hP (tC_5_0 hk1) (nC_5_0 hk1) hw.1 dX2_follow_33 ?_
    replace hw := hw.2
    refine lv_topi (fun x8 ex8 => ?_)
    replace hw := hw x8 ex8
    refine lv_istore (lv' := [(4, .int x8), (0, .ref (Γ.2.2 k)), (1, .ref (Γ.2.2 k1)), (3, .int x4)]) hx hb dX2_follow_34 hl (by decide) rfl (fun ls hl => ?_)
    refine lv_iload hx hb dX2_follow_36 (lv_at hl 0 rfl) ?_
    refine lv_bipush (v := 32) hx hb dX2_follow_38 (by decide) ?_
    refine lv_icmp_eq (tgt := 64) hx hb dX2_follow_40 (by decide) (fun h => ?_) (fun h => ?_)
    · replace hw := hw.1 h
      refine lv_iinc (v := x4 + 1) (lv' := [(3, .int (x4 + 1)), (4, .int x8), (0, .ref (Γ.2.2 k)), (1, .ref (Γ.2.2 k1))]) hx hb dX2_follow_64 hl (k := 3) rfl (congrArg (fun z => x4 + z) (by decide)) (by decide) rfl (fun ls hl => ?_)
      refine lv_goto (tgt := 20) hx hb dX2_follow_67 (by decide) ?_
      exact hw _ _ _ hP (lv_sub hl [2, 3, 0] rfl)
    · replace hw := hw.2 h
      refine lv_aload_n hx hb dX2_follow_43 rfl (lv_at hl 1 rfl) ?_
      refine lv_iload hx hb dX2_follow_44 (lv_at hl 0 rfl) ?_
      refine lv_iload_n hx hb dX2_follow_46 rfl (lv_at hl 3 rfl) ?_
      refine cC_Vi (rest := []) ⟨hx, hb, hml, hown, hts⟩ (c_X2_take l Γ hI k hk x8 x4 s5 _ hw) (cwV 2 hts gX2_follow_X2_take rfl rfl rfl (by decide +kernel) ⟨Nat.le_of_ble_eq_true rfl, Nat.le_of_ble_eq_true rfl⟩) hK hN hP (cC_lt hk (by decide)) (cC_E2 hk) rfl rfl rfl hl.1 rfl (Nat.le_of_ble_eq_true rfl) dX2_follow_47 ⟨Nat.le_refl _, Nat.le_refl _⟩ (fun r9 s10 H locs hw hP => ?_)
      refine lv_istore (lv' := [(5, .int r9), (4, .int x8), (0, .ref (Γ.2.2 k)), (1, .ref (Γ.2.2 k1)), (3, .int x4)]) hx hb dX2_follow_50 hl (by decide) rfl (fun ls hl => ?_)
      refine lv_iload hx hb dX2_follow_52 (lv_at hl 0 rfl) ?_
      refine lv_iconst (v := (-1)) hx hb dX2_follow_54 (by decide) ?_
      refine lv_icmp_eq (tgt := 64) hx hb dX2_follow_55 (by decide) (fun h => ?_) (fun h => ?_)
      · replace hw := hw.1 h
        refine lv_iinc (v := x4 + 1) (lv' := [(3, .int (x4 + 1)), (5, .int r9), (4, .int x8), (0, .ref (Γ.2.2 k)), (1, .ref (Γ.2.2 k1))]) hx hb dX2_follow_64 hl (k := 4) rfl (congrArg (fun z => x4 + z) (by decide)) (by decide) rfl (fun ls hl => ?_)
        refine lv_goto (tgt := 20) hx hb dX2_follow_67 (by decide) ?_
        exact hw _ _ _ hP (lv_sub hl [3, 4, 0] rfl)
      · replace hw := hw.2 h
        refine lv_bipush (v := (-10)) hx hb dX2_follow_58 (by decide) ?_
        refine lv_iload hx hb dX2_follow_60 (lv_at hl 0 rfl) ?_
        refine lv_isub hx hb dX2_follow_62 ?_
        exact W.iret hx hb hr (cC_ri hP hw) hP.2.2.2 dX2_follow_63
set_option maxHeartbeats 4000000 in
set_option maxRecDepth 100000 in
theorem c_J7_fill_53178 (l : Launch) (Γ : ft_G) (hI : cC_I Γ) (k0 : Nat) (hk0 : cC_K k0 = 12) (a1 : Int32) (σ : ft_St) (Φ : ft_St → Prop) (hw : w_J7_fill_53178 k0 a1 σ Φ) : cC_Mv l yJ7_fill_53178 wsJ7_fill_53178 ({ frames := 0, cells := 0, slots := 0, locals := 0 } : Room) Γ σ [.ref (Γ.2.2 k0), .int a1] Φ := by
  refine Met.ofW (cc := cJ7_fill_53178) (maxL := 4) (ret := none) (by decide) rfl ?_
  intro p e s m args below meth c s₁ B hml hv
  obtain ⟨rfl, hP, hK, hN⟩ := hv
  have hx := B.exec
  have hb := B.bytes
  have hr := B.returns
  have hts := atoms_spec (ws := wsJ7_fill_53178) B.pre
  have hown : s.vm.findClass RJ7 = some m.cls := findClass_of_methodNamed B.named
  have hlocks := B.notSynchronized
  have hP : cC_P Γ s σ s.heap [] := ⟨hP, va_S.rf⟩
  have hl := lv_entry ([.ref (Γ.2.2 k0), .int a1]) (n := 4) (Nat.le_of_ble_eq_true rfl)
  rw [lg_entry_eq]
  generalize (lg_sl ([.ref (Γ.2.2 k0), .int a1]) ++ List.replicate (4 - (lg_sl ([.ref (Γ.2.2 k0), .int a1])).length) Slot.unset).toArray = ls at hl ⊢
  have hl : lv_has ls 4 [(0, .ref (Γ.2.2 k0)), (1, .int a1)] := hl
  unfold w_J7_fill_53178 at hw
  refine lv_iconst (v := 0) hx hb dJ7_fill_53178_0 (by decide) ?_
  refine lv_istore_n (lv' := [(2, .int 0), (0, .ref (Γ.2.2 k0)), (1, .int a1)]) hx hb dJ7_fill_53178_1 rfl hl (by decide) rfl (fun ls hl => ?_)
  refine lv_aload_n hx hb dJ7_fill_53178_2 rfl (lv_at hl 1 rfl) ?_
  refine aC_len hx hb hK hP hk0 dJ7_fill_53178_3 ?_
  refine lv_istore_n (lv' := [(3, .int (nI (cC_N k0))), (2, .int 0), (0, .ref (Γ.2.2 k0)), (1, .int a1)]) hx hb dJ7_fill_53178_4 rfl hl (by decide) rfl (fun ls hl => ?_)
  refine hw (fun (x1 : Int32) (s2 : ft_St) => ∀ (H : Heap) (locs : List Loc) (ls : Array Slot), cC_P Γ s s2 H locs → lv_has ls 4 [(0, .ref (Γ.2.2 k0)), (1, .int a1), (2, .int x1), (3, .int (nI (cC_N k0)))] → cC_Wv p l e ({ frames := 0, cells := 0, slots := 0, locals := 0 } : Room) s m [.ref (Γ.2.2 k0), .int a1] below meth c Γ Φ H locs 5 ls []) (fun x1 s2 hw H locs ls hP hl => ?_) _ _ _ hP (lv_sub hl [2, 3, 1, 0] rfl)
  refine lv_iload_n hx hb dJ7_fill_53178_5 rfl (lv_at hl 2 rfl) ?_
  refine lv_iload_n hx hb dJ7_fill_53178_6 rfl (lv_at hl 3 rfl) ?_
  refine lv_icmp_ge (tgt := 20) hx hb dJ7_fill_53178_7 (by decide) (fun h => ?_) (fun h => ?_)
  · replace hw := hw.1 h
    exact W.vret hx hb hr (cC_rv hP hw) hP.2.2.2 dJ7_fill_53178_20
  · replace hw := hw.2 h
    refine lv_aload_n hx hb dJ7_fill_53178_10 rfl (lv_at hl 0 rfl) ?_
    refine lv_iload_n hx hb dJ7_fill_53178_11 rfl (lv_at hl 2 rfl) ?_
    refine lv_iload_n hx hb dJ7_fill_53178_12 rfl (lv_at hl 1 rfl) ?_
    refine aC_st hx hb hK hI hP hk0 rfl hw.1 dJ7_fill_53178_13 (fun H locs hP => ?_)
    replace hw := hw.2
    obtain ⟨s4, hs4⟩ : ∃ u, u = ft_sA s2 k0 (upd (s2.2.1 k0) (Int32.toNatClampNeg x1) a1) := ⟨_, rfl⟩
    rw [← hs4] at hP
    replace hw := hw s4 hs4
    refine lv_iinc (v := x1 + 1) (lv' := [(2, .int (x1 + 1)), (0, .ref (Γ.2.2 k0)), (1, .int a1), (3, .int (nI (cC_N k0)))]) hx hb dJ7_fill_53178_14 hl (k := 2) rfl (congrArg (fun z => x1 + z) (by decide)) (by decide) rfl (fun ls hl => ?_)
    refine lv_goto (tgt := 5) hx hb dJ7_fill_53178_17 (by decide) ?_
    exact hw _ _ _ hP (lv_sub hl [1, 2, 0, 3] rfl)
theorem q_X7_first_1 : (Cond.fieldLink RX7 9 "FaultTwins$View" "unseen" "[I") ∈ wsX7_first := List.mem_of_getElem? (i := 1) (by decide +kernel)
set_option maxHeartbeats 4000000 in
set_option maxRecDepth 100000 in
theorem c_X7_first (l : Launch) (Γ : ft_G) (hI : cC_I Γ) (k : Nat) (hk : cC_K k = 7) (σ : ft_St) (Φ : Int32 → Prop) (hw : w_X7_first k σ Φ) : cC_Mip l yX7_first wsX7_first ({ frames := 0, cells := 0, slots := 0, locals := 0 } : Room) Γ σ [.ref (Γ.2.2 k)] Φ := by
  refine Met.ofW (cc := cX7_first) (maxL := 1) (ret := (some .int)) (by decide) rfl ?_
  intro p e s m args below meth c s₁ B hml hv
  obtain ⟨rfl, hP, hK, hN⟩ := hv
  have hx := B.exec
  have hb := B.bytes
  have hr := B.returns
  have hts := atoms_spec (ws := wsX7_first) B.pre
  have hown : s.vm.findClass RX7 = some m.cls := findClass_of_methodNamed B.named
  have hlocks := B.notSynchronized
  have i7 : ∀ w ∈ wsX70, w ∈ wsX7_first := fun w h => List.mem_cons_of_mem _ (List.mem_append_right _ h)
  have hP : cC_P Γ s σ s.heap [] := ⟨hP, va_S.rf⟩
  have hl := lv_entry ([.ref (Γ.2.2 k)]) (n := 1) (Nat.le_of_ble_eq_true rfl)
  rw [lg_entry_eq]
  generalize (lg_sl ([.ref (Γ.2.2 k)]) ++ List.replicate (1 - (lg_sl ([.ref (Γ.2.2 k)])).length) Slot.unset).toArray = ls at hl ⊢
  have hl : lv_has ls 1 [(0, .ref (Γ.2.2 k))] := hl
  unfold w_X7_first at hw
  refine lv_aload_n hx hb dX7_first_0 rfl (lv_at hl 0 rfl) ?_
  refine gC_7_0 hx hb hts i7 hown hK hP hk (hts _ q_X7_first_1) dX7_first_1 ?_
  refine lv_iconst (v := 0) hx hb dX7_first_4 (by decide) ?_
  refine aC_ld hx hb hK hP (tC_7_0 hk) (nC_7_0 hk) hw.1 dX7_first_5 ?_
  replace hw := hw.2
  exact W.iret hx hb hr (cC_ri hP ⟨rfl, hw⟩) hP.2.2.2 dX7_first_6
theorem q_X3_enter_1 : (Cond.constant RX3 45 (-1640531535)) ∈ wsX3_enter := List.mem_of_getElem? (i := 1) (by decide +kernel)
theorem q_X3_enter_2 : (Cond.fieldLink RX3 27 "FaultTwins$Sets" "count" "I") ∈ wsX3_enter := List.mem_of_getElem? (i := 2) (by decide +kernel)
theorem q_X3_enter_3 : (Cond.fieldLink RX3 18 "FaultTwins$Sets" "slots" "[I") ∈ wsX3_enter := List.mem_of_getElem? (i := 3) (by decide +kernel)
theorem q_X3_enter_4 : (Cond.fieldLink RX3 9 "FaultTwins$Sets" "found" "[I") ∈ wsX3_enter := List.mem_of_getElem? (i := 4) (by decide +kernel)
theorem q_X3_enter_5 : (Cond.fieldLink RX3 15 "FaultTwins$Sets" "sights" "[I") ∈ wsX3_enter := List.mem_of_getElem? (i := 5) (by decide +kernel)
set_option maxHeartbeats 4000000 in
set_option maxRecDepth 100000 in
theorem c_X3_enter (l : Launch) (Γ : ft_G) (hI : cC_I Γ) (k : Nat) (hk : cC_K k = 3) (a1 : Int32) (a2 : Int32) (σ : ft_St) (Φ : ft_St → Prop) (hw : w_X3_enter k a1 a2 σ Φ) : cC_Mv l yX3_enter wsX3_enter ({ frames := 0, cells := 0, slots := 0, locals := 0 } : Room) Γ σ [.ref (Γ.2.2 k), .int a1, .int a2] Φ := by
  refine Met.ofW (cc := cX3_enter) (maxL := 6) (ret := none) (by decide) rfl ?_
  intro p e s m args below meth c s₁ B hml hv
  obtain ⟨rfl, hP, hK, hN⟩ := hv
  have hx := B.exec
  have hb := B.bytes
  have hr := B.returns
  have hts := atoms_spec (ws := wsX3_enter) B.pre
  have hown : s.vm.findClass RX3 = some m.cls := findClass_of_methodNamed B.named
  have hlocks := B.notSynchronized
  have i3 : ∀ w ∈ wsX30, w ∈ wsX3_enter := fun w h => List.mem_cons_of_mem _ (List.mem_append_right _ h)
  have hP : cC_P Γ s σ s.heap [] := ⟨hP, va_S.rf⟩
  have hl := lv_entry ([.ref (Γ.2.2 k), .int a1, .int a2]) (n := 6) (Nat.le_of_ble_eq_true rfl)
  rw [lg_entry_eq]
  generalize (lg_sl ([.ref (Γ.2.2 k), .int a1, .int a2]) ++ List.replicate (6 - (lg_sl ([.ref (Γ.2.2 k), .int a1, .int a2])).length) Slot.unset).toArray = ls at hl ⊢
  have hl : lv_has ls 6 [(0, .ref (Γ.2.2 k)), (1, .int a1), (2, .int a2)] := hl
  unfold w_X3_enter at hw
  refine lv_iload_n hx hb dX3_enter_0 rfl (lv_at hl 1 rfl) ?_
  refine lv_ldc hx hb hown (hts _ q_X3_enter_1) dX3_enter_1 ?_
  refine lv_imul hx hb dX3_enter_3 ?_
  refine lv_bipush (v := 22) hx hb dX3_enter_4 (by decide) ?_
  refine lv_iushr hx hb dX3_enter_6 rfl ?_
  refine lv_topi (fun x1 ex1 => ?_)
  replace hw := hw x1 ex1
  refine lv_istore_n (lv' := [(3, .int x1), (0, .ref (Γ.2.2 k)), (1, .int a1), (2, .int a2)]) hx hb dX3_enter_7 rfl hl (by decide) rfl (fun ls hl => ?_)
  refine lv_iconst (v := 0) hx hb dX3_enter_8 (by decide) ?_
  refine lv_istore (lv' := [(4, .int 0), (3, .int x1), (0, .ref (Γ.2.2 k)), (1, .int a1), (2, .int a2)]) hx hb dX3_enter_9 hl (by decide) rfl (fun ls hl => ?_)
  refine hw (fun (x2 : Int32) => ∀ (H : Heap) (locs : List Loc) (ls : Array Slot), cC_P Γ s σ H locs → lv_has ls 6 [(0, .ref (Γ.2.2 k)), (1, .int a1), (2, .int a2), (3, .int x1), (4, .int x2)] → cC_Wv p l e ({ frames := 0, cells := 0, slots := 0, locals := 0 } : Room) s m [.ref (Γ.2.2 k), .int a1, .int a2] below meth c Γ Φ H locs 11 ls []) (fun x2 hw H locs ls hP hl => ?_) _ _ _ hP (lv_sub hl [2, 3, 4, 1, 0] rfl)
  refine lv_iload hx hb dX3_enter_11 (lv_at hl 4 rfl) ?_
  refine lv_sipush (v := 1024) hx hb dX3_enter_13 (by decide) ?_
  refine lv_icmp_ge (tgt := 116) hx hb dX3_enter_16 (by decide) (fun h => ?_) (fun h => ?_)
  · replace hw := hw.1 h
    exact W.vret hx hb hr (cC_rv hP hw) hP.2.2.2 dX3_enter_116
  · replace hw := hw.2 h
    refine lv_aload_n hx hb dX3_enter_19 rfl (lv_at hl 0 rfl) ?_
    refine gC_3_3 hx hb hts i3 hown hK hP hk (hts _ q_X3_enter_2) dX3_enter_20 ?_
    refine lv_sipush (v := 500) hx hb dX3_enter_23 (by decide) ?_
    refine lv_icmp_ge (tgt := 116) hx hb dX3_enter_26 (by decide) (fun h => ?_) (fun h => ?_)
    · replace hw := hw.1 h
      exact W.vret hx hb hr (cC_rv hP hw) hP.2.2.2 dX3_enter_116
    · replace hw := hw.2 h
      refine lv_iload_n hx hb dX3_enter_29 rfl (lv_at hl 3 rfl) ?_
      refine lv_iload hx hb dX3_enter_30 (lv_at hl 4 rfl) ?_
      refine lv_iadd hx hb dX3_enter_32 ?_
      refine lv_sipush (v := 1023) hx hb dX3_enter_33 (by decide) ?_
      refine lv_iand hx hb dX3_enter_36 ?_
      refine lv_istore (lv' := [(5, .int ((x1 + x2) &&& 1023)), (0, .ref (Γ.2.2 k)), (1, .int a1), (2, .int a2), (3, .int x1), (4, .int x2)]) hx hb dX3_enter_37 hl (by decide) rfl (fun ls hl => ?_)
      refine lv_aload_n hx hb dX3_enter_39 rfl (lv_at hl 1 rfl) ?_
      refine gC_3_2 hx hb hts i3 hown hK hP hk (hts _ q_X3_enter_3) dX3_enter_40 ?_
      refine lv_iload hx hb dX3_enter_43 (lv_at hl 0 rfl) ?_
      refine aC_ld hx hb hK hP (tC_3_2 hk) (nC_3_2 hk) hw.1 dX3_enter_45 ?_
      replace hw := hw.2
      refine lv_if_ne (tgt := 91) hx hb dX3_enter_46 (by decide) (fun h => ?_) (fun h => ?_)
      · replace hw := hw.1 h
        refine lv_aload_n hx hb dX3_enter_91 rfl (lv_at hl 1 rfl) ?_
        refine gC_3_0 hx hb hts i3 hown hK hP hk (hts _ q_X3_enter_4) dX3_enter_92 ?_
        refine lv_aload_n hx hb dX3_enter_95 rfl (lv_at hl 1 rfl) ?_
        refine gC_3_2 hx hb hts i3 hown hK hP hk (hts _ q_X3_enter_3) dX3_enter_96 ?_
        refine lv_iload hx hb dX3_enter_99 (lv_at hl 0 rfl) ?_
        refine aC_ld hx hb hK hP (tC_3_2 hk) (nC_3_2 hk) hw.1 dX3_enter_101 ?_
        replace hw := hw.2
        refine lv_iconst (v := 1) hx hb dX3_enter_102 (by decide) ?_
        refine lv_isub hx hb dX3_enter_103 ?_
        refine aC_ld hx hb hK hP (tC_3_0 hk) (nC_3_0 hk) hw.1 dX3_enter_104 ?_
        replace hw := hw.2
        refine lv_iload_n hx hb dX3_enter_105 rfl (lv_at hl 2 rfl) ?_
        refine lv_icmp_ne (tgt := 110) hx hb dX3_enter_106 (by decide) (fun h => ?_) (fun h => ?_)
        · replace hw := hw.1 h
          refine lv_iinc (v := x2 + 1) (lv' := [(4, .int (x2 + 1)), (5, .int ((x1 + x2) &&& 1023)), (0, .ref (Γ.2.2 k)), (1, .int a1), (2, .int a2), (3, .int x1)]) hx hb dX3_enter_110 hl (k := 5) rfl (congrArg (fun z => x2 + z) (by decide)) (by decide) rfl (fun ls hl => ?_)
          refine lv_goto (tgt := 11) hx hb dX3_enter_113 (by decide) ?_
          exact hw _ _ _ hP (lv_sub hl [2, 3, 4, 5, 0] rfl)
        · replace hw := hw.2 h
          exact W.vret hx hb hr (cC_rv hP hw) hP.2.2.2 dX3_enter_109
      · replace hw := hw.2 h
        refine lv_aload_n hx hb dX3_enter_49 rfl (lv_at hl 1 rfl) ?_
        refine gC_3_0 hx hb hts i3 hown hK hP hk (hts _ q_X3_enter_4) dX3_enter_50 ?_
        refine lv_aload_n hx hb dX3_enter_53 rfl (lv_at hl 1 rfl) ?_
        refine gC_3_3 hx hb hts i3 hown hK hP hk (hts _ q_X3_enter_2) dX3_enter_54 ?_
        refine lv_iload_n hx hb dX3_enter_57 rfl (lv_at hl 2 rfl) ?_
        refine aC_st hx hb hK hI hP (tC_3_0 hk) (nC_3_0 hk) hw.1 dX3_enter_58 (fun H locs hP => ?_)
        replace hw := hw.2
        obtain ⟨s4, hs4⟩ : ∃ u, u = ft_sA σ (k + 1) (upd (σ.2.1 (k + 1)) (Int32.toNatClampNeg (σ.1 k 3)) a1) := ⟨_, rfl⟩
        rw [← hs4] at hP
        replace hw := hw s4 hs4
        refine lv_aload_n hx hb dX3_enter_59 rfl (lv_at hl 1 rfl) ?_
        refine gC_3_1 hx hb hts i3 hown hK hP hk (hts _ q_X3_enter_5) dX3_enter_60 ?_
        refine lv_aload_n hx hb dX3_enter_63 rfl (lv_at hl 1 rfl) ?_
        refine gC_3_3 hx hb hts i3 hown hK hP hk (hts _ q_X3_enter_2) dX3_enter_64 ?_
        refine lv_iload_n hx hb dX3_enter_67 rfl (lv_at hl 3 rfl) ?_
        refine aC_st hx hb hK hI hP (tC_3_1 hk) (nC_3_1 hk) hw.1 dX3_enter_68 (fun H locs hP => ?_)
        replace hw := hw.2
        obtain ⟨s5, hs5⟩ : ∃ u, u = ft_sA s4 (k + 2) (upd (s4.2.1 (k + 2)) (Int32.toNatClampNeg (s4.1 k 3)) a2) := ⟨_, rfl⟩
        rw [← hs5] at hP
        replace hw := hw s5 hs5
        refine lv_aload_n hx hb dX3_enter_69 rfl (lv_at hl 1 rfl) ?_
        refine lv_dup hx hb dX3_enter_70 rfl ?_
        refine gC_3_3 hx hb hts i3 hown hK hP hk (hts _ q_X3_enter_2) dX3_enter_71 ?_
        refine lv_iconst (v := 1) hx hb dX3_enter_74 (by decide) ?_
        refine lv_iadd hx hb dX3_enter_75 ?_
        refine pC_3_3 hx hb hts i3 hown hK hI hP hk (hts _ q_X3_enter_2) dX3_enter_76 (fun H locs hP => ?_)
        obtain ⟨s6, hs6⟩ : ∃ u, u = ft_sF s5 k 3 ((s5.1 k 3) + 1) := ⟨_, rfl⟩
        rw [← hs6] at hP
        replace hw := hw s6 hs6
        refine lv_aload_n hx hb dX3_enter_79 rfl (lv_at hl 1 rfl) ?_
        refine gC_3_2 hx hb hts i3 hown hK hP hk (hts _ q_X3_enter_3) dX3_enter_80 ?_
        refine lv_iload hx hb dX3_enter_83 (lv_at hl 0 rfl) ?_
        refine lv_aload_n hx hb dX3_enter_85 rfl (lv_at hl 1 rfl) ?_
        refine gC_3_3 hx hb hts i3 hown hK hP hk (hts _ q_X3_enter_2) dX3_enter_86 ?_
        refine aC_st hx hb hK hI hP (tC_3_2 hk) (nC_3_2 hk) hw.1 dX3_enter_89 (fun H locs hP => ?_)
        replace hw := hw.2
        obtain ⟨s7, hs7⟩ : ∃ u, u = ft_sA s6 (k + 3) (upd (s6.2.1 (k + 3)) (Int32.toNatClampNeg ((x1 + x2) &&& 1023)) (s6.1 k 3)) := ⟨_, rfl⟩
        rw [← hs7] at hP
        replace hw := hw s7 hs7
        exact W.vret hx hb hr (cC_rv hP hw) hP.2.2.2 dX3_enter_90
theorem q_X7_after_1 : (Cond.fieldLink RX7 15 "FaultTwins$View" "behind" "[I") ∈ wsX7_after := List.mem_of_getElem? (i := 1) (by decide +kernel)
set_option maxHeartbeats 4000000 in
set_option maxRecDepth 100000 in
theorem c_X7_after (l : Launch) (Γ : ft_G) (hI : cC_I Γ) (k : Nat) (hk : cC_K k = 7) (a1 : Int32) (a2 : Int32) (σ : ft_St) (Φ : Int32 → Prop) (hw : w_X7_after k a1 a2 σ Φ) : cC_Mip l yX7_after wsX7_after ({ frames := 0, cells := 0, slots := 0, locals := 0 } : Room) Γ σ [.ref (Γ.2.2 k), .int a1, .int a2] Φ := by
  refine Met.ofW (cc := cX7_after) (maxL := 5) (ret := (some .int)) (by decide) rfl ?_
  intro p e s m args below meth c s₁ B hml hv
  obtain ⟨rfl, hP, hK, hN⟩ := hv
  have hx := B.exec
  have hb := B.bytes
  have hr := B.returns
  have hts := atoms_spec (ws := wsX7_after) B.pre
  have hown : s.vm.findClass RX7 = some m.cls := findClass_of_methodNamed B.named
  have hlocks := B.notSynchronized
  have i7 : ∀ w ∈ wsX70, w ∈ wsX7_after := fun w h => List.mem_cons_of_mem _ (List.mem_append_right _ h)
  have hP : cC_P Γ s σ s.heap [] := ⟨hP, va_S.rf⟩
  have hl := lv_entry ([.ref (Γ.2.2 k), .int a1, .int a2]) (n := 5) (Nat.le_of_ble_eq_true rfl)
  rw [lg_entry_eq]
  generalize (lg_sl ([.ref (Γ.2.2 k), .int a1, .int a2]) ++ List.replicate (5 - (lg_sl ([.ref (Γ.2.2 k), .int a1, .int a2])).length) Slot.unset).toArray = ls at hl ⊢
  have hl : lv_has ls 5 [(0, .ref (Γ.2.2 k)), (1, .int a1), (2, .int a2)] := hl
  unfold w_X7_after at hw
  refine lv_iconst (v := 0) hx hb dX7_after_0 (by decide) ?_
  refine lv_istore_n (lv' := [(3, .int 0), (0, .ref (Γ.2.2 k)), (1, .int a1), (2, .int a2)]) hx hb dX7_after_1 rfl hl (by decide) rfl (fun ls hl => ?_)
  refine lv_iconst (v := 0) hx hb dX7_after_2 (by decide) ?_
  refine lv_istore (lv' := [(4, .int 0), (3, .int 0), (0, .ref (Γ.2.2 k)), (1, .int a1), (2, .int a2)]) hx hb dX7_after_3 hl (by decide) rfl (fun ls hl => ?_)
  refine hw (fun (x1 : Int32) (x2 : Int32) => ∀ (H : Heap) (locs : List Loc) (ls : Array Slot), cC_P Γ s σ H locs → lv_has ls 5 [(0, .ref (Γ.2.2 k)), (1, .int a1), (2, .int a2), (3, .int x1), (4, .int x2)] → cC_Wi p l e ({ frames := 0, cells := 0, slots := 0, locals := 0 } : Room) s m [.ref (Γ.2.2 k), .int a1, .int a2] below meth c Γ (fun r u => u = σ ∧ Φ r) H locs 5 ls []) (fun x1 x2 hw H locs ls hP hl => ?_) _ _ _ hP (lv_sub hl [2, 3, 4, 1, 0] rfl)
  refine lv_iload hx hb dX7_after_5 (lv_at hl 4 rfl) ?_
  refine lv_bipush (v := 20) hx hb dX7_after_7 (by decide) ?_
  refine lv_icmp_ge (tgt := 43) hx hb dX7_after_9 (by decide) (fun h => ?_) (fun h => ?_)
  · replace hw := hw.1 h
    refine lv_iload_n hx hb dX7_after_43 rfl (lv_at hl 3 rfl) ?_
    exact W.iret hx hb hr (cC_ri hP ⟨rfl, hw⟩) hP.2.2.2 dX7_after_44
  · replace hw := hw.2 h
    refine lv_iload_n hx hb dX7_after_12 rfl (lv_at hl 1 rfl) ?_
    refine lv_iload hx hb dX7_after_13 (lv_at hl 4 rfl) ?_
    refine lv_ishr hx hb dX7_after_15 ?_
    refine lv_iconst (v := 1) hx hb dX7_after_16 (by decide) ?_
    refine lv_iand hx hb dX7_after_17 ?_
    refine lv_iconst (v := 1) hx hb dX7_after_18 (by decide) ?_
    refine lv_icmp_ne (tgt := 37) hx hb dX7_after_19 (by decide) (fun h => ?_) (fun h => ?_)
    · replace hw := hw.1 h
      refine lv_iinc (v := x2 + 1) (lv' := [(4, .int (x2 + 1)), (0, .ref (Γ.2.2 k)), (1, .int a1), (2, .int a2), (3, .int x1)]) hx hb dX7_after_37 hl (k := 4) rfl (congrArg (fun z => x2 + z) (by decide)) (by decide) rfl (fun ls hl => ?_)
      refine lv_goto (tgt := 5) hx hb dX7_after_40 (by decide) ?_
      exact hw _ _ _ hP (lv_sub hl [1, 2, 3, 4, 0] rfl)
    · replace hw := hw.2 h
      refine lv_iload_n hx hb dX7_after_22 rfl (lv_at hl 3 rfl) ?_
      refine lv_aload_n hx hb dX7_after_23 rfl (lv_at hl 0 rfl) ?_
      refine gC_7_1 hx hb hts i7 hown hK hP hk (hts _ q_X7_after_1) dX7_after_24 ?_
      refine lv_iload_n hx hb dX7_after_27 rfl (lv_at hl 2 rfl) ?_
      refine lv_bipush (v := 20) hx hb dX7_after_28 (by decide) ?_
      refine lv_imul hx hb dX7_after_30 ?_
      refine lv_iload hx hb dX7_after_31 (lv_at hl 4 rfl) ?_
      refine lv_iadd hx hb dX7_after_33 ?_
      refine aC_ld hx hb hK hP (tC_7_1 hk) (nC_7_1 hk) hw.1 dX7_after_34 ?_
      replace hw := hw.2
      refine lv_ior hx hb dX7_after_35 ?_
      refine lv_topi (fun x4 ex4 => ?_)
      replace hw := hw x4 ex4
      refine lv_istore_n (lv' := [(3, .int x4), (0, .ref (Γ.2.2 k)), (1, .int a1), (2, .int a2), (4, .int x2)]) hx hb dX7_after_36 rfl hl (by decide) rfl (fun ls hl => ?_)
      refine lv_iinc (v := x2 + 1) (lv' := [(4, .int (x2 + 1)), (3, .int x4), (0, .ref (Γ.2.2 k)), (1, .int a1), (2, .int a2)]) hx hb dX7_after_37 hl (k := 4) rfl (congrArg (fun z => x2 + z) (by decide)) (by decide) rfl (fun ls hl => ?_)
      refine lv_goto (tgt := 5) hx hb dX7_after_40 (by decide) ?_
      exact hw _ _ _ hP (lv_sub hl [2, 3, 4, 1, 0] rfl)
theorem q_X3_find_1 : (Cond.fieldLink RX3 18 "FaultTwins$Sets" "slots" "[I") ∈ wsX3_find := List.mem_of_getElem? (i := 1) (by decide +kernel)
theorem q_X3_find_2 : (Cond.fieldLink RX3 27 "FaultTwins$Sets" "count" "I") ∈ wsX3_find := List.mem_of_getElem? (i := 2) (by decide +kernel)
theorem q_X3_find_3 : (Cond.fieldLink RX3 9 "FaultTwins$Sets" "found" "[I") ∈ wsX3_find := List.mem_of_getElem? (i := 3) (by decide +kernel)
theorem q_X3_find_4 : (Cond.fieldLink RX3 15 "FaultTwins$Sets" "sights" "[I") ∈ wsX3_find := List.mem_of_getElem? (i := 4) (by decide +kernel)
set_option maxHeartbeats 4000000 in
set_option maxRecDepth 100000 in
theorem c_X3_find (l : Launch) (Γ : ft_G) (hI : cC_I Γ) (k : Nat) (hk : cC_K k = 3) (k1 : Nat) (hk1 : cC_K k1 = 7) (σ : ft_St) (Φ : ft_St → Prop) (hw : w_X3_find k k1 σ Φ) : cC_Mv l yX3_find wsX3_find ({ frames := 1, cells := 0, slots := 0, locals := 25 } : Room) Γ σ [.ref (Γ.2.2 k), .ref (Γ.2.2 k1)] Φ := by
  refine Met.ofW (cc := cX3_find) (maxL := 5) (ret := none) (by decide) rfl ?_
  intro p e s m args below meth c s₁ B hml hv
  obtain ⟨rfl, hP, hK, hN⟩ := hv
  have hx := B.exec
  have hb := B.bytes
  have hr := B.returns
  have hts := atoms_spec (ws := wsX3_find) B.pre
  have hown : s.vm.findClass RX3 = some m.cls := findClass_of_methodNamed B.named
  have hlocks := B.notSynchronized
  have i3 : ∀ w ∈ wsX30, w ∈ wsX3_find := fun w h => List.mem_cons_of_mem _ (List.mem_append_left _ (List.mem_append_right _ h))
  have hP : cC_P Γ s σ s.heap [] := ⟨hP, va_S.rf⟩
  have hl := lv_entry ([.ref (Γ.2.2 k), .ref (Γ.2.2 k1)]) (n := 5) (Nat.le_of_ble_eq_true rfl)
  rw [lg_entry_eq]
  generalize (lg_sl ([.ref (Γ.2.2 k), .ref (Γ.2.2 k1)]) ++ List.replicate (5 - (lg_sl ([.ref (Γ.2.2 k), .ref (Γ.2.2 k1)])).length) Slot.unset).toArray = ls at hl ⊢
  have hl : lv_has ls 5 [(0, .ref (Γ.2.2 k)), (1, .ref (Γ.2.2 k1))] := hl
  unfold w_X3_find at hw
  refine lv_aload_n hx hb dX3_find_0 rfl (lv_at hl 0 rfl) ?_
  refine gC_3_2 hx hb hts i3 hown hK hP hk (hts _ q_X3_find_1) dX3_find_1 ?_
  refine lv_iconst (v := 0) hx hb dX3_find_4 (by decide) ?_
  refine cC_Sv (rest := []) ⟨hx, hb, hml, hown, hts⟩ (c_J7_fill_53178 l Γ hI (k + 3) (tC_3_2 hk) 0 σ _ hw) (va_cwS 2 hts gX3_find_J7_fill_53178 rfl rfl rfl (by decide +kernel) ⟨Nat.le_of_ble_eq_true rfl, Nat.le_of_ble_eq_true rfl⟩) hK hN hP rfl hl.1 rfl (Nat.le_of_ble_eq_true rfl) dX3_find_5 ⟨Nat.le_refl _, Nat.le_refl _⟩ (fun s1 H locs hw hP => ?_)
  refine lv_aload_n hx hb dX3_find_8 rfl (lv_at hl 0 rfl) ?_
  refine lv_iconst (v := 0) hx hb dX3_find_9 (by decide) ?_
  refine pC_3_3 hx hb hts i3 hown hK hI hP hk (hts _ q_X3_find_2) dX3_find_10 (fun H locs hP => ?_)
  obtain ⟨s2, hs2⟩ : ∃ u, u = ft_sF s1 k 3 0 := ⟨_, rfl⟩
  rw [← hs2] at hP
  replace hw := hw s2 hs2
  refine lv_aload_n hx hb dX3_find_13 rfl (lv_at hl 0 rfl) ?_
  refine lv_aload_n hx hb dX3_find_14 rfl (lv_at hl 1 rfl) ?_
  refine cC_Vip (rest := [.ref (Γ.2.2 k)]) ⟨hx, hb, hml, hown, hts⟩ (c_X7_first l Γ hI k1 hk1 s2 _ hw) (cwV 0 hts gX3_find_X7_first rfl rfl rfl (by decide +kernel) ⟨Nat.le_of_ble_eq_true rfl, Nat.le_of_ble_eq_true rfl⟩) hK hN hP (cC_lt hk1 (by decide)) (cC_E7 hk1) rfl rfl rfl hl.1 rfl (Nat.le_of_ble_eq_true rfl) dX3_find_15 ⟨Nat.le_refl _, Nat.le_refl _⟩ (fun r3 H locs hw hP => ?_)
  refine lv_iconst (v := 0) hx hb dX3_find_18 (by decide) ?_
  refine cC_Vv (rest := []) ⟨hx, hb, hml, hown, hts⟩ (c_X3_enter l Γ hI k hk r3 0 s2 _ hw) (cwV 2 hts gX3_find_X3_enter rfl rfl rfl (by decide +kernel) ⟨Nat.le_of_ble_eq_true rfl, Nat.le_of_ble_eq_true rfl⟩) hK hN hP (cC_lt hk (by decide)) (cC_E3 hk) rfl rfl rfl hl.1 rfl (Nat.le_of_ble_eq_true rfl) dX3_find_19 ⟨Nat.le_refl _, Nat.le_refl _⟩ (fun s4 H locs hw hP => ?_)
  refine lv_iconst (v := 0) hx hb dX3_find_22 (by decide) ?_
  refine lv_istore_n (lv' := [(2, .int 0), (0, .ref (Γ.2.2 k)), (1, .ref (Γ.2.2 k1))]) hx hb dX3_find_23 rfl hl (by decide) rfl (fun ls hl => ?_)
  refine hw (fun (x5 : Int32) (s6 : ft_St) => ∀ (H : Heap) (locs : List Loc) (ls : Array Slot), cC_P Γ s s6 H locs → lv_has ls 5 [(0, .ref (Γ.2.2 k)), (1, .ref (Γ.2.2 k1)), (2, .int x5)] → cC_Wv p l e ({ frames := 1, cells := 0, slots := 0, locals := 25 } : Room) s m [.ref (Γ.2.2 k), .ref (Γ.2.2 k1)] below meth c Γ Φ H locs 24 ls []) (fun x5 s6 hw H locs ls hP hl => ?_) _ _ _ hP (lv_sub hl [1, 2, 0] rfl)
  refine lv_iload_n hx hb dX3_find_24 rfl (lv_at hl 2 rfl) ?_
  refine lv_sipush (v := 500) hx hb dX3_find_25 (by decide) ?_
  refine lv_icmp_ge (tgt := 91) hx hb dX3_find_28 (by decide) (fun h => ?_) (fun h => ?_)
  · replace hw := hw.1 h
    exact W.vret hx hb hr (cC_rv hP hw) hP.2.2.2 dX3_find_91
  · replace hw := hw.2 h
    refine lv_iload_n hx hb dX3_find_31 rfl (lv_at hl 2 rfl) ?_
    refine lv_aload_n hx hb dX3_find_32 rfl (lv_at hl 0 rfl) ?_
    refine gC_3_3 hx hb hts i3 hown hK hP hk (hts _ q_X3_find_2) dX3_find_33 ?_
    refine lv_icmp_ge (tgt := 91) hx hb dX3_find_36 (by decide) (fun h => ?_) (fun h => ?_)
    · replace hw := hw.1 h
      exact W.vret hx hb hr (cC_rv hP hw) hP.2.2.2 dX3_find_91
    · replace hw := hw.2 h
      refine lv_iconst (v := 0) hx hb dX3_find_39 (by decide) ?_
      refine lv_istore_n (lv' := [(3, .int 0), (0, .ref (Γ.2.2 k)), (1, .ref (Γ.2.2 k1)), (2, .int x5)]) hx hb dX3_find_40 rfl hl (by decide) rfl (fun ls hl => ?_)
      refine hw (fun (x8 : Int32) (s9 : ft_St) => ∀ (H : Heap) (locs : List Loc) (ls : Array Slot), cC_P Γ s s9 H locs → lv_has ls 5 [(0, .ref (Γ.2.2 k)), (1, .ref (Γ.2.2 k1)), (2, .int x5), (3, .int x8)] → cC_Wv p l e ({ frames := 1, cells := 0, slots := 0, locals := 25 } : Room) s m [.ref (Γ.2.2 k), .ref (Γ.2.2 k1)] below meth c Γ Φ H locs 41 ls []) (fun x8 s9 hw H locs ls hP hl => ?_) _ _ _ hP (lv_sub hl [1, 2, 3, 0] rfl)
      refine lv_iload_n hx hb dX3_find_41 rfl (lv_at hl 3 rfl) ?_
      refine lv_bipush (v := 8) hx hb dX3_find_42 (by decide) ?_
      refine lv_icmp_ge (tgt := 85) hx hb dX3_find_44 (by decide) (fun h => ?_) (fun h => ?_)
      · replace hw := hw.1 h
        refine lv_iinc (v := x5 + 1) (lv' := [(2, .int (x5 + 1)), (0, .ref (Γ.2.2 k)), (1, .ref (Γ.2.2 k1)), (3, .int x8)]) hx hb dX3_find_85 hl (k := 2) rfl (congrArg (fun z => x5 + z) (by decide)) (by decide) rfl (fun ls hl => ?_)
        refine lv_goto (tgt := 24) hx hb dX3_find_88 (by decide) ?_
        exact hw _ _ _ hP (lv_sub hl [1, 2, 0] rfl)
      · replace hw := hw.2 h
        refine lv_aload_n hx hb dX3_find_47 rfl (lv_at hl 1 rfl) ?_
        refine lv_aload_n hx hb dX3_find_48 rfl (lv_at hl 0 rfl) ?_
        refine gC_3_0 hx hb hts i3 hown hK hP hk (hts _ q_X3_find_3) dX3_find_49 ?_
        refine lv_iload_n hx hb dX3_find_52 rfl (lv_at hl 2 rfl) ?_
        refine aC_ld hx hb hK hP (tC_3_0 hk) (nC_3_0 hk) hw.1 dX3_find_53 ?_
        replace hw := hw.2
        refine lv_iload_n hx hb dX3_find_54 rfl (lv_at hl 3 rfl) ?_
        refine cC_Vip (rest := []) ⟨hx, hb, hml, hown, hts⟩ (c_X7_after l Γ hI k1 hk1 (s9.2.1 (k + 1) (Int32.toNatClampNeg x5)) x8 s9 _ hw) (cwV 2 hts gX3_find_X7_after rfl rfl rfl (by decide +kernel) ⟨Nat.le_of_ble_eq_true rfl, Nat.le_of_ble_eq_true rfl⟩) hK hN hP (cC_lt hk1 (by decide)) (cC_E7 hk1) rfl rfl rfl hl.1 rfl (Nat.le_of_ble_eq_true rfl) dX3_find_55 ⟨Nat.le_refl _, Nat.le_refl _⟩ (fun r11 H locs hw hP => ?_)
        refine lv_istore (lv' := [(4, .int r11), (0, .ref (Γ.2.2 k)), (1, .ref (Γ.2.2 k1)), (2, .int x5), (3, .int x8)]) hx hb dX3_find_58 hl (by decide) rfl (fun ls hl => ?_)
        refine lv_iload hx hb dX3_find_60 (lv_at hl 0 rfl) ?_
        refine lv_if_eq (tgt := 79) hx hb dX3_find_62 (by decide) (fun h => ?_) (fun h => ?_)
        · replace hw := hw.1 h
          refine lv_iinc (v := x8 + 1) (lv' := [(3, .int (x8 + 1)), (4, .int r11), (0, .ref (Γ.2.2 k)), (1, .ref (Γ.2.2 k1)), (2, .int x5)]) hx hb dX3_find_79 hl (k := 4) rfl (congrArg (fun z => x8 + z) (by decide)) (by decide) rfl (fun ls hl => ?_)
          refine lv_goto (tgt := 41) hx hb dX3_find_82 (by decide) ?_
          exact hw _ _ _ hP (lv_sub hl [2, 3, 4, 0] rfl)
        · replace hw := hw.2 h
          refine lv_aload_n hx hb dX3_find_65 rfl (lv_at hl 1 rfl) ?_
          refine lv_iload hx hb dX3_find_66 (lv_at hl 0 rfl) ?_
          refine lv_aload_n hx hb dX3_find_68 rfl (lv_at hl 1 rfl) ?_
          refine gC_3_1 hx hb hts i3 hown hK hP hk (hts _ q_X3_find_4) dX3_find_69 ?_
          refine lv_iload_n hx hb dX3_find_72 rfl (lv_at hl 3 rfl) ?_
          refine aC_ld hx hb hK hP (tC_3_1 hk) (nC_3_1 hk) hw.1 dX3_find_73 ?_
          replace hw := hw.2
          refine lv_iconst (v := 1) hx hb dX3_find_74 (by decide) ?_
          refine lv_iadd hx hb dX3_find_75 ?_
          refine cC_Vv (rest := []) ⟨hx, hb, hml, hown, hts⟩ (c_X3_enter l Γ hI k hk r11 ((s9.2.1 (k + 2) (Int32.toNatClampNeg x5)) + 1) s9 _ hw) (cwV 2 hts gX3_find_X3_enter rfl rfl rfl (by decide +kernel) ⟨Nat.le_of_ble_eq_true rfl, Nat.le_of_ble_eq_true rfl⟩) hK hN hP (cC_lt hk (by decide)) (cC_E3 hk) rfl rfl rfl hl.1 rfl (Nat.le_of_ble_eq_true rfl) dX3_find_76 ⟨Nat.le_refl _, Nat.le_refl _⟩ (fun s12 H locs hw hP => ?_)
          refine lv_iinc (v := x8 + 1) (lv' := [(3, .int (x8 + 1)), (4, .int r11), (0, .ref (Γ.2.2 k)), (1, .ref (Γ.2.2 k1)), (2, .int x5)]) hx hb dX3_find_79 hl (k := 4) rfl (congrArg (fun z => x8 + z) (by decide)) (by decide) rfl (fun ls hl => ?_)
          refine lv_goto (tgt := 41) hx hb dX3_find_82 (by decide) ?_
          exact hw _ _ _ hP (lv_sub hl [2, 3, 4, 0] rfl)
set_option maxHeartbeats 4000000 in
set_option maxRecDepth 100000 in
theorem c_X9_verdict (l : Launch) (Γ : ft_G) (hI : cC_I Γ) (a0 : Int32) (σ : ft_St) (Φ : Int32 → Prop) (hw : w_X9_verdict a0  Φ) : cC_Mip l yX9_verdict wsX9_verdict ({ frames := 0, cells := 0, slots := 0, locals := 0 } : Room) Γ σ [.int a0] Φ := by
  refine Met.ofW (cc := cX9_verdict) (maxL := 2) (ret := (some .int)) (by decide) rfl ?_
  intro p e s m args below meth c s₁ B hml hv
  obtain ⟨rfl, hP, hK, hN⟩ := hv
  have hx := B.exec
  have hb := B.bytes
  have hr := B.returns
  have hts := atoms_spec (ws := wsX9_verdict) B.pre
  have hown : s.vm.findClass RX9 = some m.cls := findClass_of_methodNamed B.named
  have hlocks := B.notSynchronized
  have hP : cC_P Γ s σ s.heap [] := ⟨hP, va_S.rf⟩
  have hl := lv_entry ([.int a0]) (n := 2) (Nat.le_of_ble_eq_true rfl)
  rw [lg_entry_eq]
  generalize (lg_sl ([.int a0]) ++ List.replicate (2 - (lg_sl ([.int a0])).length) Slot.unset).toArray = ls at hl ⊢
  have hl : lv_has ls 2 [(0, .int a0)] := hl
  unfold w_X9_verdict at hw
  refine lv_iload_n hx hb dX9_verdict_0 rfl (lv_at hl 0 rfl) ?_
  refine lv_bipush (v := 10) hx hb dX9_verdict_1 (by decide) ?_
  refine lv_ishr hx hb dX9_verdict_3 ?_
  refine lv_istore_n (lv' := [(1, .int (a0 >>> (10 &&& 31))), (0, .int a0)]) hx hb dX9_verdict_4 rfl hl (by decide) rfl (fun ls hl => ?_)
  refine lv_iload_n hx hb dX9_verdict_5 rfl (lv_at hl 0 rfl) ?_
  refine lv_if_ne (tgt := 11) hx hb dX9_verdict_6 (by decide) (fun h => ?_) (fun h => ?_)
  · replace hw := hw.1 h
    refine lv_iload_n hx hb dX9_verdict_11 rfl (lv_at hl 0 rfl) ?_
    refine lv_bipush (v := 10) hx hb dX9_verdict_12 (by decide) ?_
    refine lv_ishl hx hb dX9_verdict_14 ?_
    refine lv_iload_n hx hb dX9_verdict_15 rfl (lv_at hl 1 rfl) ?_
    refine lv_icmp_ne (tgt := 23) hx hb dX9_verdict_16 (by decide) (fun h => ?_) (fun h => ?_)
    · replace hw := hw.1 h
      refine lv_iconst (v := 2) hx hb dX9_verdict_23 (by decide) ?_
      exact W.iret hx hb hr (cC_ri hP ⟨rfl, hw⟩) hP.2.2.2 dX9_verdict_24
    · replace hw := hw.2 h
      refine lv_iconst (v := 1) hx hb dX9_verdict_19 (by decide) ?_
      refine lv_goto (tgt := 24) hx hb dX9_verdict_20 (by decide) ?_
      exact W.iret hx hb hr (cC_ri hP ⟨rfl, hw⟩) hP.2.2.2 dX9_verdict_24
  · replace hw := hw.2 h
    refine lv_iconst (v := 0) hx hb dX9_verdict_9 (by decide) ?_
    exact W.iret hx hb hr (cC_ri hP ⟨rfl, hw⟩) hP.2.2.2 dX9_verdict_10
theorem q_X3_countOf_1 : (Cond.fieldLink RX3 27 "FaultTwins$Sets" "count" "I") ∈ wsX3_countOf := List.mem_of_getElem? (i := 1) (by decide +kernel)
theorem q_X3_countOf_2 : (Cond.fieldLink RX3 9 "FaultTwins$Sets" "found" "[I") ∈ wsX3_countOf := List.mem_of_getElem? (i := 2) (by decide +kernel)
theorem q_X3_countOf_3 : (Cond.static yX9_verdict) ∈ wsX3_countOf := List.mem_of_getElem? (i := 3) (by decide +kernel)
theorem q_X3_countOf_4 : (Cond.initialized RX9) ∈ wsX3_countOf := List.mem_of_getElem? (i := 4) (by decide +kernel)
set_option maxHeartbeats 4000000 in
set_option maxRecDepth 100000 in
theorem c_X3_countOf (l : Launch) (Γ : ft_G) (hI : cC_I Γ) (k : Nat) (hk : cC_K k = 3) (a1 : Int32) (σ : ft_St) (Φ : Int32 → Prop) (hw : w_X3_countOf k a1 σ Φ) : cC_Mip l yX3_countOf wsX3_countOf ({ frames := 1, cells := 0, slots := 0, locals := 21 } : Room) Γ σ [.ref (Γ.2.2 k), .int a1] Φ := by
  refine Met.ofW (cc := cX3_countOf) (maxL := 4) (ret := (some .int)) (by decide) rfl ?_
  intro p e s m args below meth c s₁ B hml hv
  obtain ⟨rfl, hP, hK, hN⟩ := hv
  have hx := B.exec
  have hb := B.bytes
  have hr := B.returns
  have hts := atoms_spec (ws := wsX3_countOf) B.pre
  have hown : s.vm.findClass RX3 = some m.cls := findClass_of_methodNamed B.named
  have hlocks := B.notSynchronized
  have i3 : ∀ w ∈ wsX30, w ∈ wsX3_countOf := fun w h => List.mem_cons_of_mem _ (List.mem_append_right _ h)
  have hP : cC_P Γ s σ s.heap [] := ⟨hP, va_S.rf⟩
  have hl := lv_entry ([.ref (Γ.2.2 k), .int a1]) (n := 4) (Nat.le_of_ble_eq_true rfl)
  rw [lg_entry_eq]
  generalize (lg_sl ([.ref (Γ.2.2 k), .int a1]) ++ List.replicate (4 - (lg_sl ([.ref (Γ.2.2 k), .int a1])).length) Slot.unset).toArray = ls at hl ⊢
  have hl : lv_has ls 4 [(0, .ref (Γ.2.2 k)), (1, .int a1)] := hl
  unfold w_X3_countOf at hw
  refine lv_iconst (v := 0) hx hb dX3_countOf_0 (by decide) ?_
  refine lv_istore_n (lv' := [(2, .int 0), (0, .ref (Γ.2.2 k)), (1, .int a1)]) hx hb dX3_countOf_1 rfl hl (by decide) rfl (fun ls hl => ?_)
  refine lv_iconst (v := 0) hx hb dX3_countOf_2 (by decide) ?_
  refine lv_istore_n (lv' := [(3, .int 0), (2, .int 0), (0, .ref (Γ.2.2 k)), (1, .int a1)]) hx hb dX3_countOf_3 rfl hl (by decide) rfl (fun ls hl => ?_)
  refine hw (fun (x1 : Int32) (x2 : Int32) => ∀ (H : Heap) (locs : List Loc) (ls : Array Slot), cC_P Γ s σ H locs → lv_has ls 4 [(0, .ref (Γ.2.2 k)), (1, .int a1), (2, .int x1), (3, .int x2)] → cC_Wi p l e ({ frames := 1, cells := 0, slots := 0, locals := 21 } : Room) s m [.ref (Γ.2.2 k), .int a1] below meth c Γ (fun r u => u = σ ∧ Φ r) H locs 4 ls []) (fun x1 x2 hw H locs ls hP hl => ?_) _ _ _ hP (lv_sub hl [2, 3, 1, 0] rfl)
  refine lv_iload_n hx hb dX3_countOf_4 rfl (lv_at hl 3 rfl) ?_
  refine lv_aload_n hx hb dX3_countOf_5 rfl (lv_at hl 0 rfl) ?_
  refine gC_3_3 hx hb hts i3 hown hK hP hk (hts _ q_X3_countOf_1) dX3_countOf_6 ?_
  refine lv_icmp_ge (tgt := 34) hx hb dX3_countOf_9 (by decide) (fun h => ?_) (fun h => ?_)
  · replace hw := hw.1 h
    refine lv_iload_n hx hb dX3_countOf_34 rfl (lv_at hl 2 rfl) ?_
    exact W.iret hx hb hr (cC_ri hP ⟨rfl, hw⟩) hP.2.2.2 dX3_countOf_35
  · replace hw := hw.2 h
    refine lv_aload_n hx hb dX3_countOf_12 rfl (lv_at hl 0 rfl) ?_
    refine gC_3_0 hx hb hts i3 hown hK hP hk (hts _ q_X3_countOf_2) dX3_countOf_13 ?_
    refine lv_iload_n hx hb dX3_countOf_16 rfl (lv_at hl 3 rfl) ?_
    refine aC_ld hx hb hK hP (tC_3_0 hk) (nC_3_0 hk) hw.1 dX3_countOf_17 ?_
    replace hw := hw.2
    refine cC_Nip (rest := []) ⟨hx, hb, hml, hown, hts⟩ (c_X9_verdict l Γ hI (σ.2.1 (k + 1) (Int32.toNatClampNeg x2)) σ _ hw) ⟨va_cnB 1 hts gX3_countOf_X9_verdict_n46 rfl rfl rfl hN (hts _ (q_X3_countOf_4)) (by decide +kernel) ⟨Nat.le_of_ble_eq_true rfl, Nat.le_of_ble_eq_true rfl⟩, hts _ (q_X3_countOf_3), trivial⟩ hK hN hP rfl hl.1 rfl (Nat.le_of_ble_eq_true rfl) dX3_countOf_18 ⟨Nat.le_refl _, Nat.le_refl _⟩ (fun r4 H locs hw hP => ?_)
    refine lv_iload_n hx hb dX3_countOf_21 rfl (lv_at hl 1 rfl) ?_
    refine lv_icmp_ne (tgt := 28) hx hb dX3_countOf_22 (by decide) (fun h => ?_) (fun h => ?_)
    · replace hw := hw.1 h
      refine lv_iinc (v := x2 + 1) (lv' := [(3, .int (x2 + 1)), (0, .ref (Γ.2.2 k)), (1, .int a1), (2, .int x1)]) hx hb dX3_countOf_28 hl (k := 3) rfl (congrArg (fun z => x2 + z) (by decide)) (by decide) rfl (fun ls hl => ?_)
      refine lv_goto (tgt := 4) hx hb dX3_countOf_31 (by decide) ?_
      exact hw _ _ _ hP (lv_sub hl [1, 2, 3, 0] rfl)
    · replace hw := hw.2 h
      refine lv_iinc (v := x1 + 1) (lv' := [(2, .int (x1 + 1)), (0, .ref (Γ.2.2 k)), (1, .int a1), (3, .int x2)]) hx hb dX3_countOf_25 hl (k := 2) rfl (congrArg (fun z => x1 + z) (by decide)) (by decide) rfl (fun ls hl => ?_)
      refine lv_iinc (v := x2 + 1) (lv' := [(3, .int (x2 + 1)), (2, .int (x1 + 1)), (0, .ref (Γ.2.2 k)), (1, .int a1)]) hx hb dX3_countOf_28 hl (k := 3) rfl (congrArg (fun z => x2 + z) (by decide)) (by decide) rfl (fun ls hl => ?_)
      refine lv_goto (tgt := 4) hx hb dX3_countOf_31 (by decide) ?_
      exact hw _ _ _ hP (lv_sub hl [2, 3, 1, 0] rfl)
theorem q_X3_fewestSights_1 : (Cond.fieldLink RX3 27 "FaultTwins$Sets" "count" "I") ∈ wsX3_fewestSights := List.mem_of_getElem? (i := 1) (by decide +kernel)
theorem q_X3_fewestSights_2 : (Cond.fieldLink RX3 9 "FaultTwins$Sets" "found" "[I") ∈ wsX3_fewestSights := List.mem_of_getElem? (i := 2) (by decide +kernel)
theorem q_X3_fewestSights_3 : (Cond.fieldLink RX3 15 "FaultTwins$Sets" "sights" "[I") ∈ wsX3_fewestSights := List.mem_of_getElem? (i := 3) (by decide +kernel)
theorem q_X3_fewestSights_4 : (Cond.static yX9_verdict) ∈ wsX3_fewestSights := List.mem_of_getElem? (i := 4) (by decide +kernel)
theorem q_X3_fewestSights_5 : (Cond.initialized RX9) ∈ wsX3_fewestSights := List.mem_of_getElem? (i := 5) (by decide +kernel)
set_option maxHeartbeats 4000000 in
set_option maxRecDepth 100000 in
theorem c_X3_fewestSights (l : Launch) (Γ : ft_G) (hI : cC_I Γ) (k : Nat) (hk : cC_K k = 3) (a1 : Int32) (σ : ft_St) (Φ : Int32 → Prop) (hw : w_X3_fewestSights k a1 σ Φ) : cC_Mip l yX3_fewestSights wsX3_fewestSights ({ frames := 1, cells := 0, slots := 0, locals := 21 } : Room) Γ σ [.ref (Γ.2.2 k), .int a1] Φ := by
  refine Met.ofW (cc := cX3_fewestSights) (maxL := 3) (ret := (some .int)) (by decide) rfl ?_
  intro p e s m args below meth c s₁ B hml hv
  obtain ⟨rfl, hP, hK, hN⟩ := hv
  have hx := B.exec
  have hb := B.bytes
  have hr := B.returns
  have hts := atoms_spec (ws := wsX3_fewestSights) B.pre
  have hown : s.vm.findClass RX3 = some m.cls := findClass_of_methodNamed B.named
  have hlocks := B.notSynchronized
  have i3 : ∀ w ∈ wsX30, w ∈ wsX3_fewestSights := fun w h => List.mem_cons_of_mem _ (List.mem_append_right _ h)
  have hP : cC_P Γ s σ s.heap [] := ⟨hP, va_S.rf⟩
  have hl := lv_entry ([.ref (Γ.2.2 k), .int a1]) (n := 3) (Nat.le_of_ble_eq_true rfl)
  rw [lg_entry_eq]
  generalize (lg_sl ([.ref (Γ.2.2 k), .int a1]) ++ List.replicate (3 - (lg_sl ([.ref (Γ.2.2 k), .int a1])).length) Slot.unset).toArray = ls at hl ⊢
  have hl : lv_has ls 3 [(0, .ref (Γ.2.2 k)), (1, .int a1)] := hl
  unfold w_X3_fewestSights at hw
  refine lv_iconst (v := 0) hx hb dX3_fewestSights_0 (by decide) ?_
  refine lv_istore_n (lv' := [(2, .int 0), (0, .ref (Γ.2.2 k)), (1, .int a1)]) hx hb dX3_fewestSights_1 rfl hl (by decide) rfl (fun ls hl => ?_)
  refine hw (fun (x1 : Int32) => ∀ (H : Heap) (locs : List Loc) (ls : Array Slot), cC_P Γ s σ H locs → lv_has ls 3 [(0, .ref (Γ.2.2 k)), (1, .int a1), (2, .int x1)] → cC_Wi p l e ({ frames := 1, cells := 0, slots := 0, locals := 21 } : Room) s m [.ref (Γ.2.2 k), .int a1] below meth c Γ (fun r u => u = σ ∧ Φ r) H locs 2 ls []) (fun x1 hw H locs ls hP hl => ?_) _ _ _ hP (lv_sub hl [1, 2, 0] rfl)
  refine lv_iload_n hx hb dX3_fewestSights_2 rfl (lv_at hl 2 rfl) ?_
  refine lv_aload_n hx hb dX3_fewestSights_3 rfl (lv_at hl 0 rfl) ?_
  refine gC_3_3 hx hb hts i3 hown hK hP hk (hts _ q_X3_fewestSights_1) dX3_fewestSights_4 ?_
  refine lv_icmp_ge (tgt := 36) hx hb dX3_fewestSights_7 (by decide) (fun h => ?_) (fun h => ?_)
  · replace hw := hw.1 h
    refine lv_iconst (v := (-1)) hx hb dX3_fewestSights_36 (by decide) ?_
    exact W.iret hx hb hr (cC_ri hP ⟨rfl, hw⟩) hP.2.2.2 dX3_fewestSights_37
  · replace hw := hw.2 h
    refine lv_aload_n hx hb dX3_fewestSights_10 rfl (lv_at hl 0 rfl) ?_
    refine gC_3_0 hx hb hts i3 hown hK hP hk (hts _ q_X3_fewestSights_2) dX3_fewestSights_11 ?_
    refine lv_iload_n hx hb dX3_fewestSights_14 rfl (lv_at hl 2 rfl) ?_
    refine aC_ld hx hb hK hP (tC_3_0 hk) (nC_3_0 hk) hw.1 dX3_fewestSights_15 ?_
    replace hw := hw.2
    refine cC_Nip (rest := []) ⟨hx, hb, hml, hown, hts⟩ (c_X9_verdict l Γ hI (σ.2.1 (k + 1) (Int32.toNatClampNeg x1)) σ _ hw) ⟨va_cnB 1 hts gX3_fewestSights_X9_verdict_n46 rfl rfl rfl hN (hts _ (q_X3_fewestSights_5)) (by decide +kernel) ⟨Nat.le_of_ble_eq_true rfl, Nat.le_of_ble_eq_true rfl⟩, hts _ (q_X3_fewestSights_4), trivial⟩ hK hN hP rfl hl.1 rfl (Nat.le_of_ble_eq_true rfl) dX3_fewestSights_16 ⟨Nat.le_refl _, Nat.le_refl _⟩ (fun r3 H locs hw hP => ?_)
    refine lv_iload_n hx hb dX3_fewestSights_19 rfl (lv_at hl 1 rfl) ?_
    refine lv_icmp_ne (tgt := 30) hx hb dX3_fewestSights_20 (by decide) (fun h => ?_) (fun h => ?_)
    · replace hw := hw.1 h
      refine lv_iinc (v := x1 + 1) (lv' := [(2, .int (x1 + 1)), (0, .ref (Γ.2.2 k)), (1, .int a1)]) hx hb dX3_fewestSights_30 hl (k := 2) rfl (congrArg (fun z => x1 + z) (by decide)) (by decide) rfl (fun ls hl => ?_)
      refine lv_goto (tgt := 2) hx hb dX3_fewestSights_33 (by decide) ?_
      exact hw _ _ _ hP (lv_sub hl [1, 2, 0] rfl)
    · replace hw := hw.2 h
      refine lv_aload_n hx hb dX3_fewestSights_23 rfl (lv_at hl 0 rfl) ?_
      refine gC_3_1 hx hb hts i3 hown hK hP hk (hts _ q_X3_fewestSights_3) dX3_fewestSights_24 ?_
      refine lv_iload_n hx hb dX3_fewestSights_27 rfl (lv_at hl 2 rfl) ?_
      refine aC_ld hx hb hK hP (tC_3_1 hk) (nC_3_1 hk) hw.1 dX3_fewestSights_28 ?_
      replace hw := hw.2
      exact W.iret hx hb hr (cC_ri hP ⟨rfl, hw⟩) hP.2.2.2 dX3_fewestSights_29
theorem q_X6_isSeen_1 : (Cond.fieldLink RX6 30 "FaultTwins$Twins" "seen" "I") ∈ wsX6_isSeen := List.mem_of_getElem? (i := 1) (by decide +kernel)
set_option maxHeartbeats 4000000 in
set_option maxRecDepth 100000 in
theorem c_X6_isSeen (l : Launch) (Γ : ft_G) (hI : cC_I Γ) (k : Nat) (hk : cC_K k = 6) (a1 : Int32) (σ : ft_St) (Φ : Int32 → Prop) (hw : w_X6_isSeen k a1 σ Φ) : cC_Mip l yX6_isSeen wsX6_isSeen ({ frames := 0, cells := 0, slots := 0, locals := 0 } : Room) Γ σ [.ref (Γ.2.2 k), .int a1] Φ := by
  refine Met.ofW (cc := cX6_isSeen) (maxL := 2) (ret := (some .boolean)) (by decide) rfl ?_
  intro p e s m args below meth c s₁ B hml hv
  obtain ⟨rfl, hP, hK, hN⟩ := hv
  have hx := B.exec
  have hb := B.bytes
  have hr := B.returns
  have hts := atoms_spec (ws := wsX6_isSeen) B.pre
  have hown : s.vm.findClass RX6 = some m.cls := findClass_of_methodNamed B.named
  have hlocks := B.notSynchronized
  have i6 : ∀ w ∈ wsX60, w ∈ wsX6_isSeen := fun w h => List.mem_cons_of_mem _ (List.mem_append_right _ h)
  have hP : cC_P Γ s σ s.heap [] := ⟨hP, va_S.rf⟩
  have hl := lv_entry ([.ref (Γ.2.2 k), .int a1]) (n := 2) (Nat.le_of_ble_eq_true rfl)
  rw [lg_entry_eq]
  generalize (lg_sl ([.ref (Γ.2.2 k), .int a1]) ++ List.replicate (2 - (lg_sl ([.ref (Γ.2.2 k), .int a1])).length) Slot.unset).toArray = ls at hl ⊢
  have hl : lv_has ls 2 [(0, .ref (Γ.2.2 k)), (1, .int a1)] := hl
  unfold w_X6_isSeen at hw
  refine lv_aload_n hx hb dX6_isSeen_0 rfl (lv_at hl 0 rfl) ?_
  refine gC_6_0 hx hb hts i6 hown hK hP hk (hts _ q_X6_isSeen_1) dX6_isSeen_1 ?_
  refine lv_iload_n hx hb dX6_isSeen_4 rfl (lv_at hl 1 rfl) ?_
  refine lv_ishr hx hb dX6_isSeen_5 ?_
  refine lv_iconst (v := 1) hx hb dX6_isSeen_6 (by decide) ?_
  refine lv_iand hx hb dX6_isSeen_7 ?_
  refine lv_iconst (v := 1) hx hb dX6_isSeen_8 (by decide) ?_
  refine lv_icmp_ne (tgt := 16) hx hb dX6_isSeen_9 (by decide) (fun h => ?_) (fun h => ?_)
  · replace hw := hw.1 h
    refine lv_iconst (v := 0) hx hb dX6_isSeen_16 (by decide) ?_
    exact W.zret hx hb hr rfl (cC_ri hP ⟨rfl, hw⟩) hP.2.2.2 dX6_isSeen_17
  · replace hw := hw.2 h
    refine lv_iconst (v := 1) hx hb dX6_isSeen_12 (by decide) ?_
    refine lv_goto (tgt := 17) hx hb dX6_isSeen_13 (by decide) ?_
    exact W.zret hx hb hr rfl (cC_ri hP ⟨rfl, hw⟩) hP.2.2.2 dX6_isSeen_17
theorem q_X6_growAlone_1 : (Cond.fieldLink RX6 55 "FaultTwins$Machine" "ways" "I") ∈ wsX6_growAlone := List.mem_of_getElem? (i := 1) (by decide +kernel)
theorem q_X6_growAlone_2 : (Cond.fieldLink RX6 60 "FaultTwins$Machine" "by" "[I") ∈ wsX6_growAlone := List.mem_of_getElem? (i := 2) (by decide +kernel)
theorem q_X6_growAlone_3 : (Cond.fieldLink RX6 70 "FaultTwins$Machine" "from" "[I") ∈ wsX6_growAlone := List.mem_of_getElem? (i := 3) (by decide +kernel)
theorem q_X6_growAlone_4 : (Cond.fieldLink RX6 9 "FaultTwins$Twins" "alone" "[I") ∈ wsX6_growAlone := List.mem_of_getElem? (i := 4) (by decide +kernel)
theorem q_X6_growAlone_5 : (Cond.fieldLink RX6 73 "FaultTwins$Machine" "to" "[I") ∈ wsX6_growAlone := List.mem_of_getElem? (i := 5) (by decide +kernel)
set_option maxHeartbeats 4000000 in
set_option maxRecDepth 100000 in
theorem c_X6_growAlone (l : Launch) (Γ : ft_G) (hI : cC_I Γ) (k : Nat) (hk : cC_K k = 6) (σ : ft_St) (Φ : Int32 → ft_St → Prop) (hw : w_X6_growAlone k σ Φ) : cC_Mi l yX6_growAlone wsX6_growAlone ({ frames := 1, cells := 0, slots := 0, locals := 21 } : Room) Γ σ [.ref (Γ.2.2 k), .ref (Γ.2.2 2)] Φ := by
  refine Met.ofW (cc := cX6_growAlone) (maxL := 7) (ret := (some .boolean)) (by decide) rfl ?_
  intro p e s m args below meth c s₁ B hml hv
  obtain ⟨rfl, hP, hK, hN⟩ := hv
  have hx := B.exec
  have hb := B.bytes
  have hr := B.returns
  have hts := atoms_spec (ws := wsX6_growAlone) B.pre
  have hown : s.vm.findClass RX6 = some m.cls := findClass_of_methodNamed B.named
  have hlocks := B.notSynchronized
  have i1 : ∀ w ∈ wsX10, w ∈ wsX6_growAlone := fun w h => List.mem_cons_of_mem _ (List.mem_append_left _ (List.mem_append_right _ h))
  have i6 : ∀ w ∈ wsX60, w ∈ wsX6_growAlone := fun w h => List.mem_cons_of_mem _ (List.mem_append_right _ h)
  have hP : cC_P Γ s σ s.heap [] := ⟨hP, va_S.rf⟩
  have hl := lv_entry ([.ref (Γ.2.2 k), .ref (Γ.2.2 2)]) (n := 7) (Nat.le_of_ble_eq_true rfl)
  rw [lg_entry_eq]
  generalize (lg_sl ([.ref (Γ.2.2 k), .ref (Γ.2.2 2)]) ++ List.replicate (7 - (lg_sl ([.ref (Γ.2.2 k), .ref (Γ.2.2 2)])).length) Slot.unset).toArray = ls at hl ⊢
  have hl : lv_has ls 7 [(0, .ref (Γ.2.2 k)), (1, .ref (Γ.2.2 2))] := hl
  unfold w_X6_growAlone at hw
  refine lv_iconst (v := 0) hx hb dX6_growAlone_0 (by decide) ?_
  refine lv_istore_n (lv' := [(2, .int 0), (0, .ref (Γ.2.2 k)), (1, .ref (Γ.2.2 2))]) hx hb dX6_growAlone_1 rfl hl (by decide) rfl (fun ls hl => ?_)
  refine lv_iconst (v := 0) hx hb dX6_growAlone_2 (by decide) ?_
  refine lv_istore_n (lv' := [(3, .int 0), (2, .int 0), (0, .ref (Γ.2.2 k)), (1, .ref (Γ.2.2 2))]) hx hb dX6_growAlone_3 rfl hl (by decide) rfl (fun ls hl => ?_)
  refine hw (fun (x1 : Int32) (x2 : Int32) (s3 : ft_St) => ∀ (H : Heap) (locs : List Loc) (ls : Array Slot), cC_P Γ s s3 H locs → lv_has ls 7 [(0, .ref (Γ.2.2 k)), (1, .ref (Γ.2.2 2)), (2, .int x1), (3, .int x2)] → cC_Wi p l e ({ frames := 1, cells := 0, slots := 0, locals := 21 } : Room) s m [.ref (Γ.2.2 k), .ref (Γ.2.2 2)] below meth c Γ Φ H locs 4 ls []) (fun x1 x2 s3 hw H locs ls hP hl => ?_) _ _ _ hP (lv_sub hl [2, 3, 1, 0] rfl)
  refine lv_iload_n hx hb dX6_growAlone_4 rfl (lv_at hl 3 rfl) ?_
  refine lv_aload_n hx hb dX6_growAlone_5 rfl (lv_at hl 1 rfl) ?_
  refine gC_1_3 hx hb hts i1 hown hK hP hC_2 (hts _ q_X6_growAlone_1) dX6_growAlone_6 ?_
  refine lv_icmp_ge (tgt := 104) hx hb dX6_growAlone_9 (by decide) (fun h => ?_) (fun h => ?_)
  · replace hw := hw.1 h
    refine lv_iload_n hx hb dX6_growAlone_104 rfl (lv_at hl 2 rfl) ?_
    exact W.zret hx hb hr (ft_bz_n hw.1) (cC_ri hP hw.2) hP.2.2.2 dX6_growAlone_105
  · replace hw := hw.2 h
    refine lv_aload_n hx hb dX6_growAlone_12 rfl (lv_at hl 1 rfl) ?_
    refine gC_1_1 hx hb hts i1 hown hK hP hC_2 (hts _ q_X6_growAlone_2) dX6_growAlone_13 ?_
    refine lv_iload_n hx hb dX6_growAlone_16 rfl (lv_at hl 3 rfl) ?_
    refine aC_ld hx hb hK hP hC_4 mC_4 hw.1 dX6_growAlone_17 ?_
    replace hw := hw.2
    refine lv_topi (fun x5 ex5 => ?_)
    replace hw := hw x5 ex5
    refine lv_istore (lv' := [(4, .int x5), (0, .ref (Γ.2.2 k)), (1, .ref (Γ.2.2 2)), (2, .int x1), (3, .int x2)]) hx hb dX6_growAlone_18 hl (by decide) rfl (fun ls hl => ?_)
    refine lv_aload_n hx hb dX6_growAlone_20 rfl (lv_at hl 1 rfl) ?_
    refine lv_iload hx hb dX6_growAlone_21 (lv_at hl 0 rfl) ?_
    refine cC_Vip (rest := []) ⟨hx, hb, hml, hown, hts⟩ (c_X6_isSeen l Γ hI k hk x5 s3 _ hw) (cwV 1 hts gX6_growAlone_X6_isSeen rfl rfl rfl (by decide +kernel) ⟨Nat.le_of_ble_eq_true rfl, Nat.le_of_ble_eq_true rfl⟩) hK hN hP (cC_lt hk (by decide)) (cC_E6 hk) rfl rfl rfl hl.1 rfl (Nat.le_of_ble_eq_true rfl) dX6_growAlone_23 ⟨Nat.le_refl _, Nat.le_refl _⟩ (fun r6 H locs hw hP => ?_)
    refine lv_if_ne (tgt := 98) hx hb dX6_growAlone_26 (by decide) (fun h => ?_) (fun h => ?_)
    · replace hw := hw.1 h
      refine lv_iinc (v := x2 + 1) (lv' := [(3, .int (x2 + 1)), (4, .int x5), (0, .ref (Γ.2.2 k)), (1, .ref (Γ.2.2 2)), (2, .int x1)]) hx hb dX6_growAlone_98 hl (k := 4) rfl (congrArg (fun z => x2 + z) (by decide)) (by decide) rfl (fun ls hl => ?_)
      refine lv_goto (tgt := 4) hx hb dX6_growAlone_101 (by decide) ?_
      exact hw _ _ _ hP (lv_sub hl [2, 3, 4, 0] rfl)
    · replace hw := hw.2 h
      refine lv_aload_n hx hb dX6_growAlone_29 rfl (lv_at hl 2 rfl) ?_
      refine lv_iload hx hb dX6_growAlone_30 (lv_at hl 0 rfl) ?_
      refine cC_Vip (rest := []) ⟨hx, hb, hml, hown, hts⟩ (c_X1_isFault l Γ hI 2 hC_2 x5 s3 _ hw) (cwV 1 hts gX6_growAlone_X1_isFault rfl rfl rfl (by decide +kernel) ⟨Nat.le_of_ble_eq_true rfl, Nat.le_of_ble_eq_true rfl⟩) hK hN hP (cC_lt hC_2 (by decide)) (cC_E1 hC_2) rfl rfl rfl hl.1 rfl (Nat.le_of_ble_eq_true rfl) dX6_growAlone_32 ⟨Nat.le_refl _, Nat.le_refl _⟩ (fun r7 H locs hw hP => ?_)
      refine lv_if_ne (tgt := 98) hx hb dX6_growAlone_35 (by decide) (fun h => ?_) (fun h => ?_)
      · replace hw := hw.1 h
        refine lv_iinc (v := x2 + 1) (lv' := [(3, .int (x2 + 1)), (4, .int x5), (0, .ref (Γ.2.2 k)), (1, .ref (Γ.2.2 2)), (2, .int x1)]) hx hb dX6_growAlone_98 hl (k := 4) rfl (congrArg (fun z => x2 + z) (by decide)) (by decide) rfl (fun ls hl => ?_)
        refine lv_goto (tgt := 4) hx hb dX6_growAlone_101 (by decide) ?_
        exact hw _ _ _ hP (lv_sub hl [2, 3, 4, 0] rfl)
      · replace hw := hw.2 h
        refine lv_aload_n hx hb dX6_growAlone_38 rfl (lv_at hl 2 rfl) ?_
        refine gC_1_0 hx hb hts i1 hown hK hP hC_2 (hts _ q_X6_growAlone_3) dX6_growAlone_39 ?_
        refine lv_iload_n hx hb dX6_growAlone_42 rfl (lv_at hl 4 rfl) ?_
        refine aC_ld hx hb hK hP hC_3 mC_3 hw.1 dX6_growAlone_43 ?_
        replace hw := hw.2
        refine lv_topi (fun x8 ex8 => ?_)
        replace hw := hw x8 ex8
        refine lv_istore (lv' := [(5, .int x8), (4, .int x5), (0, .ref (Γ.2.2 k)), (1, .ref (Γ.2.2 2)), (2, .int x1), (3, .int x2)]) hx hb dX6_growAlone_44 hl (by decide) rfl (fun ls hl => ?_)
        refine lv_aload_n hx hb dX6_growAlone_46 rfl (lv_at hl 2 rfl) ?_
        refine gC_6_1 hx hb hts i6 hown hK hP hk (hts _ q_X6_growAlone_4) dX6_growAlone_47 ?_
        refine lv_iload hx hb dX6_growAlone_50 (lv_at hl 0 rfl) ?_
        refine aC_ld hx hb hK hP (tC_6_1 hk) (nC_6_1 hk) hw.1 dX6_growAlone_52 ?_
        replace hw := hw.2
        refine lv_aload_n hx hb dX6_growAlone_53 rfl (lv_at hl 2 rfl) ?_
        refine gC_6_1 hx hb hts i6 hown hK hP hk (hts _ q_X6_growAlone_4) dX6_growAlone_54 ?_
        refine lv_aload_n hx hb dX6_growAlone_57 rfl (lv_at hl 3 rfl) ?_
        refine gC_1_2 hx hb hts i1 hown hK hP hC_2 (hts _ q_X6_growAlone_5) dX6_growAlone_58 ?_
        refine lv_iload_n hx hb dX6_growAlone_61 rfl (lv_at hl 5 rfl) ?_
        refine aC_ld hx hb hK hP hC_5 mC_5 hw.1 dX6_growAlone_62 ?_
        replace hw := hw.2
        refine aC_ld hx hb hK hP (tC_6_1 hk) (nC_6_1 hk) hw.1 dX6_growAlone_63 ?_
        replace hw := hw.2
        refine lv_ior hx hb dX6_growAlone_64 ?_
        refine lv_topi (fun x9 ex9 => ?_)
        replace hw := hw x9 ex9
        refine lv_istore (lv' := [(6, .int x9), (5, .int x8), (4, .int x5), (0, .ref (Γ.2.2 k)), (1, .ref (Γ.2.2 2)), (2, .int x1), (3, .int x2)]) hx hb dX6_growAlone_65 hl (by decide) rfl (fun ls hl => ?_)
        refine lv_iload_n hx hb dX6_growAlone_67 rfl (lv_at hl 5 rfl) ?_
        refine ft_cut (hw (fun (x10 : Int32) => ∀ (H : Heap) (locs : List Loc) (ls : Array Slot), cC_P Γ s s3 H locs → lv_has ls 7 [(0, .ref (Γ.2.2 k)), (1, .ref (Γ.2.2 2)), (3, .int x2), (5, .int x8), (6, .int x9)] → cC_Wi p l e ({ frames := 1, cells := 0, slots := 0, locals := 21 } : Room) s m [.ref (Γ.2.2 k), .ref (Γ.2.2 2)] below meth c Γ Φ H locs 88 ls [.int x10]) (fun x10 hw H locs ls hP hl => ?_)) (fun hw => ?_)
        · refine lv_istore_n (lv' := [(2, .int x10), (0, .ref (Γ.2.2 k)), (1, .ref (Γ.2.2 2)), (3, .int x2), (5, .int x8), (6, .int x9)]) hx hb dX6_growAlone_88 rfl hl (by decide) rfl (fun ls hl => ?_)
          refine lv_aload_n hx hb dX6_growAlone_89 rfl (lv_at hl 1 rfl) ?_
          refine gC_6_1 hx hb hts i6 hown hK hP hk (hts _ q_X6_growAlone_4) dX6_growAlone_90 ?_
          refine lv_iload hx hb dX6_growAlone_93 (lv_at hl 4 rfl) ?_
          refine lv_iload hx hb dX6_growAlone_95 (lv_at hl 5 rfl) ?_
          refine aC_st hx hb hK hI hP (tC_6_1 hk) (nC_6_1 hk) hw.1 dX6_growAlone_97 (fun H locs hP => ?_)
          replace hw := hw.2
          obtain ⟨s12, hs12⟩ : ∃ u, u = ft_sA s3 (k + 1) (upd (s3.2.1 (k + 1)) (Int32.toNatClampNeg x8) x9) := ⟨_, rfl⟩
          rw [← hs12] at hP
          replace hw := hw s12 hs12
          refine lv_iinc (v := x2 + 1) (lv' := [(3, .int (x2 + 1)), (2, .int x10), (0, .ref (Γ.2.2 k)), (1, .ref (Γ.2.2 2)), (5, .int x8), (6, .int x9)]) hx hb dX6_growAlone_98 hl (k := 3) rfl (congrArg (fun z => x2 + z) (by decide)) (by decide) rfl (fun ls hl => ?_)
          refine lv_goto (tgt := 4) hx hb dX6_growAlone_101 (by decide) ?_
          exact hw _ _ _ hP (lv_sub hl [2, 3, 1, 0] rfl)
        · refine ft_cut (hw (∀ (H : Heap) (locs : List Loc) (ls : Array Slot), cC_P Γ s s3 H locs → lv_has ls 7 [(0, .ref (Γ.2.2 k)), (1, .ref (Γ.2.2 2)), (3, .int x2), (5, .int x8), (6, .int x9)] → cC_Wi p l e ({ frames := 1, cells := 0, slots := 0, locals := 21 } : Room) s m [.ref (Γ.2.2 k), .ref (Γ.2.2 2)] below meth c Γ Φ H locs 83 ls []) (fun  hw H locs ls hP hl => ?_)) (fun hw => ?_)
          · refine lv_iconst (v := 1) hx hb dX6_growAlone_83 (by decide) ?_
            refine lv_goto (tgt := 88) hx hb dX6_growAlone_84 (by decide) ?_
            exact hw _ _ _ hP (lv_sub hl [0, 1, 2, 3, 4] rfl)
          · refine lv_if_ne (tgt := 83) hx hb dX6_growAlone_68 (by decide) (fun h => ?_) (fun h => ?_)
            · replace hw := hw.1 h
              exact hw _ _ _ hP (lv_sub hl [3, 4, 6, 1, 0] rfl)
            · replace hw := hw.2 h
              refine lv_iload hx hb dX6_growAlone_71 (lv_at hl 0 rfl) ?_
              refine lv_aload_n hx hb dX6_growAlone_73 rfl (lv_at hl 3 rfl) ?_
              refine gC_6_1 hx hb hts i6 hown hK hP hk (hts _ q_X6_growAlone_4) dX6_growAlone_74 ?_
              refine lv_iload hx hb dX6_growAlone_77 (lv_at hl 1 rfl) ?_
              refine aC_ld hx hb hK hP (tC_6_1 hk) (nC_6_1 hk) hw.1 dX6_growAlone_79 ?_
              replace hw := hw.2
              refine lv_icmp_eq (tgt := 87) hx hb dX6_growAlone_80 (by decide) (fun h => ?_) (fun h => ?_)
              · replace hw := hw.1 h
                refine lv_iconst (v := 0) hx hb dX6_growAlone_87 (by decide) ?_
                exact hw _ _ _ hP (lv_sub hl [3, 4, 6, 1, 0] rfl)
              · replace hw := hw.2 h
                exact hw _ _ _ hP (lv_sub hl [3, 4, 6, 1, 0] rfl)
theorem q_X6_findAlone_1 : (Cond.fieldLink RX6 9 "FaultTwins$Twins" "alone" "[I") ∈ wsX6_findAlone := List.mem_of_getElem? (i := 1) (by decide +kernel)
set_option maxHeartbeats 4000000 in
set_option maxRecDepth 100000 in
theorem c_X6_findAlone (l : Launch) (Γ : ft_G) (hI : cC_I Γ) (k : Nat) (hk : cC_K k = 6) (σ : ft_St) (Φ : ft_St → Prop) (hw : w_X6_findAlone k σ Φ) : cC_Mv l yX6_findAlone wsX6_findAlone ({ frames := 2, cells := 0, slots := 0, locals := 47 } : Room) Γ σ [.ref (Γ.2.2 k), .ref (Γ.2.2 2)] Φ := by
  refine Met.ofW (cc := cX6_findAlone) (maxL := 4) (ret := none) (by decide) rfl ?_
  intro p e s m args below meth c s₁ B hml hv
  obtain ⟨rfl, hP, hK, hN⟩ := hv
  have hx := B.exec
  have hb := B.bytes
  have hr := B.returns
  have hts := atoms_spec (ws := wsX6_findAlone) B.pre
  have hown : s.vm.findClass RX6 = some m.cls := findClass_of_methodNamed B.named
  have hlocks := B.notSynchronized
  have i6 : ∀ w ∈ wsX60, w ∈ wsX6_findAlone := fun w h => List.mem_cons_of_mem _ (List.mem_append_left _ (List.mem_append_right _ h))
  have hP : cC_P Γ s σ s.heap [] := ⟨hP, va_S.rf⟩
  have hl := lv_entry ([.ref (Γ.2.2 k), .ref (Γ.2.2 2)]) (n := 4) (Nat.le_of_ble_eq_true rfl)
  rw [lg_entry_eq]
  generalize (lg_sl ([.ref (Γ.2.2 k), .ref (Γ.2.2 2)]) ++ List.replicate (4 - (lg_sl ([.ref (Γ.2.2 k), .ref (Γ.2.2 2)])).length) Slot.unset).toArray = ls at hl ⊢
  have hl : lv_has ls 4 [(0, .ref (Γ.2.2 k)), (1, .ref (Γ.2.2 2))] := hl
  unfold w_X6_findAlone at hw
  refine lv_iconst (v := 0) hx hb dX6_findAlone_0 (by decide) ?_
  refine lv_istore_n (lv' := [(2, .int 0), (0, .ref (Γ.2.2 k)), (1, .ref (Γ.2.2 2))]) hx hb dX6_findAlone_1 rfl hl (by decide) rfl (fun ls hl => ?_)
  refine hw (fun (x1 : Int32) (s2 : ft_St) => ∀ (H : Heap) (locs : List Loc) (ls : Array Slot), cC_P Γ s s2 H locs → lv_has ls 4 [(0, .ref (Γ.2.2 k)), (1, .ref (Γ.2.2 2)), (2, .int x1)] → cC_Wv p l e ({ frames := 2, cells := 0, slots := 0, locals := 47 } : Room) s m [.ref (Γ.2.2 k), .ref (Γ.2.2 2)] below meth c Γ Φ H locs 2 ls []) (fun x1 s2 hw H locs ls hP hl => ?_) _ _ _ hP (lv_sub hl [1, 2, 0] rfl)
  refine lv_iload_n hx hb dX6_findAlone_2 rfl (lv_at hl 2 rfl) ?_
  refine lv_bipush (v := 10) hx hb dX6_findAlone_3 (by decide) ?_
  refine lv_icmp_ge (tgt := 23) hx hb dX6_findAlone_5 (by decide) (fun h => ?_) (fun h => ?_)
  · replace hw := hw.1 h
    refine lv_iconst (v := 1) hx hb dX6_findAlone_23 (by decide) ?_
    refine lv_istore_n (lv' := [(2, .int 1), (0, .ref (Γ.2.2 k)), (1, .ref (Γ.2.2 2))]) hx hb dX6_findAlone_24 rfl hl (by decide) rfl (fun ls hl => ?_)
    refine lv_iconst (v := 0) hx hb dX6_findAlone_25 (by decide) ?_
    refine lv_istore_n (lv' := [(3, .int 0), (2, .int 1), (0, .ref (Γ.2.2 k)), (1, .ref (Γ.2.2 2))]) hx hb dX6_findAlone_26 rfl hl (by decide) rfl (fun ls hl => ?_)
    refine hw (fun (x4 : Int32) (x5 : Int32) (s6 : ft_St) => ∀ (H : Heap) (locs : List Loc) (ls : Array Slot), cC_P Γ s s6 H locs → lv_has ls 4 [(0, .ref (Γ.2.2 k)), (1, .ref (Γ.2.2 2)), (2, .int x4), (3, .int x5)] → cC_Wv p l e ({ frames := 2, cells := 0, slots := 0, locals := 47 } : Room) s m [.ref (Γ.2.2 k), .ref (Γ.2.2 2)] below meth c Γ Φ H locs 27 ls []) (fun x4 x5 s6 hw H locs ls hP hl => ?_) _ _ _ hP (lv_sub hl [2, 3, 1, 0] rfl)
    refine lv_iload_n hx hb dX6_findAlone_27 rfl (lv_at hl 3 rfl) ?_
    refine lv_bipush (v := 10) hx hb dX6_findAlone_28 (by decide) ?_
    refine lv_icmp_ge (tgt := 49) hx hb dX6_findAlone_30 (by decide) (fun h => ?_) (fun h => ?_)
    · replace hw := hw.1 h
      exact W.vret hx hb hr (cC_rv hP hw) hP.2.2.2 dX6_findAlone_49
    · replace hw := hw.2 h
      refine lv_iload_n hx hb dX6_findAlone_33 rfl (lv_at hl 2 rfl) ?_
      refine lv_if_eq (tgt := 49) hx hb dX6_findAlone_34 (by decide) (fun h => ?_) (fun h => ?_)
      · replace hw := hw.1 h
        exact W.vret hx hb hr (cC_rv hP hw) hP.2.2.2 dX6_findAlone_49
      · replace hw := hw.2 h
        refine lv_aload_n hx hb dX6_findAlone_37 rfl (lv_at hl 0 rfl) ?_
        refine lv_aload_n hx hb dX6_findAlone_38 rfl (lv_at hl 1 rfl) ?_
        refine cC_Vi (rest := []) ⟨hx, hb, hml, hown, hts⟩ (c_X6_growAlone l Γ hI k hk s6 _ hw) (cwV 1 hts gX6_findAlone_X6_growAlone rfl rfl rfl (by decide +kernel) ⟨Nat.le_of_ble_eq_true rfl, Nat.le_of_ble_eq_true rfl⟩) hK hN hP (cC_lt hk (by decide)) (cC_E6 hk) rfl rfl rfl hl.1 rfl (Nat.le_of_ble_eq_true rfl) dX6_findAlone_39 ⟨Nat.le_refl _, Nat.le_refl _⟩ (fun r8 s9 H locs hw hP => ?_)
        refine lv_istore_n (lv' := [(2, .int r8), (0, .ref (Γ.2.2 k)), (1, .ref (Γ.2.2 2)), (3, .int x5)]) hx hb dX6_findAlone_42 rfl hl (by decide) rfl (fun ls hl => ?_)
        refine lv_iinc (v := x5 + 1) (lv' := [(3, .int (x5 + 1)), (2, .int r8), (0, .ref (Γ.2.2 k)), (1, .ref (Γ.2.2 2))]) hx hb dX6_findAlone_43 hl (k := 3) rfl (congrArg (fun z => x5 + z) (by decide)) (by decide) rfl (fun ls hl => ?_)
        refine lv_goto (tgt := 27) hx hb dX6_findAlone_46 (by decide) ?_
        exact hw _ _ _ hP (lv_sub hl [2, 3, 1, 0] rfl)
  · replace hw := hw.2 h
    refine lv_aload_n hx hb dX6_findAlone_8 rfl (lv_at hl 0 rfl) ?_
    refine gC_6_1 hx hb hts i6 hown hK hP hk (hts _ q_X6_findAlone_1) dX6_findAlone_9 ?_
    refine lv_iload_n hx hb dX6_findAlone_12 rfl (lv_at hl 2 rfl) ?_
    refine lv_iconst (v := 1) hx hb dX6_findAlone_13 (by decide) ?_
    refine lv_iload_n hx hb dX6_findAlone_14 rfl (lv_at hl 2 rfl) ?_
    refine lv_ishl hx hb dX6_findAlone_15 ?_
    refine aC_st hx hb hK hI hP (tC_6_1 hk) (nC_6_1 hk) hw.1 dX6_findAlone_16 (fun H locs hP => ?_)
    replace hw := hw.2
    obtain ⟨s10, hs10⟩ : ∃ u, u = ft_sA s2 (k + 1) (upd (s2.2.1 (k + 1)) (Int32.toNatClampNeg x1) (1 <<< (x1 &&& 31))) := ⟨_, rfl⟩
    rw [← hs10] at hP
    replace hw := hw s10 hs10
    refine lv_iinc (v := x1 + 1) (lv' := [(2, .int (x1 + 1)), (0, .ref (Γ.2.2 k)), (1, .ref (Γ.2.2 2))]) hx hb dX6_findAlone_17 hl (k := 2) rfl (congrArg (fun z => x1 + z) (by decide)) (by decide) rfl (fun ls hl => ?_)
    refine lv_goto (tgt := 2) hx hb dX6_findAlone_20 (by decide) ?_
    exact hw _ _ _ hP (lv_sub hl [1, 2, 0] rfl)
theorem q_X6_findAlong_1 : (Cond.fieldLink RX6 15 "FaultTwins$Twins" "along" "[I") ∈ wsX6_findAlong := List.mem_of_getElem? (i := 1) (by decide +kernel)
theorem q_X6_findAlong_2 : (Cond.fieldLink RX6 55 "FaultTwins$Machine" "ways" "I") ∈ wsX6_findAlong := List.mem_of_getElem? (i := 2) (by decide +kernel)
theorem q_X6_findAlong_3 : (Cond.fieldLink RX6 60 "FaultTwins$Machine" "by" "[I") ∈ wsX6_findAlong := List.mem_of_getElem? (i := 3) (by decide +kernel)
theorem q_X6_findAlong_4 : (Cond.fieldLink RX6 70 "FaultTwins$Machine" "from" "[I") ∈ wsX6_findAlong := List.mem_of_getElem? (i := 4) (by decide +kernel)
theorem q_X6_findAlong_5 : (Cond.fieldLink RX6 9 "FaultTwins$Twins" "alone" "[I") ∈ wsX6_findAlong := List.mem_of_getElem? (i := 5) (by decide +kernel)
theorem q_X6_findAlong_6 : (Cond.fieldLink RX6 73 "FaultTwins$Machine" "to" "[I") ∈ wsX6_findAlong := List.mem_of_getElem? (i := 6) (by decide +kernel)
set_option maxHeartbeats 4000000 in
set_option maxRecDepth 100000 in
theorem c_X6_findAlong (l : Launch) (Γ : ft_G) (hI : cC_I Γ) (k : Nat) (hk : cC_K k = 6) (σ : ft_St) (Φ : ft_St → Prop) (hw : w_X6_findAlong k σ Φ) : cC_Mv l yX6_findAlong wsX6_findAlong ({ frames := 1, cells := 0, slots := 0, locals := 23 } : Room) Γ σ [.ref (Γ.2.2 k), .ref (Γ.2.2 2)] Φ := by
  refine Met.ofW (cc := cX6_findAlong) (maxL := 4) (ret := none) (by decide) rfl ?_
  intro p e s m args below meth c s₁ B hml hv
  obtain ⟨rfl, hP, hK, hN⟩ := hv
  have hx := B.exec
  have hb := B.bytes
  have hr := B.returns
  have hts := atoms_spec (ws := wsX6_findAlong) B.pre
  have hown : s.vm.findClass RX6 = some m.cls := findClass_of_methodNamed B.named
  have hlocks := B.notSynchronized
  have i1 : ∀ w ∈ wsX10, w ∈ wsX6_findAlong := fun w h => List.mem_cons_of_mem _ (List.mem_append_right _ h)
  have i6 : ∀ w ∈ wsX60, w ∈ wsX6_findAlong := fun w h => List.mem_cons_of_mem _ (List.mem_append_left _ (List.mem_append_right _ h))
  have hP : cC_P Γ s σ s.heap [] := ⟨hP, va_S.rf⟩
  have hl := lv_entry ([.ref (Γ.2.2 k), .ref (Γ.2.2 2)]) (n := 4) (Nat.le_of_ble_eq_true rfl)
  rw [lg_entry_eq]
  generalize (lg_sl ([.ref (Γ.2.2 k), .ref (Γ.2.2 2)]) ++ List.replicate (4 - (lg_sl ([.ref (Γ.2.2 k), .ref (Γ.2.2 2)])).length) Slot.unset).toArray = ls at hl ⊢
  have hl : lv_has ls 4 [(0, .ref (Γ.2.2 k)), (1, .ref (Γ.2.2 2))] := hl
  unfold w_X6_findAlong at hw
  refine lv_aload_n hx hb dX6_findAlong_0 rfl (lv_at hl 0 rfl) ?_
  refine gC_6_2 hx hb hts i6 hown hK hP hk (hts _ q_X6_findAlong_1) dX6_findAlong_1 ?_
  refine lv_iconst (v := 0) hx hb dX6_findAlong_4 (by decide) ?_
  refine cC_Sv (rest := []) ⟨hx, hb, hml, hown, hts⟩ (c_J7_fill_53178 l Γ hI (k + 2) (tC_6_2 hk) 0 σ _ hw) (va_cwS 2 hts gX6_findAlong_J7_fill_53178 rfl rfl rfl (by decide +kernel) ⟨Nat.le_of_ble_eq_true rfl, Nat.le_of_ble_eq_true rfl⟩) hK hN hP rfl hl.1 rfl (Nat.le_of_ble_eq_true rfl) dX6_findAlong_5 ⟨Nat.le_refl _, Nat.le_refl _⟩ (fun s1 H locs hw hP => ?_)
  refine lv_iconst (v := 0) hx hb dX6_findAlong_8 (by decide) ?_
  refine lv_istore_n (lv' := [(2, .int 0), (0, .ref (Γ.2.2 k)), (1, .ref (Γ.2.2 2))]) hx hb dX6_findAlong_9 rfl hl (by decide) rfl (fun ls hl => ?_)
  refine hw (fun (x2 : Int32) (s3 : ft_St) => ∀ (H : Heap) (locs : List Loc) (ls : Array Slot), cC_P Γ s s3 H locs → lv_has ls 4 [(0, .ref (Γ.2.2 k)), (1, .ref (Γ.2.2 2)), (2, .int x2)] → cC_Wv p l e ({ frames := 1, cells := 0, slots := 0, locals := 23 } : Room) s m [.ref (Γ.2.2 k), .ref (Γ.2.2 2)] below meth c Γ Φ H locs 10 ls []) (fun x2 s3 hw H locs ls hP hl => ?_) _ _ _ hP (lv_sub hl [1, 2, 0] rfl)
  refine lv_iload_n hx hb dX6_findAlong_10 rfl (lv_at hl 2 rfl) ?_
  refine lv_aload_n hx hb dX6_findAlong_11 rfl (lv_at hl 1 rfl) ?_
  refine gC_1_3 hx hb hts i1 hown hK hP hC_2 (hts _ q_X6_findAlong_2) dX6_findAlong_12 ?_
  refine lv_icmp_ge (tgt := 77) hx hb dX6_findAlong_15 (by decide) (fun h => ?_) (fun h => ?_)
  · replace hw := hw.1 h
    exact W.vret hx hb hr (cC_rv hP hw) hP.2.2.2 dX6_findAlong_77
  · replace hw := hw.2 h
    refine lv_aload_n hx hb dX6_findAlong_18 rfl (lv_at hl 1 rfl) ?_
    refine gC_1_1 hx hb hts i1 hown hK hP hC_2 (hts _ q_X6_findAlong_3) dX6_findAlong_19 ?_
    refine lv_iload_n hx hb dX6_findAlong_22 rfl (lv_at hl 2 rfl) ?_
    refine aC_ld hx hb hK hP hC_4 mC_4 hw.1 dX6_findAlong_23 ?_
    replace hw := hw.2
    refine lv_topi (fun x5 ex5 => ?_)
    replace hw := hw x5 ex5
    refine lv_istore_n (lv' := [(3, .int x5), (0, .ref (Γ.2.2 k)), (1, .ref (Γ.2.2 2)), (2, .int x2)]) hx hb dX6_findAlong_24 rfl hl (by decide) rfl (fun ls hl => ?_)
    refine lv_aload_n hx hb dX6_findAlong_25 rfl (lv_at hl 1 rfl) ?_
    refine lv_iload_n hx hb dX6_findAlong_26 rfl (lv_at hl 0 rfl) ?_
    refine cC_Vip (rest := []) ⟨hx, hb, hml, hown, hts⟩ (c_X6_isSeen l Γ hI k hk x5 s3 _ hw) (cwV 1 hts gX6_findAlong_X6_isSeen rfl rfl rfl (by decide +kernel) ⟨Nat.le_of_ble_eq_true rfl, Nat.le_of_ble_eq_true rfl⟩) hK hN hP (cC_lt hk (by decide)) (cC_E6 hk) rfl rfl rfl hl.1 rfl (Nat.le_of_ble_eq_true rfl) dX6_findAlong_27 ⟨Nat.le_refl _, Nat.le_refl _⟩ (fun r6 H locs hw hP => ?_)
    refine lv_if_eq (tgt := 71) hx hb dX6_findAlong_30 (by decide) (fun h => ?_) (fun h => ?_)
    · replace hw := hw.1 h
      refine lv_iinc (v := x2 + 1) (lv' := [(2, .int (x2 + 1)), (3, .int x5), (0, .ref (Γ.2.2 k)), (1, .ref (Γ.2.2 2))]) hx hb dX6_findAlong_71 hl (k := 3) rfl (congrArg (fun z => x2 + z) (by decide)) (by decide) rfl (fun ls hl => ?_)
      refine lv_goto (tgt := 10) hx hb dX6_findAlong_74 (by decide) ?_
      exact hw _ _ _ hP (lv_sub hl [2, 3, 0] rfl)
    · replace hw := hw.2 h
      refine lv_aload_n hx hb dX6_findAlong_33 rfl (lv_at hl 2 rfl) ?_
      refine lv_iload_n hx hb dX6_findAlong_34 rfl (lv_at hl 0 rfl) ?_
      refine cC_Vip (rest := []) ⟨hx, hb, hml, hown, hts⟩ (c_X1_isFault l Γ hI 2 hC_2 x5 s3 _ hw) (cwV 1 hts gX6_findAlong_X1_isFault rfl rfl rfl (by decide +kernel) ⟨Nat.le_of_ble_eq_true rfl, Nat.le_of_ble_eq_true rfl⟩) hK hN hP (cC_lt hC_2 (by decide)) (cC_E1 hC_2) rfl rfl rfl hl.1 rfl (Nat.le_of_ble_eq_true rfl) dX6_findAlong_35 ⟨Nat.le_refl _, Nat.le_refl _⟩ (fun r7 H locs hw hP => ?_)
      refine lv_if_ne (tgt := 71) hx hb dX6_findAlong_38 (by decide) (fun h => ?_) (fun h => ?_)
      · replace hw := hw.1 h
        refine lv_iinc (v := x2 + 1) (lv' := [(2, .int (x2 + 1)), (3, .int x5), (0, .ref (Γ.2.2 k)), (1, .ref (Γ.2.2 2))]) hx hb dX6_findAlong_71 hl (k := 3) rfl (congrArg (fun z => x2 + z) (by decide)) (by decide) rfl (fun ls hl => ?_)
        refine lv_goto (tgt := 10) hx hb dX6_findAlong_74 (by decide) ?_
        exact hw _ _ _ hP (lv_sub hl [2, 3, 0] rfl)
      · replace hw := hw.2 h
        refine lv_aload_n hx hb dX6_findAlong_41 rfl (lv_at hl 1 rfl) ?_
        refine gC_6_2 hx hb hts i6 hown hK hP hk (hts _ q_X6_findAlong_1) dX6_findAlong_42 ?_
        refine lv_iload_n hx hb dX6_findAlong_45 rfl (lv_at hl 0 rfl) ?_
        refine lv_bipush (v := 10) hx hb dX6_findAlong_46 (by decide) ?_
        refine lv_imul hx hb dX6_findAlong_48 ?_
        refine lv_aload_n hx hb dX6_findAlong_49 rfl (lv_at hl 2 rfl) ?_
        refine gC_1_0 hx hb hts i1 hown hK hP hC_2 (hts _ q_X6_findAlong_4) dX6_findAlong_50 ?_
        refine lv_iload_n hx hb dX6_findAlong_53 rfl (lv_at hl 3 rfl) ?_
        refine aC_ld hx hb hK hP hC_3 mC_3 hw.1 dX6_findAlong_54 ?_
        replace hw := hw.2
        refine lv_iadd hx hb dX6_findAlong_55 ?_
        refine lv_dup2_11 hx hb dX6_findAlong_56 rfl rfl ?_
        refine aC_ld hx hb hK hP (tC_6_2 hk) (nC_6_2 hk) hw.1 dX6_findAlong_57 ?_
        replace hw := hw.2
        refine lv_aload_n hx hb dX6_findAlong_58 rfl (lv_at hl 1 rfl) ?_
        refine gC_6_1 hx hb hts i6 hown hK hP hk (hts _ q_X6_findAlong_5) dX6_findAlong_59 ?_
        refine lv_aload_n hx hb dX6_findAlong_62 rfl (lv_at hl 2 rfl) ?_
        refine gC_1_2 hx hb hts i1 hown hK hP hC_2 (hts _ q_X6_findAlong_6) dX6_findAlong_63 ?_
        refine lv_iload_n hx hb dX6_findAlong_66 rfl (lv_at hl 3 rfl) ?_
        refine aC_ld hx hb hK hP hC_5 mC_5 hw.1 dX6_findAlong_67 ?_
        replace hw := hw.2
        refine aC_ld hx hb hK hP (tC_6_1 hk) (nC_6_1 hk) hw.1 dX6_findAlong_68 ?_
        replace hw := hw.2
        refine lv_ior hx hb dX6_findAlong_69 ?_
        refine aC_st hx hb hK hI hP (tC_6_2 hk) (nC_6_2 hk) hw.1 dX6_findAlong_70 (fun H locs hP => ?_)
        replace hw := hw.2
        obtain ⟨s8, hs8⟩ : ∃ u, u = ft_sA s3 (k + 2) (upd (s3.2.1 (k + 2)) (Int32.toNatClampNeg ((x5 * 10) + (s3.2.1 3 (Int32.toNatClampNeg x2)))) ((s3.2.1 (k + 2) (Int32.toNatClampNeg ((x5 * 10) + (s3.2.1 3 (Int32.toNatClampNeg x2))))) ||| (s3.2.1 (k + 1) (Int32.toNatClampNeg (s3.2.1 5 (Int32.toNatClampNeg x2)))))) := ⟨_, rfl⟩
        rw [← hs8] at hP
        replace hw := hw s8 hs8
        refine lv_iinc (v := x2 + 1) (lv' := [(2, .int (x2 + 1)), (3, .int x5), (0, .ref (Γ.2.2 k)), (1, .ref (Γ.2.2 2))]) hx hb dX6_findAlong_71 hl (k := 3) rfl (congrArg (fun z => x2 + z) (by decide)) (by decide) rfl (fun ls hl => ?_)
        refine lv_goto (tgt := 10) hx hb dX6_findAlong_74 (by decide) ?_
        exact hw _ _ _ hP (lv_sub hl [2, 3, 0] rfl)
theorem q_X6_partners_1 : (Cond.fieldLink RX6 30 "FaultTwins$Twins" "seen" "I") ∈ wsX6_partners := List.mem_of_getElem? (i := 1) (by decide +kernel)
theorem q_X6_partners_2 : (Cond.fieldLink RX6 15 "FaultTwins$Twins" "along" "[I") ∈ wsX6_partners := List.mem_of_getElem? (i := 2) (by decide +kernel)
set_option maxHeartbeats 4000000 in
set_option maxRecDepth 100000 in
theorem c_X6_partners (l : Launch) (Γ : ft_G) (hI : cC_I Γ) (k : Nat) (hk : cC_K k = 6) (a1 : Int32) (a2 : Int32) (σ : ft_St) (Φ : Int32 → Prop) (hw : w_X6_partners k a1 a2 σ Φ) : cC_Mip l yX6_partners wsX6_partners ({ frames := 0, cells := 0, slots := 0, locals := 0 } : Room) Γ σ [.ref (Γ.2.2 k), .int a1, .int a2] Φ := by
  refine Met.ofW (cc := cX6_partners) (maxL := 5) (ret := (some .int)) (by decide) rfl ?_
  intro p e s m args below meth c s₁ B hml hv
  obtain ⟨rfl, hP, hK, hN⟩ := hv
  have hx := B.exec
  have hb := B.bytes
  have hr := B.returns
  have hts := atoms_spec (ws := wsX6_partners) B.pre
  have hown : s.vm.findClass RX6 = some m.cls := findClass_of_methodNamed B.named
  have hlocks := B.notSynchronized
  have i6 : ∀ w ∈ wsX60, w ∈ wsX6_partners := fun w h => List.mem_cons_of_mem _ (List.mem_append_right _ h)
  have hP : cC_P Γ s σ s.heap [] := ⟨hP, va_S.rf⟩
  have hl := lv_entry ([.ref (Γ.2.2 k), .int a1, .int a2]) (n := 5) (Nat.le_of_ble_eq_true rfl)
  rw [lg_entry_eq]
  generalize (lg_sl ([.ref (Γ.2.2 k), .int a1, .int a2]) ++ List.replicate (5 - (lg_sl ([.ref (Γ.2.2 k), .int a1, .int a2])).length) Slot.unset).toArray = ls at hl ⊢
  have hl : lv_has ls 5 [(0, .ref (Γ.2.2 k)), (1, .int a1), (2, .int a2)] := hl
  unfold w_X6_partners at hw
  refine lv_aload_n hx hb dX6_partners_0 rfl (lv_at hl 0 rfl) ?_
  refine gC_6_0 hx hb hts i6 hown hK hP hk (hts _ q_X6_partners_1) dX6_partners_1 ?_
  refine lv_iload_n hx hb dX6_partners_4 rfl (lv_at hl 1 rfl) ?_
  refine lv_ishr hx hb dX6_partners_5 ?_
  refine lv_iconst (v := 1) hx hb dX6_partners_6 (by decide) ?_
  refine lv_iand hx hb dX6_partners_7 ?_
  refine lv_if_ne (tgt := 13) hx hb dX6_partners_8 (by decide) (fun h => ?_) (fun h => ?_)
  · replace hw := hw.1 h
    refine lv_iconst (v := 0) hx hb dX6_partners_13 (by decide) ?_
    refine lv_istore_n (lv' := [(3, .int 0), (0, .ref (Γ.2.2 k)), (1, .int a1), (2, .int a2)]) hx hb dX6_partners_14 rfl hl (by decide) rfl (fun ls hl => ?_)
    refine lv_iconst (v := 0) hx hb dX6_partners_15 (by decide) ?_
    refine lv_istore (lv' := [(4, .int 0), (3, .int 0), (0, .ref (Γ.2.2 k)), (1, .int a1), (2, .int a2)]) hx hb dX6_partners_16 hl (by decide) rfl (fun ls hl => ?_)
    refine hw (fun (x1 : Int32) (x2 : Int32) => ∀ (H : Heap) (locs : List Loc) (ls : Array Slot), cC_P Γ s σ H locs → lv_has ls 5 [(0, .ref (Γ.2.2 k)), (1, .int a1), (2, .int a2), (3, .int x1), (4, .int x2)] → cC_Wi p l e ({ frames := 0, cells := 0, slots := 0, locals := 0 } : Room) s m [.ref (Γ.2.2 k), .int a1, .int a2] below meth c Γ (fun r u => u = σ ∧ Φ r) H locs 18 ls []) (fun x1 x2 hw H locs ls hP hl => ?_) _ _ _ hP (lv_sub hl [2, 3, 4, 1, 0] rfl)
    refine lv_iload hx hb dX6_partners_18 (lv_at hl 4 rfl) ?_
    refine lv_bipush (v := 10) hx hb dX6_partners_20 (by decide) ?_
    refine lv_icmp_ge (tgt := 56) hx hb dX6_partners_22 (by decide) (fun h => ?_) (fun h => ?_)
    · replace hw := hw.1 h
      refine lv_iload_n hx hb dX6_partners_56 rfl (lv_at hl 3 rfl) ?_
      exact W.iret hx hb hr (cC_ri hP ⟨rfl, hw⟩) hP.2.2.2 dX6_partners_57
    · replace hw := hw.2 h
      refine lv_iload_n hx hb dX6_partners_25 rfl (lv_at hl 2 rfl) ?_
      refine lv_iload hx hb dX6_partners_26 (lv_at hl 4 rfl) ?_
      refine lv_ishr hx hb dX6_partners_28 ?_
      refine lv_iconst (v := 1) hx hb dX6_partners_29 (by decide) ?_
      refine lv_iand hx hb dX6_partners_30 ?_
      refine lv_iconst (v := 1) hx hb dX6_partners_31 (by decide) ?_
      refine lv_icmp_ne (tgt := 50) hx hb dX6_partners_32 (by decide) (fun h => ?_) (fun h => ?_)
      · replace hw := hw.1 h
        refine lv_iinc (v := x2 + 1) (lv' := [(4, .int (x2 + 1)), (0, .ref (Γ.2.2 k)), (1, .int a1), (2, .int a2), (3, .int x1)]) hx hb dX6_partners_50 hl (k := 4) rfl (congrArg (fun z => x2 + z) (by decide)) (by decide) rfl (fun ls hl => ?_)
        refine lv_goto (tgt := 18) hx hb dX6_partners_53 (by decide) ?_
        exact hw _ _ _ hP (lv_sub hl [1, 2, 3, 4, 0] rfl)
      · replace hw := hw.2 h
        refine lv_iload_n hx hb dX6_partners_35 rfl (lv_at hl 3 rfl) ?_
        refine lv_aload_n hx hb dX6_partners_36 rfl (lv_at hl 0 rfl) ?_
        refine gC_6_2 hx hb hts i6 hown hK hP hk (hts _ q_X6_partners_2) dX6_partners_37 ?_
        refine lv_iload_n hx hb dX6_partners_40 rfl (lv_at hl 1 rfl) ?_
        refine lv_bipush (v := 10) hx hb dX6_partners_41 (by decide) ?_
        refine lv_imul hx hb dX6_partners_43 ?_
        refine lv_iload hx hb dX6_partners_44 (lv_at hl 4 rfl) ?_
        refine lv_iadd hx hb dX6_partners_46 ?_
        refine aC_ld hx hb hK hP (tC_6_2 hk) (nC_6_2 hk) hw.1 dX6_partners_47 ?_
        replace hw := hw.2
        refine lv_ior hx hb dX6_partners_48 ?_
        refine lv_topi (fun x4 ex4 => ?_)
        replace hw := hw x4 ex4
        refine lv_istore_n (lv' := [(3, .int x4), (0, .ref (Γ.2.2 k)), (1, .int a1), (2, .int a2), (4, .int x2)]) hx hb dX6_partners_49 rfl hl (by decide) rfl (fun ls hl => ?_)
        refine lv_iinc (v := x2 + 1) (lv' := [(4, .int (x2 + 1)), (3, .int x4), (0, .ref (Γ.2.2 k)), (1, .int a1), (2, .int a2)]) hx hb dX6_partners_50 hl (k := 4) rfl (congrArg (fun z => x2 + z) (by decide)) (by decide) rfl (fun ls hl => ?_)
        refine lv_goto (tgt := 18) hx hb dX6_partners_53 (by decide) ?_
        exact hw _ _ _ hP (lv_sub hl [2, 3, 4, 1, 0] rfl)
  · replace hw := hw.2 h
    refine lv_iload_n hx hb dX6_partners_11 rfl (lv_at hl 2 rfl) ?_
    exact W.iret hx hb hr (cC_ri hP ⟨rfl, hw⟩) hP.2.2.2 dX6_partners_12
theorem q_X6_growPairs_1 : (Cond.fieldLink RX6 55 "FaultTwins$Machine" "ways" "I") ∈ wsX6_growPairs := List.mem_of_getElem? (i := 1) (by decide +kernel)
theorem q_X6_growPairs_2 : (Cond.fieldLink RX6 70 "FaultTwins$Machine" "from" "[I") ∈ wsX6_growPairs := List.mem_of_getElem? (i := 2) (by decide +kernel)
theorem q_X6_growPairs_3 : (Cond.fieldLink RX6 18 "FaultTwins$Twins" "pairs" "[I") ∈ wsX6_growPairs := List.mem_of_getElem? (i := 3) (by decide +kernel)
theorem q_X6_growPairs_4 : (Cond.fieldLink RX6 60 "FaultTwins$Machine" "by" "[I") ∈ wsX6_growPairs := List.mem_of_getElem? (i := 4) (by decide +kernel)
set_option maxHeartbeats 4000000 in
set_option maxRecDepth 100000 in
theorem c_X6_growPairs (l : Launch) (Γ : ft_G) (hI : cC_I Γ) (k : Nat) (hk : cC_K k = 6) (σ : ft_St) (Φ : Int32 → ft_St → Prop) (hw : w_X6_growPairs k σ Φ) : cC_Mi l yX6_growPairs wsX6_growPairs ({ frames := 1, cells := 0, slots := 0, locals := 24 } : Room) Γ σ [.ref (Γ.2.2 k), .ref (Γ.2.2 2)] Φ := by
  refine Met.ofW (cc := cX6_growPairs) (maxL := 7) (ret := (some .boolean)) (by decide) rfl ?_
  intro p e s m args below meth c s₁ B hml hv
  obtain ⟨rfl, hP, hK, hN⟩ := hv
  have hx := B.exec
  have hb := B.bytes
  have hr := B.returns
  have hts := atoms_spec (ws := wsX6_growPairs) B.pre
  have hown : s.vm.findClass RX6 = some m.cls := findClass_of_methodNamed B.named
  have hlocks := B.notSynchronized
  have i1 : ∀ w ∈ wsX10, w ∈ wsX6_growPairs := fun w h => List.mem_cons_of_mem _ (List.mem_append_left _ (List.mem_append_right _ h))
  have i6 : ∀ w ∈ wsX60, w ∈ wsX6_growPairs := fun w h => List.mem_cons_of_mem _ (List.mem_append_right _ h)
  have hP : cC_P Γ s σ s.heap [] := ⟨hP, va_S.rf⟩
  have hl := lv_entry ([.ref (Γ.2.2 k), .ref (Γ.2.2 2)]) (n := 7) (Nat.le_of_ble_eq_true rfl)
  rw [lg_entry_eq]
  generalize (lg_sl ([.ref (Γ.2.2 k), .ref (Γ.2.2 2)]) ++ List.replicate (7 - (lg_sl ([.ref (Γ.2.2 k), .ref (Γ.2.2 2)])).length) Slot.unset).toArray = ls at hl ⊢
  have hl : lv_has ls 7 [(0, .ref (Γ.2.2 k)), (1, .ref (Γ.2.2 2))] := hl
  unfold w_X6_growPairs at hw
  refine lv_iconst (v := 0) hx hb dX6_growPairs_0 (by decide) ?_
  refine lv_istore_n (lv' := [(2, .int 0), (0, .ref (Γ.2.2 k)), (1, .ref (Γ.2.2 2))]) hx hb dX6_growPairs_1 rfl hl (by decide) rfl (fun ls hl => ?_)
  refine lv_iconst (v := 0) hx hb dX6_growPairs_2 (by decide) ?_
  refine lv_istore_n (lv' := [(3, .int 0), (2, .int 0), (0, .ref (Γ.2.2 k)), (1, .ref (Γ.2.2 2))]) hx hb dX6_growPairs_3 rfl hl (by decide) rfl (fun ls hl => ?_)
  refine hw (fun (x1 : Int32) (x2 : Int32) (s3 : ft_St) => ∀ (H : Heap) (locs : List Loc) (ls : Array Slot), cC_P Γ s s3 H locs → lv_has ls 7 [(0, .ref (Γ.2.2 k)), (1, .ref (Γ.2.2 2)), (2, .int x1), (3, .int x2)] → cC_Wi p l e ({ frames := 1, cells := 0, slots := 0, locals := 24 } : Room) s m [.ref (Γ.2.2 k), .ref (Γ.2.2 2)] below meth c Γ Φ H locs 4 ls []) (fun x1 x2 s3 hw H locs ls hP hl => ?_) _ _ _ hP (lv_sub hl [2, 3, 1, 0] rfl)
  refine lv_iload_n hx hb dX6_growPairs_4 rfl (lv_at hl 3 rfl) ?_
  refine lv_aload_n hx hb dX6_growPairs_5 rfl (lv_at hl 1 rfl) ?_
  refine gC_1_3 hx hb hts i1 hown hK hP hC_2 (hts _ q_X6_growPairs_1) dX6_growPairs_6 ?_
  refine lv_icmp_ge (tgt := 106) hx hb dX6_growPairs_9 (by decide) (fun h => ?_) (fun h => ?_)
  · replace hw := hw.1 h
    refine lv_iload_n hx hb dX6_growPairs_106 rfl (lv_at hl 2 rfl) ?_
    exact W.zret hx hb hr (ft_bz_n hw.1) (cC_ri hP hw.2) hP.2.2.2 dX6_growPairs_107
  · replace hw := hw.2 h
    refine lv_aload_n hx hb dX6_growPairs_12 rfl (lv_at hl 1 rfl) ?_
    refine gC_1_0 hx hb hts i1 hown hK hP hC_2 (hts _ q_X6_growPairs_2) dX6_growPairs_13 ?_
    refine lv_iload_n hx hb dX6_growPairs_16 rfl (lv_at hl 3 rfl) ?_
    refine aC_ld hx hb hK hP hC_3 mC_3 hw.1 dX6_growPairs_17 ?_
    replace hw := hw.2
    refine lv_topi (fun x5 ex5 => ?_)
    replace hw := hw x5 ex5
    refine lv_istore (lv' := [(4, .int x5), (0, .ref (Γ.2.2 k)), (1, .ref (Γ.2.2 2)), (2, .int x1), (3, .int x2)]) hx hb dX6_growPairs_18 hl (by decide) rfl (fun ls hl => ?_)
    refine hw (fun (x6 : Int32) (x7 : Int32) (s8 : ft_St) => ∀ (H : Heap) (locs : List Loc) (ls : Array Slot), cC_P Γ s s8 H locs → lv_has ls 7 [(0, .ref (Γ.2.2 k)), (1, .ref (Γ.2.2 2)), (2, .int x6), (3, .int x2), (4, .int x7)] → cC_Wi p l e ({ frames := 1, cells := 0, slots := 0, locals := 24 } : Room) s m [.ref (Γ.2.2 k), .ref (Γ.2.2 2)] below meth c Γ Φ H locs 20 ls []) (fun x6 x7 s8 hw H locs ls hP hl => ?_) _ _ _ hP (lv_sub hl [1, 2, 3, 4, 0] rfl)
    refine lv_iload hx hb dX6_growPairs_20 (lv_at hl 4 rfl) ?_
    refine lv_bipush (v := 20) hx hb dX6_growPairs_22 (by decide) ?_
    refine lv_icmp_ge (tgt := 100) hx hb dX6_growPairs_24 (by decide) (fun h => ?_) (fun h => ?_)
    · replace hw := hw.1 h
      refine lv_iinc (v := x2 + 1) (lv' := [(3, .int (x2 + 1)), (0, .ref (Γ.2.2 k)), (1, .ref (Γ.2.2 2)), (2, .int x6), (4, .int x7)]) hx hb dX6_growPairs_100 hl (k := 3) rfl (congrArg (fun z => x2 + z) (by decide)) (by decide) rfl (fun ls hl => ?_)
      refine lv_goto (tgt := 4) hx hb dX6_growPairs_103 (by decide) ?_
      exact hw _ _ _ hP (lv_sub hl [1, 2, 3, 0] rfl)
    · replace hw := hw.2 h
      refine lv_aload_n hx hb dX6_growPairs_27 rfl (lv_at hl 1 rfl) ?_
      refine lv_iload_n hx hb dX6_growPairs_28 rfl (lv_at hl 3 rfl) ?_
      refine lv_iload hx hb dX6_growPairs_29 (lv_at hl 4 rfl) ?_
      refine cC_Vip (rest := []) ⟨hx, hb, hml, hown, hts⟩ (c_X1_markBehind l Γ hI 2 hC_2 x2 x7 s8 _ hw) (cwV 2 hts gX6_growPairs_X1_markBehind rfl rfl rfl (by decide +kernel) ⟨Nat.le_of_ble_eq_true rfl, Nat.le_of_ble_eq_true rfl⟩) hK hN hP (cC_lt hC_2 (by decide)) (cC_E1 hC_2) rfl rfl rfl hl.1 rfl (Nat.le_of_ble_eq_true rfl) dX6_growPairs_31 ⟨Nat.le_refl _, Nat.le_refl _⟩ (fun r10 H locs hw hP => ?_)
      refine lv_istore (lv' := [(5, .int r10), (0, .ref (Γ.2.2 k)), (1, .ref (Γ.2.2 2)), (2, .int x6), (3, .int x2), (4, .int x7)]) hx hb dX6_growPairs_34 hl (by decide) rfl (fun ls hl => ?_)
      refine lv_aload_n hx hb dX6_growPairs_36 rfl (lv_at hl 1 rfl) ?_
      refine gC_6_3 hx hb hts i6 hown hK hP hk (hts _ q_X6_growPairs_3) dX6_growPairs_37 ?_
      refine lv_iload hx hb dX6_growPairs_40 (lv_at hl 0 rfl) ?_
      refine aC_ld hx hb hK hP (tC_6_3 hk) (nC_6_3 hk) hw.1 dX6_growPairs_42 ?_
      replace hw := hw.2
      refine lv_aload_n hx hb dX6_growPairs_43 rfl (lv_at hl 1 rfl) ?_
      refine lv_aload_n hx hb dX6_growPairs_44 rfl (lv_at hl 2 rfl) ?_
      refine gC_1_1 hx hb hts i1 hown hK hP hC_2 (hts _ q_X6_growPairs_4) dX6_growPairs_45 ?_
      refine lv_iload_n hx hb dX6_growPairs_48 rfl (lv_at hl 4 rfl) ?_
      refine aC_ld hx hb hK hP hC_4 mC_4 hw.1 dX6_growPairs_49 ?_
      replace hw := hw.2
      refine lv_aload_n hx hb dX6_growPairs_50 rfl (lv_at hl 1 rfl) ?_
      refine gC_6_3 hx hb hts i6 hown hK hP hk (hts _ q_X6_growPairs_3) dX6_growPairs_51 ?_
      refine lv_iload hx hb dX6_growPairs_54 (lv_at hl 5 rfl) ?_
      refine aC_ld hx hb hK hP (tC_6_3 hk) (nC_6_3 hk) hw.1 dX6_growPairs_56 ?_
      replace hw := hw.2
      refine cC_Vip (rest := [.int (s8.2.1 (k + 3) (Int32.toNatClampNeg r10))]) ⟨hx, hb, hml, hown, hts⟩ (c_X6_partners l Γ hI k hk (s8.2.1 4 (Int32.toNatClampNeg x2)) (s8.2.1 (k + 3) (Int32.toNatClampNeg x7)) s8 _ hw) (cwV 2 hts gX6_growPairs_X6_partners rfl rfl rfl (by decide +kernel) ⟨Nat.le_of_ble_eq_true rfl, Nat.le_of_ble_eq_true rfl⟩) hK hN hP (cC_lt hk (by decide)) (cC_E6 hk) rfl rfl rfl hl.1 rfl (Nat.le_of_ble_eq_true rfl) dX6_growPairs_57 ⟨Nat.le_refl _, Nat.le_refl _⟩ (fun r11 H locs hw hP => ?_)
      refine lv_ior hx hb dX6_growPairs_60 ?_
      refine lv_topi (fun x12 ex12 => ?_)
      replace hw := hw x12 ex12
      refine lv_istore (lv' := [(6, .int x12), (5, .int r10), (0, .ref (Γ.2.2 k)), (1, .ref (Γ.2.2 2)), (2, .int x6), (3, .int x2), (4, .int x7)]) hx hb dX6_growPairs_61 hl (by decide) rfl (fun ls hl => ?_)
      refine lv_iload_n hx hb dX6_growPairs_63 rfl (lv_at hl 4 rfl) ?_
      refine ft_cut (hw (fun (x13 : Int32) => ∀ (H : Heap) (locs : List Loc) (ls : Array Slot), cC_P Γ s s8 H locs → lv_has ls 7 [(0, .ref (Γ.2.2 k)), (1, .ref (Γ.2.2 2)), (3, .int x2), (4, .int x7), (5, .int r10), (6, .int x12)] → cC_Wi p l e ({ frames := 1, cells := 0, slots := 0, locals := 24 } : Room) s m [.ref (Γ.2.2 k), .ref (Γ.2.2 2)] below meth c Γ Φ H locs 84 ls [.int x13]) (fun x13 hw H locs ls hP hl => ?_)) (fun hw => ?_)
      · refine lv_istore_n (lv' := [(2, .int x13), (0, .ref (Γ.2.2 k)), (1, .ref (Γ.2.2 2)), (3, .int x2), (4, .int x7), (5, .int r10), (6, .int x12)]) hx hb dX6_growPairs_84 rfl hl (by decide) rfl (fun ls hl => ?_)
        refine lv_aload_n hx hb dX6_growPairs_85 rfl (lv_at hl 1 rfl) ?_
        refine gC_6_3 hx hb hts i6 hown hK hP hk (hts _ q_X6_growPairs_3) dX6_growPairs_86 ?_
        refine lv_iload hx hb dX6_growPairs_89 (lv_at hl 5 rfl) ?_
        refine lv_iload hx hb dX6_growPairs_91 (lv_at hl 6 rfl) ?_
        refine aC_st hx hb hK hI hP (tC_6_3 hk) (nC_6_3 hk) hw.1 dX6_growPairs_93 (fun H locs hP => ?_)
        replace hw := hw.2
        obtain ⟨s15, hs15⟩ : ∃ u, u = ft_sA s8 (k + 3) (upd (s8.2.1 (k + 3)) (Int32.toNatClampNeg r10) x12) := ⟨_, rfl⟩
        rw [← hs15] at hP
        replace hw := hw s15 hs15
        refine lv_iinc (v := x7 + 10) (lv' := [(4, .int (x7 + 10)), (2, .int x13), (0, .ref (Γ.2.2 k)), (1, .ref (Γ.2.2 2)), (3, .int x2), (5, .int r10), (6, .int x12)]) hx hb dX6_growPairs_94 hl (k := 4) rfl (congrArg (fun z => x7 + z) (by decide)) (by decide) rfl (fun ls hl => ?_)
        refine lv_goto (tgt := 20) hx hb dX6_growPairs_97 (by decide) ?_
        exact hw _ _ _ hP (lv_sub hl [2, 3, 1, 4, 0] rfl)
      · refine ft_cut (hw (∀ (H : Heap) (locs : List Loc) (ls : Array Slot), cC_P Γ s s8 H locs → lv_has ls 7 [(0, .ref (Γ.2.2 k)), (1, .ref (Γ.2.2 2)), (3, .int x2), (4, .int x7), (5, .int r10), (6, .int x12)] → cC_Wi p l e ({ frames := 1, cells := 0, slots := 0, locals := 24 } : Room) s m [.ref (Γ.2.2 k), .ref (Γ.2.2 2)] below meth c Γ Φ H locs 79 ls []) (fun  hw H locs ls hP hl => ?_)) (fun hw => ?_)
        · refine lv_iconst (v := 1) hx hb dX6_growPairs_79 (by decide) ?_
          refine lv_goto (tgt := 84) hx hb dX6_growPairs_80 (by decide) ?_
          exact hw _ _ _ hP (lv_sub hl [0, 1, 2, 3, 4, 5] rfl)
        · refine lv_if_ne (tgt := 79) hx hb dX6_growPairs_64 (by decide) (fun h => ?_) (fun h => ?_)
          · replace hw := hw.1 h
            exact hw _ _ _ hP (lv_sub hl [2, 3, 5, 6, 1, 0] rfl)
          · replace hw := hw.2 h
            refine lv_iload hx hb dX6_growPairs_67 (lv_at hl 0 rfl) ?_
            refine lv_aload_n hx hb dX6_growPairs_69 rfl (lv_at hl 2 rfl) ?_
            refine gC_6_3 hx hb hts i6 hown hK hP hk (hts _ q_X6_growPairs_3) dX6_growPairs_70 ?_
            refine lv_iload hx hb dX6_growPairs_73 (lv_at hl 1 rfl) ?_
            refine aC_ld hx hb hK hP (tC_6_3 hk) (nC_6_3 hk) hw.1 dX6_growPairs_75 ?_
            replace hw := hw.2
            refine lv_icmp_eq (tgt := 83) hx hb dX6_growPairs_76 (by decide) (fun h => ?_) (fun h => ?_)
            · replace hw := hw.1 h
              refine lv_iconst (v := 0) hx hb dX6_growPairs_83 (by decide) ?_
              exact hw _ _ _ hP (lv_sub hl [2, 3, 5, 6, 1, 0] rfl)
            · replace hw := hw.2 h
              exact hw _ _ _ hP (lv_sub hl [2, 3, 5, 6, 1, 0] rfl)
theorem q_X6_findPairs_1 : (Cond.fieldLink RX6 18 "FaultTwins$Twins" "pairs" "[I") ∈ wsX6_findPairs := List.mem_of_getElem? (i := 1) (by decide +kernel)
theorem q_X6_findPairs_2 : (Cond.fieldLink RX6 9 "FaultTwins$Twins" "alone" "[I") ∈ wsX6_findPairs := List.mem_of_getElem? (i := 2) (by decide +kernel)
set_option maxHeartbeats 4000000 in
set_option maxRecDepth 100000 in
theorem c_X6_findPairs (l : Launch) (Γ : ft_G) (hI : cC_I Γ) (k : Nat) (hk : cC_K k = 6) (σ : ft_St) (Φ : ft_St → Prop) (hw : w_X6_findPairs k σ Φ) : cC_Mv l yX6_findPairs wsX6_findPairs ({ frames := 2, cells := 0, slots := 0, locals := 50 } : Room) Γ σ [.ref (Γ.2.2 k), .ref (Γ.2.2 2)] Φ := by
  refine Met.ofW (cc := cX6_findPairs) (maxL := 4) (ret := none) (by decide) rfl ?_
  intro p e s m args below meth c s₁ B hml hv
  obtain ⟨rfl, hP, hK, hN⟩ := hv
  have hx := B.exec
  have hb := B.bytes
  have hr := B.returns
  have hts := atoms_spec (ws := wsX6_findPairs) B.pre
  have hown : s.vm.findClass RX6 = some m.cls := findClass_of_methodNamed B.named
  have hlocks := B.notSynchronized
  have i6 : ∀ w ∈ wsX60, w ∈ wsX6_findPairs := fun w h => List.mem_cons_of_mem _ (List.mem_append_left _ (List.mem_append_right _ h))
  have hP : cC_P Γ s σ s.heap [] := ⟨hP, va_S.rf⟩
  have hl := lv_entry ([.ref (Γ.2.2 k), .ref (Γ.2.2 2)]) (n := 4) (Nat.le_of_ble_eq_true rfl)
  rw [lg_entry_eq]
  generalize (lg_sl ([.ref (Γ.2.2 k), .ref (Γ.2.2 2)]) ++ List.replicate (4 - (lg_sl ([.ref (Γ.2.2 k), .ref (Γ.2.2 2)])).length) Slot.unset).toArray = ls at hl ⊢
  have hl : lv_has ls 4 [(0, .ref (Γ.2.2 k)), (1, .ref (Γ.2.2 2))] := hl
  unfold w_X6_findPairs at hw
  refine lv_aload_n hx hb dX6_findPairs_0 rfl (lv_at hl 0 rfl) ?_
  refine gC_6_3 hx hb hts i6 hown hK hP hk (hts _ q_X6_findPairs_1) dX6_findPairs_1 ?_
  refine lv_iconst (v := 0) hx hb dX6_findPairs_4 (by decide) ?_
  refine cC_Sv (rest := []) ⟨hx, hb, hml, hown, hts⟩ (c_J7_fill_53178 l Γ hI (k + 3) (tC_6_3 hk) 0 σ _ hw) (va_cwS 2 hts gX6_findPairs_J7_fill_53178 rfl rfl rfl (by decide +kernel) ⟨Nat.le_of_ble_eq_true rfl, Nat.le_of_ble_eq_true rfl⟩) hK hN hP rfl hl.1 rfl (Nat.le_of_ble_eq_true rfl) dX6_findPairs_5 ⟨Nat.le_refl _, Nat.le_refl _⟩ (fun s1 H locs hw hP => ?_)
  refine lv_aload_n hx hb dX6_findPairs_8 rfl (lv_at hl 0 rfl) ?_
  refine gC_6_3 hx hb hts i6 hown hK hP hk (hts _ q_X6_findPairs_1) dX6_findPairs_9 ?_
  refine lv_iconst (v := 0) hx hb dX6_findPairs_12 (by decide) ?_
  refine lv_aload_n hx hb dX6_findPairs_13 rfl (lv_at hl 0 rfl) ?_
  refine gC_6_1 hx hb hts i6 hown hK hP hk (hts _ q_X6_findPairs_2) dX6_findPairs_14 ?_
  refine lv_iconst (v := 0) hx hb dX6_findPairs_17 (by decide) ?_
  refine aC_ld hx hb hK hP (tC_6_1 hk) (nC_6_1 hk) hw.1 dX6_findPairs_18 ?_
  replace hw := hw.2
  refine aC_st hx hb hK hI hP (tC_6_3 hk) (nC_6_3 hk) hw.1 dX6_findPairs_19 (fun H locs hP => ?_)
  replace hw := hw.2
  obtain ⟨s2, hs2⟩ : ∃ u, u = ft_sA s1 (k + 3) (upd (s1.2.1 (k + 3)) (Int32.toNatClampNeg 0) (s1.2.1 (k + 1) (Int32.toNatClampNeg 0))) := ⟨_, rfl⟩
  rw [← hs2] at hP
  replace hw := hw s2 hs2
  refine lv_iconst (v := 1) hx hb dX6_findPairs_20 (by decide) ?_
  refine lv_istore_n (lv' := [(2, .int 1), (0, .ref (Γ.2.2 k)), (1, .ref (Γ.2.2 2))]) hx hb dX6_findPairs_21 rfl hl (by decide) rfl (fun ls hl => ?_)
  refine lv_iconst (v := 0) hx hb dX6_findPairs_22 (by decide) ?_
  refine lv_istore_n (lv' := [(3, .int 0), (2, .int 1), (0, .ref (Γ.2.2 k)), (1, .ref (Γ.2.2 2))]) hx hb dX6_findPairs_23 rfl hl (by decide) rfl (fun ls hl => ?_)
  refine hw (fun (x3 : Int32) (x4 : Int32) (s5 : ft_St) => ∀ (H : Heap) (locs : List Loc) (ls : Array Slot), cC_P Γ s s5 H locs → lv_has ls 4 [(0, .ref (Γ.2.2 k)), (1, .ref (Γ.2.2 2)), (2, .int x3), (3, .int x4)] → cC_Wv p l e ({ frames := 2, cells := 0, slots := 0, locals := 50 } : Room) s m [.ref (Γ.2.2 k), .ref (Γ.2.2 2)] below meth c Γ Φ H locs 24 ls []) (fun x3 x4 s5 hw H locs ls hP hl => ?_) _ _ _ hP (lv_sub hl [2, 3, 1, 0] rfl)
  refine lv_iload_n hx hb dX6_findPairs_24 rfl (lv_at hl 3 rfl) ?_
  refine lv_sipush (v := 200) hx hb dX6_findPairs_25 (by decide) ?_
  refine lv_icmp_ge (tgt := 47) hx hb dX6_findPairs_28 (by decide) (fun h => ?_) (fun h => ?_)
  · replace hw := hw.1 h
    exact W.vret hx hb hr (cC_rv hP hw) hP.2.2.2 dX6_findPairs_47
  · replace hw := hw.2 h
    refine lv_iload_n hx hb dX6_findPairs_31 rfl (lv_at hl 2 rfl) ?_
    refine lv_if_eq (tgt := 47) hx hb dX6_findPairs_32 (by decide) (fun h => ?_) (fun h => ?_)
    · replace hw := hw.1 h
      exact W.vret hx hb hr (cC_rv hP hw) hP.2.2.2 dX6_findPairs_47
    · replace hw := hw.2 h
      refine lv_aload_n hx hb dX6_findPairs_35 rfl (lv_at hl 0 rfl) ?_
      refine lv_aload_n hx hb dX6_findPairs_36 rfl (lv_at hl 1 rfl) ?_
      refine cC_Vi (rest := []) ⟨hx, hb, hml, hown, hts⟩ (c_X6_growPairs l Γ hI k hk s5 _ hw) (cwV 1 hts gX6_findPairs_X6_growPairs rfl rfl rfl (by decide +kernel) ⟨Nat.le_of_ble_eq_true rfl, Nat.le_of_ble_eq_true rfl⟩) hK hN hP (cC_lt hk (by decide)) (cC_E6 hk) rfl rfl rfl hl.1 rfl (Nat.le_of_ble_eq_true rfl) dX6_findPairs_37 ⟨Nat.le_refl _, Nat.le_refl _⟩ (fun r7 s8 H locs hw hP => ?_)
      refine lv_istore_n (lv' := [(2, .int r7), (0, .ref (Γ.2.2 k)), (1, .ref (Γ.2.2 2)), (3, .int x4)]) hx hb dX6_findPairs_40 rfl hl (by decide) rfl (fun ls hl => ?_)
      refine lv_iinc (v := x4 + 1) (lv' := [(3, .int (x4 + 1)), (2, .int r7), (0, .ref (Γ.2.2 k)), (1, .ref (Γ.2.2 2))]) hx hb dX6_findPairs_41 hl (k := 3) rfl (congrArg (fun z => x4 + z) (by decide)) (by decide) rfl (fun ls hl => ?_)
      refine lv_goto (tgt := 24) hx hb dX6_findPairs_44 (by decide) ?_
      exact hw _ _ _ hP (lv_sub hl [2, 3, 1, 0] rfl)
theorem q_J6_bitCount_0f7a4_1 : (Cond.constant RJ6 265 (1431655765)) ∈ wsJ6_bitCount_0f7a4 := List.mem_of_getElem? (i := 1) (by decide +kernel)
theorem q_J6_bitCount_0f7a4_2 : (Cond.constant RJ6 266 (858993459)) ∈ wsJ6_bitCount_0f7a4 := List.mem_of_getElem? (i := 2) (by decide +kernel)
theorem q_J6_bitCount_0f7a4_3 : (Cond.constant RJ6 267 (252645135)) ∈ wsJ6_bitCount_0f7a4 := List.mem_of_getElem? (i := 3) (by decide +kernel)
set_option maxHeartbeats 4000000 in
set_option maxRecDepth 100000 in
theorem c_J6_bitCount_0f7a4 (l : Launch) (Γ : ft_G) (hI : cC_I Γ) (a0 : Int32) (σ : ft_St) (Φ : Int32 → Prop) (hw : w_J6_bitCount_0f7a4 a0  Φ) : cC_Mip l yJ6_bitCount_0f7a4 wsJ6_bitCount_0f7a4 ({ frames := 0, cells := 0, slots := 0, locals := 0 } : Room) Γ σ [.int a0] Φ := by
  refine Met.ofW (cc := cJ6_bitCount_0f7a4) (maxL := 1) (ret := (some .int)) (by decide) rfl ?_
  intro p e s m args below meth c s₁ B hml hv
  obtain ⟨rfl, hP, hK, hN⟩ := hv
  have hx := B.exec
  have hb := B.bytes
  have hr := B.returns
  have hts := atoms_spec (ws := wsJ6_bitCount_0f7a4) B.pre
  have hown : s.vm.findClass RJ6 = some m.cls := findClass_of_methodNamed B.named
  have hlocks := B.notSynchronized
  have hP : cC_P Γ s σ s.heap [] := ⟨hP, va_S.rf⟩
  have hl := lv_entry ([.int a0]) (n := 1) (Nat.le_of_ble_eq_true rfl)
  rw [lg_entry_eq]
  generalize (lg_sl ([.int a0]) ++ List.replicate (1 - (lg_sl ([.int a0])).length) Slot.unset).toArray = ls at hl ⊢
  have hl : lv_has ls 1 [(0, .int a0)] := hl
  unfold w_J6_bitCount_0f7a4 at hw
  refine lv_iload_n hx hb dJ6_bitCount_0f7a4_0 rfl (lv_at hl 0 rfl) ?_
  refine lv_iload_n hx hb dJ6_bitCount_0f7a4_1 rfl (lv_at hl 0 rfl) ?_
  refine lv_iconst (v := 1) hx hb dJ6_bitCount_0f7a4_2 (by decide) ?_
  refine lv_iushr hx hb dJ6_bitCount_0f7a4_3 rfl ?_
  refine lv_ldcw hx hb hown (hts _ q_J6_bitCount_0f7a4_1) dJ6_bitCount_0f7a4_4 ?_
  refine lv_iand hx hb dJ6_bitCount_0f7a4_7 ?_
  refine lv_isub hx hb dJ6_bitCount_0f7a4_8 ?_
  refine lv_topi (fun x1 ex1 => ?_)
  replace hw := hw x1 ex1
  refine lv_istore_n (lv' := [(0, .int x1)]) hx hb dJ6_bitCount_0f7a4_9 rfl hl (by decide) rfl (fun ls hl => ?_)
  refine lv_iload_n hx hb dJ6_bitCount_0f7a4_10 rfl (lv_at hl 0 rfl) ?_
  refine lv_ldcw hx hb hown (hts _ q_J6_bitCount_0f7a4_2) dJ6_bitCount_0f7a4_11 ?_
  refine lv_iand hx hb dJ6_bitCount_0f7a4_14 ?_
  refine lv_iload_n hx hb dJ6_bitCount_0f7a4_15 rfl (lv_at hl 0 rfl) ?_
  refine lv_iconst (v := 2) hx hb dJ6_bitCount_0f7a4_16 (by decide) ?_
  refine lv_iushr hx hb dJ6_bitCount_0f7a4_17 rfl ?_
  refine lv_ldcw hx hb hown (hts _ q_J6_bitCount_0f7a4_2) dJ6_bitCount_0f7a4_18 ?_
  refine lv_iand hx hb dJ6_bitCount_0f7a4_21 ?_
  refine lv_iadd hx hb dJ6_bitCount_0f7a4_22 ?_
  refine lv_topi (fun x2 ex2 => ?_)
  replace hw := hw x2 ex2
  refine lv_istore_n (lv' := [(0, .int x2)]) hx hb dJ6_bitCount_0f7a4_23 rfl hl (by decide) rfl (fun ls hl => ?_)
  refine lv_iload_n hx hb dJ6_bitCount_0f7a4_24 rfl (lv_at hl 0 rfl) ?_
  refine lv_iload_n hx hb dJ6_bitCount_0f7a4_25 rfl (lv_at hl 0 rfl) ?_
  refine lv_iconst (v := 4) hx hb dJ6_bitCount_0f7a4_26 (by decide) ?_
  refine lv_iushr hx hb dJ6_bitCount_0f7a4_27 rfl ?_
  refine lv_iadd hx hb dJ6_bitCount_0f7a4_28 ?_
  refine lv_ldcw hx hb hown (hts _ q_J6_bitCount_0f7a4_3) dJ6_bitCount_0f7a4_29 ?_
  refine lv_iand hx hb dJ6_bitCount_0f7a4_32 ?_
  refine lv_topi (fun x3 ex3 => ?_)
  replace hw := hw x3 ex3
  refine lv_istore_n (lv' := [(0, .int x3)]) hx hb dJ6_bitCount_0f7a4_33 rfl hl (by decide) rfl (fun ls hl => ?_)
  refine lv_iload_n hx hb dJ6_bitCount_0f7a4_34 rfl (lv_at hl 0 rfl) ?_
  refine lv_iload_n hx hb dJ6_bitCount_0f7a4_35 rfl (lv_at hl 0 rfl) ?_
  refine lv_bipush (v := 8) hx hb dJ6_bitCount_0f7a4_36 (by decide) ?_
  refine lv_iushr hx hb dJ6_bitCount_0f7a4_38 rfl ?_
  refine lv_iadd hx hb dJ6_bitCount_0f7a4_39 ?_
  refine lv_topi (fun x4 ex4 => ?_)
  replace hw := hw x4 ex4
  refine lv_istore_n (lv' := [(0, .int x4)]) hx hb dJ6_bitCount_0f7a4_40 rfl hl (by decide) rfl (fun ls hl => ?_)
  refine lv_iload_n hx hb dJ6_bitCount_0f7a4_41 rfl (lv_at hl 0 rfl) ?_
  refine lv_iload_n hx hb dJ6_bitCount_0f7a4_42 rfl (lv_at hl 0 rfl) ?_
  refine lv_bipush (v := 16) hx hb dJ6_bitCount_0f7a4_43 (by decide) ?_
  refine lv_iushr hx hb dJ6_bitCount_0f7a4_45 rfl ?_
  refine lv_iadd hx hb dJ6_bitCount_0f7a4_46 ?_
  refine lv_topi (fun x5 ex5 => ?_)
  replace hw := hw x5 ex5
  refine lv_istore_n (lv' := [(0, .int x5)]) hx hb dJ6_bitCount_0f7a4_47 rfl hl (by decide) rfl (fun ls hl => ?_)
  refine lv_iload_n hx hb dJ6_bitCount_0f7a4_48 rfl (lv_at hl 0 rfl) ?_
  refine lv_bipush (v := 63) hx hb dJ6_bitCount_0f7a4_49 (by decide) ?_
  refine lv_iand hx hb dJ6_bitCount_0f7a4_51 ?_
  exact W.iret hx hb hr (cC_ri hP ⟨rfl, hw⟩) hP.2.2.2 dJ6_bitCount_0f7a4_52
set_option maxHeartbeats 4000000 in
set_option maxRecDepth 100000 in
theorem c_X6_countOf (l : Launch) (Γ : ft_G) (hI : cC_I Γ) (k0 : Nat) (hk0 : cC_K k0 = 12) (a1 : Int32) (σ : ft_St) (Φ : Int32 → Prop) (hw : w_X6_countOf k0 a1 σ Φ) : cC_Mip l yX6_countOf wsX6_countOf ({ frames := 1, cells := 0, slots := 0, locals := 20 } : Room) Γ σ [.ref (Γ.2.2 k0), .int a1] Φ := by
  refine Met.ofW (cc := cX6_countOf) (maxL := 4) (ret := (some .int)) (by decide) rfl ?_
  intro p e s m args below meth c s₁ B hml hv
  obtain ⟨rfl, hP, hK, hN⟩ := hv
  have hx := B.exec
  have hb := B.bytes
  have hr := B.returns
  have hts := atoms_spec (ws := wsX6_countOf) B.pre
  have hown : s.vm.findClass RX6 = some m.cls := findClass_of_methodNamed B.named
  have hlocks := B.notSynchronized
  have hP : cC_P Γ s σ s.heap [] := ⟨hP, va_S.rf⟩
  have hl := lv_entry ([.ref (Γ.2.2 k0), .int a1]) (n := 4) (Nat.le_of_ble_eq_true rfl)
  rw [lg_entry_eq]
  generalize (lg_sl ([.ref (Γ.2.2 k0), .int a1]) ++ List.replicate (4 - (lg_sl ([.ref (Γ.2.2 k0), .int a1])).length) Slot.unset).toArray = ls at hl ⊢
  have hl : lv_has ls 4 [(0, .ref (Γ.2.2 k0)), (1, .int a1)] := hl
  unfold w_X6_countOf at hw
  refine lv_iconst (v := 0) hx hb dX6_countOf_0 (by decide) ?_
  refine lv_istore_n (lv' := [(2, .int 0), (0, .ref (Γ.2.2 k0)), (1, .int a1)]) hx hb dX6_countOf_1 rfl hl (by decide) rfl (fun ls hl => ?_)
  refine lv_iload_n hx hb dX6_countOf_2 rfl (lv_at hl 2 rfl) ?_
  refine lv_istore_n (lv' := [(3, .int a1), (2, .int 0), (0, .ref (Γ.2.2 k0)), (1, .int a1)]) hx hb dX6_countOf_3 rfl hl (by decide) rfl (fun ls hl => ?_)
  refine hw (fun (x1 : Int32) (x2 : Int32) => ∀ (H : Heap) (locs : List Loc) (ls : Array Slot), cC_P Γ s σ H locs → lv_has ls 4 [(0, .ref (Γ.2.2 k0)), (2, .int x1), (3, .int x2)] → cC_Wi p l e ({ frames := 1, cells := 0, slots := 0, locals := 20 } : Room) s m [.ref (Γ.2.2 k0), .int a1] below meth c Γ (fun r u => u = σ ∧ Φ r) H locs 4 ls []) (fun x1 x2 hw H locs ls hP hl => ?_) _ _ _ hP (lv_sub hl [2, 1, 0] rfl)
  refine lv_iload_n hx hb dX6_countOf_4 rfl (lv_at hl 2 rfl) ?_
  refine lv_aload_n hx hb dX6_countOf_5 rfl (lv_at hl 0 rfl) ?_
  refine aC_len hx hb hK hP hk0 dX6_countOf_6 ?_
  refine lv_icmp_ge (tgt := 25) hx hb dX6_countOf_7 (by decide) (fun h => ?_) (fun h => ?_)
  · replace hw := hw.1 h
    refine lv_iload_n hx hb dX6_countOf_25 rfl (lv_at hl 1 rfl) ?_
    exact W.iret hx hb hr (cC_ri hP ⟨rfl, hw⟩) hP.2.2.2 dX6_countOf_26
  · replace hw := hw.2 h
    refine lv_iload_n hx hb dX6_countOf_10 rfl (lv_at hl 1 rfl) ?_
    refine lv_aload_n hx hb dX6_countOf_11 rfl (lv_at hl 0 rfl) ?_
    refine lv_iload_n hx hb dX6_countOf_12 rfl (lv_at hl 2 rfl) ?_
    refine aC_ld hx hb hK hP hk0 rfl hw.1 dX6_countOf_13 ?_
    replace hw := hw.2
    refine cC_Sip (rest := [.int x1]) ⟨hx, hb, hml, hown, hts⟩ (c_J6_bitCount_0f7a4 l Γ hI (σ.2.1 k0 (Int32.toNatClampNeg x2)) σ _ hw) (va_cwS 1 hts gX6_countOf_J6_bitCount_0f7a4 rfl rfl rfl (by decide +kernel) ⟨Nat.le_of_ble_eq_true rfl, Nat.le_of_ble_eq_true rfl⟩) hK hN hP rfl hl.1 rfl (Nat.le_of_ble_eq_true rfl) dX6_countOf_14 ⟨Nat.le_refl _, Nat.le_refl _⟩ (fun r4 H locs hw hP => ?_)
    refine lv_iadd hx hb dX6_countOf_17 ?_
    refine lv_istore_n (lv' := [(2, .int (x1 + r4)), (0, .ref (Γ.2.2 k0)), (3, .int x2)]) hx hb dX6_countOf_18 rfl hl (by decide) rfl (fun ls hl => ?_)
    refine lv_iinc (v := x2 + 1) (lv' := [(3, .int (x2 + 1)), (2, .int (x1 + r4)), (0, .ref (Γ.2.2 k0))]) hx hb dX6_countOf_19 hl (k := 2) rfl (congrArg (fun z => x2 + z) (by decide)) (by decide) rfl (fun ls hl => ?_)
    refine lv_goto (tgt := 4) hx hb dX6_countOf_22 (by decide) ?_
    exact hw _ _ _ hP (lv_sub hl [2, 1, 0] rfl)
theorem q_X6_goOn_1 : (Cond.fieldLink RX6 55 "FaultTwins$Machine" "ways" "I") ∈ wsX6_goOn := List.mem_of_getElem? (i := 1) (by decide +kernel)
theorem q_X6_goOn_2 : (Cond.fieldLink RX6 73 "FaultTwins$Machine" "to" "[I") ∈ wsX6_goOn := List.mem_of_getElem? (i := 2) (by decide +kernel)
theorem q_X6_goOn_3 : (Cond.fieldLink RX6 60 "FaultTwins$Machine" "by" "[I") ∈ wsX6_goOn := List.mem_of_getElem? (i := 3) (by decide +kernel)
theorem q_X6_goOn_4 : (Cond.fieldLink RX6 70 "FaultTwins$Machine" "from" "[I") ∈ wsX6_goOn := List.mem_of_getElem? (i := 4) (by decide +kernel)
set_option maxHeartbeats 4000000 in
set_option maxRecDepth 100000 in
theorem c_X6_goOn (l : Launch) (Γ : ft_G) (hI : cC_I Γ) (k : Nat) (hk : cC_K k = 6) (k2 : Nat) (hk2 : cC_K k2 = 12) (k3 : Nat) (hk3 : cC_K k3 = 12) (σ : ft_St) (Φ : ft_St → Prop) (hw : w_X6_goOn k k2 k3 σ Φ) : cC_Mv l yX6_goOn wsX6_goOn ({ frames := 1, cells := 0, slots := 0, locals := 24 } : Room) Γ σ [.ref (Γ.2.2 k), .ref (Γ.2.2 2), .ref (Γ.2.2 k2), .ref (Γ.2.2 k3)] Φ := by
  refine Met.ofW (cc := cX6_goOn) (maxL := 5) (ret := none) (by decide) rfl ?_
  intro p e s m args below meth c s₁ B hml hv
  obtain ⟨rfl, hP, hK, hN⟩ := hv
  have hx := B.exec
  have hb := B.bytes
  have hr := B.returns
  have hts := atoms_spec (ws := wsX6_goOn) B.pre
  have hown : s.vm.findClass RX6 = some m.cls := findClass_of_methodNamed B.named
  have hlocks := B.notSynchronized
  have i1 : ∀ w ∈ wsX10, w ∈ wsX6_goOn := fun w h => List.mem_cons_of_mem _ (List.mem_append_left _ (List.mem_append_right _ h))
  have hP : cC_P Γ s σ s.heap [] := ⟨hP, va_S.rf⟩
  have hl := lv_entry ([.ref (Γ.2.2 k), .ref (Γ.2.2 2), .ref (Γ.2.2 k2), .ref (Γ.2.2 k3)]) (n := 5) (Nat.le_of_ble_eq_true rfl)
  rw [lg_entry_eq]
  generalize (lg_sl ([.ref (Γ.2.2 k), .ref (Γ.2.2 2), .ref (Γ.2.2 k2), .ref (Γ.2.2 k3)]) ++ List.replicate (5 - (lg_sl ([.ref (Γ.2.2 k), .ref (Γ.2.2 2), .ref (Γ.2.2 k2), .ref (Γ.2.2 k3)])).length) Slot.unset).toArray = ls at hl ⊢
  have hl : lv_has ls 5 [(0, .ref (Γ.2.2 k)), (1, .ref (Γ.2.2 2)), (2, .ref (Γ.2.2 k2)), (3, .ref (Γ.2.2 k3))] := hl
  unfold w_X6_goOn at hw
  refine lv_aload_n hx hb dX6_goOn_0 rfl (lv_at hl 3 rfl) ?_
  refine lv_iconst (v := 0) hx hb dX6_goOn_1 (by decide) ?_
  refine cC_Sv (rest := []) ⟨hx, hb, hml, hown, hts⟩ (c_J7_fill_53178 l Γ hI k3 hk3 0 σ _ hw) (va_cwS 2 hts gX6_goOn_J7_fill_53178 rfl rfl rfl (by decide +kernel) ⟨Nat.le_of_ble_eq_true rfl, Nat.le_of_ble_eq_true rfl⟩) hK hN hP rfl hl.1 rfl (Nat.le_of_ble_eq_true rfl) dX6_goOn_2 ⟨Nat.le_refl _, Nat.le_refl _⟩ (fun s1 H locs hw hP => ?_)
  refine lv_iconst (v := 0) hx hb dX6_goOn_5 (by decide) ?_
  refine lv_istore (lv' := [(4, .int 0), (0, .ref (Γ.2.2 k)), (1, .ref (Γ.2.2 2)), (2, .ref (Γ.2.2 k2)), (3, .ref (Γ.2.2 k3))]) hx hb dX6_goOn_6 hl (by decide) rfl (fun ls hl => ?_)
  refine hw (fun (x2 : Int32) (s3 : ft_St) => ∀ (H : Heap) (locs : List Loc) (ls : Array Slot), cC_P Γ s s3 H locs → lv_has ls 5 [(0, .ref (Γ.2.2 k)), (1, .ref (Γ.2.2 2)), (2, .ref (Γ.2.2 k2)), (3, .ref (Γ.2.2 k3)), (4, .int x2)] → cC_Wv p l e ({ frames := 1, cells := 0, slots := 0, locals := 24 } : Room) s m [.ref (Γ.2.2 k), .ref (Γ.2.2 2), .ref (Γ.2.2 k2), .ref (Γ.2.2 k3)] below meth c Γ Φ H locs 8 ls []) (fun x2 s3 hw H locs ls hP hl => ?_) _ _ _ hP (lv_sub hl [1, 2, 3, 4, 0] rfl)
  refine lv_iload hx hb dX6_goOn_8 (lv_at hl 4 rfl) ?_
  refine lv_aload_n hx hb dX6_goOn_10 rfl (lv_at hl 1 rfl) ?_
  refine gC_1_3 hx hb hts i1 hown hK hP hC_2 (hts _ q_X6_goOn_1) dX6_goOn_11 ?_
  refine lv_icmp_ge (tgt := 55) hx hb dX6_goOn_14 (by decide) (fun h => ?_) (fun h => ?_)
  · replace hw := hw.1 h
    exact W.vret hx hb hr (cC_rv hP hw) hP.2.2.2 dX6_goOn_55
  · replace hw := hw.2 h
    refine lv_aload_n hx hb dX6_goOn_17 rfl (lv_at hl 3 rfl) ?_
    refine lv_aload_n hx hb dX6_goOn_18 rfl (lv_at hl 1 rfl) ?_
    refine gC_1_2 hx hb hts i1 hown hK hP hC_2 (hts _ q_X6_goOn_2) dX6_goOn_19 ?_
    refine lv_iload hx hb dX6_goOn_22 (lv_at hl 4 rfl) ?_
    refine aC_ld hx hb hK hP hC_5 mC_5 hw.1 dX6_goOn_24 ?_
    replace hw := hw.2
    refine lv_dup2_11 hx hb dX6_goOn_25 rfl rfl ?_
    refine aC_ld hx hb hK hP hk3 rfl hw.1 dX6_goOn_26 ?_
    replace hw := hw.2
    refine lv_aload_n hx hb dX6_goOn_27 rfl (lv_at hl 0 rfl) ?_
    refine lv_aload_n hx hb dX6_goOn_28 rfl (lv_at hl 1 rfl) ?_
    refine gC_1_1 hx hb hts i1 hown hK hP hC_2 (hts _ q_X6_goOn_3) dX6_goOn_29 ?_
    refine lv_iload hx hb dX6_goOn_32 (lv_at hl 4 rfl) ?_
    refine aC_ld hx hb hK hP hC_4 mC_4 hw.1 dX6_goOn_34 ?_
    replace hw := hw.2
    refine lv_aload_n hx hb dX6_goOn_35 rfl (lv_at hl 2 rfl) ?_
    refine lv_aload_n hx hb dX6_goOn_36 rfl (lv_at hl 1 rfl) ?_
    refine gC_1_0 hx hb hts i1 hown hK hP hC_2 (hts _ q_X6_goOn_4) dX6_goOn_37 ?_
    refine lv_iload hx hb dX6_goOn_40 (lv_at hl 4 rfl) ?_
    refine aC_ld hx hb hK hP hC_3 mC_3 hw.1 dX6_goOn_42 ?_
    replace hw := hw.2
    refine aC_ld hx hb hK hP hk2 rfl hw.1 dX6_goOn_43 ?_
    replace hw := hw.2
    refine cC_Vip (rest := [.int (s3.2.1 k3 (Int32.toNatClampNeg (s3.2.1 5 (Int32.toNatClampNeg x2)))), .int (s3.2.1 5 (Int32.toNatClampNeg x2)), .ref (Γ.2.2 k3)]) ⟨hx, hb, hml, hown, hts⟩ (c_X6_partners l Γ hI k hk (s3.2.1 4 (Int32.toNatClampNeg x2)) (s3.2.1 k2 (Int32.toNatClampNeg (s3.2.1 3 (Int32.toNatClampNeg x2)))) s3 _ hw) (cwV 2 hts gX6_goOn_X6_partners rfl rfl rfl (by decide +kernel) ⟨Nat.le_of_ble_eq_true rfl, Nat.le_of_ble_eq_true rfl⟩) hK hN hP (cC_lt hk (by decide)) (cC_E6 hk) rfl rfl rfl hl.1 rfl (Nat.le_of_ble_eq_true rfl) dX6_goOn_44 ⟨Nat.le_refl _, Nat.le_refl _⟩ (fun r5 H locs hw hP => ?_)
    refine lv_ior hx hb dX6_goOn_47 ?_
    refine aC_st hx hb hK hI hP hk3 rfl hw.1 dX6_goOn_48 (fun H locs hP => ?_)
    replace hw := hw.2
    obtain ⟨s6, hs6⟩ : ∃ u, u = ft_sA s3 k3 (upd (s3.2.1 k3) (Int32.toNatClampNeg (s3.2.1 5 (Int32.toNatClampNeg x2))) ((s3.2.1 k3 (Int32.toNatClampNeg (s3.2.1 5 (Int32.toNatClampNeg x2)))) ||| r5)) := ⟨_, rfl⟩
    rw [← hs6] at hP
    replace hw := hw s6 hs6
    refine lv_iinc (v := x2 + 1) (lv' := [(4, .int (x2 + 1)), (0, .ref (Γ.2.2 k)), (1, .ref (Γ.2.2 2)), (2, .ref (Γ.2.2 k2)), (3, .ref (Γ.2.2 k3))]) hx hb dX6_goOn_49 hl (k := 4) rfl (congrArg (fun z => x2 + z) (by decide)) (by decide) rfl (fun ls hl => ?_)
    refine lv_goto (tgt := 8) hx hb dX6_goOn_52 (by decide) ?_
    exact hw _ _ _ hP (lv_sub hl [1, 2, 3, 4, 0] rfl)
theorem q_X6_findDelay_1 : (Cond.fieldLink RX6 18 "FaultTwins$Twins" "pairs" "[I") ∈ wsX6_findDelay := List.mem_of_getElem? (i := 1) (by decide +kernel)
theorem q_X6_findDelay_2 : (Cond.fieldLink RX6 21 "FaultTwins$Twins" "here" "[I") ∈ wsX6_findDelay := List.mem_of_getElem? (i := 2) (by decide +kernel)
theorem q_X6_findDelay_3 : (Cond.methodLink RX6 92 arraycopyName) ∈ wsX6_findDelay := List.mem_of_getElem? (i := 3) (by decide +kernel)
theorem q_X6_findDelay_4 : (Cond.native arraycopyName) ∈ wsX6_findDelay := List.mem_of_getElem? (i := 4) (by decide +kernel)
theorem q_X6_findDelay_5 : (Cond.static arraycopyName) ∈ wsX6_findDelay := List.mem_of_getElem? (i := 5) (by decide +kernel)
theorem q_X6_findDelay_6 : (Cond.initialized "java/lang/System") ∈ wsX6_findDelay := List.mem_of_getElem? (i := 6) (by decide +kernel)
theorem q_X6_findDelay_7 : (Cond.fieldLink RX6 24 "FaultTwins$Twins" "ahead" "[I") ∈ wsX6_findDelay := List.mem_of_getElem? (i := 7) (by decide +kernel)
set_option maxHeartbeats 4000000 in
set_option maxRecDepth 100000 in
theorem c_X6_findDelay (l : Launch) (Γ : ft_G) (hI : cC_I Γ) (k : Nat) (hk : cC_K k = 6) (σ : ft_St) (Φ : Int32 → ft_St → Prop) (hw : w_X6_findDelay k σ Φ) : cC_Mi l yX6_findDelay wsX6_findDelay ({ frames := 2, cells := 0, slots := 0, locals := 60 } : Room) Γ σ [.ref (Γ.2.2 k), .ref (Γ.2.2 2)] Φ := by
  refine Met.ofW (cc := cX6_findDelay) (maxL := 5) (ret := (some .int)) (by decide) rfl ?_
  intro p e s m args below meth c s₁ B hml hv
  obtain ⟨rfl, hP, hK, hN⟩ := hv
  have hx := B.exec
  have hb := B.bytes
  have hr := B.returns
  have hts := atoms_spec (ws := wsX6_findDelay) B.pre
  have hown : s.vm.findClass RX6 = some m.cls := findClass_of_methodNamed B.named
  have hlocks := B.notSynchronized
  have i6 : ∀ w ∈ wsX60, w ∈ wsX6_findDelay := fun w h => List.mem_cons_of_mem _ (List.mem_append_left _ (List.mem_append_right _ h))
  have hP : cC_P Γ s σ s.heap [] := ⟨hP, va_S.rf⟩
  have hl := lv_entry ([.ref (Γ.2.2 k), .ref (Γ.2.2 2)]) (n := 5) (Nat.le_of_ble_eq_true rfl)
  rw [lg_entry_eq]
  generalize (lg_sl ([.ref (Γ.2.2 k), .ref (Γ.2.2 2)]) ++ List.replicate (5 - (lg_sl ([.ref (Γ.2.2 k), .ref (Γ.2.2 2)])).length) Slot.unset).toArray = ls at hl ⊢
  have hl : lv_has ls 5 [(0, .ref (Γ.2.2 k)), (1, .ref (Γ.2.2 2))] := hl
  unfold w_X6_findDelay at hw
  refine lv_aload_n hx hb dX6_findDelay_0 rfl (lv_at hl 0 rfl) ?_
  refine gC_6_3 hx hb hts i6 hown hK hP hk (hts _ q_X6_findDelay_1) dX6_findDelay_1 ?_
  refine lv_bipush (v := 10) hx hb dX6_findDelay_4 (by decide) ?_
  refine lv_aload_n hx hb dX6_findDelay_6 rfl (lv_at hl 0 rfl) ?_
  refine gC_6_5 hx hb hts i6 hown hK hP hk (hts _ q_X6_findDelay_2) dX6_findDelay_7 ?_
  refine lv_iconst (v := 0) hx hb dX6_findDelay_10 (by decide) ?_
  refine lv_bipush (v := 10) hx hb dX6_findDelay_11 (by decide) ?_
  refine cC_copy hx hb (by rw [hml]; exact hl.1.symm) hown (hts _ q_X6_findDelay_3) (hts _ q_X6_findDelay_4) (hts _ q_X6_findDelay_5) (hts _ q_X6_findDelay_6) hK hI hP (tC_6_3 hk) (tC_6_5 hk) (nC_6_3 hk) (nC_6_5 hk) (by decide) (by decide) (by decide) (by decide) (by decide) (by decide) (by decide) dX6_findDelay_13 (fun H locs hP => ?_)
  obtain ⟨s1, hs1⟩ : ∃ u, u = ft_sA σ (k + 4) (va_cpy (σ.2.1 (k + 3)) (σ.2.1 (k + 4)) (Int32.toNatClampNeg 10) (Int32.toNatClampNeg 0) (Int32.toNatClampNeg 10)) := ⟨_, rfl⟩
  rw [← hs1] at hP
  replace hw := hw s1 hs1
  refine lv_aload_n hx hb dX6_findDelay_16 rfl (lv_at hl 0 rfl) ?_
  refine gC_6_5 hx hb hts i6 hown hK hP hk (hts _ q_X6_findDelay_2) dX6_findDelay_17 ?_
  refine lv_iconst (v := 0) hx hb dX6_findDelay_20 (by decide) ?_
  refine cC_Sip (rest := []) ⟨hx, hb, hml, hown, hts⟩ (c_X6_countOf l Γ hI (k + 4) (tC_6_5 hk) 0 s1 _ hw) (va_cwS 2 hts gX6_findDelay_X6_countOf rfl rfl rfl (by decide +kernel) ⟨Nat.le_of_ble_eq_true rfl, Nat.le_of_ble_eq_true rfl⟩) hK hN hP rfl hl.1 rfl (Nat.le_of_ble_eq_true rfl) dX6_findDelay_21 ⟨Nat.le_refl _, Nat.le_refl _⟩ (fun r2 H locs hw hP => ?_)
  refine lv_istore_n (lv' := [(2, .int r2), (0, .ref (Γ.2.2 k)), (1, .ref (Γ.2.2 2))]) hx hb dX6_findDelay_24 rfl hl (by decide) rfl (fun ls hl => ?_)
  refine lv_iconst (v := 0) hx hb dX6_findDelay_25 (by decide) ?_
  refine lv_istore_n (lv' := [(3, .int 0), (2, .int r2), (0, .ref (Γ.2.2 k)), (1, .ref (Γ.2.2 2))]) hx hb dX6_findDelay_26 rfl hl (by decide) rfl (fun ls hl => ?_)
  refine hw (fun (x3 : Int32) (x4 : Int32) (s5 : ft_St) => ∀ (H : Heap) (locs : List Loc) (ls : Array Slot), cC_P Γ s s5 H locs → lv_has ls 5 [(0, .ref (Γ.2.2 k)), (1, .ref (Γ.2.2 2)), (2, .int x3), (3, .int x4)] → cC_Wi p l e ({ frames := 2, cells := 0, slots := 0, locals := 60 } : Room) s m [.ref (Γ.2.2 k), .ref (Γ.2.2 2)] below meth c Γ Φ H locs 27 ls []) (fun x3 x4 s5 hw H locs ls hP hl => ?_) _ _ _ hP (lv_sub hl [2, 3, 1, 0] rfl)
  refine lv_iload_n hx hb dX6_findDelay_27 rfl (lv_at hl 3 rfl) ?_
  refine lv_bipush (v := 100) hx hb dX6_findDelay_28 (by decide) ?_
  refine lv_icmp_gt (tgt := 95) hx hb dX6_findDelay_30 (by decide) (fun h => ?_) (fun h => ?_)
  · replace hw := hw.1 h
    refine lv_iconst (v := (-1)) hx hb dX6_findDelay_95 (by decide) ?_
    exact W.iret hx hb hr (cC_ri hP hw) hP.2.2.2 dX6_findDelay_96
  · replace hw := hw.2 h
    refine lv_aload_n hx hb dX6_findDelay_33 rfl (lv_at hl 0 rfl) ?_
    refine lv_aload_n hx hb dX6_findDelay_34 rfl (lv_at hl 1 rfl) ?_
    refine lv_aload_n hx hb dX6_findDelay_35 rfl (lv_at hl 0 rfl) ?_
    refine gC_6_5 hx hb hts i6 hown hK hP hk (hts _ q_X6_findDelay_2) dX6_findDelay_36 ?_
    refine lv_aload_n hx hb dX6_findDelay_39 rfl (lv_at hl 0 rfl) ?_
    refine gC_6_6 hx hb hts i6 hown hK hP hk (hts _ q_X6_findDelay_7) dX6_findDelay_40 ?_
    refine cC_Vv (rest := []) ⟨hx, hb, hml, hown, hts⟩ (c_X6_goOn l Γ hI k hk (k + 4) (tC_6_5 hk) (k + 5) (tC_6_6 hk) s5 _ hw) (cwV 3 hts gX6_findDelay_X6_goOn rfl rfl rfl (by decide +kernel) ⟨Nat.le_of_ble_eq_true rfl, Nat.le_of_ble_eq_true rfl⟩) hK hN hP (cC_lt hk (by decide)) (cC_E6 hk) rfl rfl rfl hl.1 rfl (Nat.le_of_ble_eq_true rfl) dX6_findDelay_43 ⟨Nat.le_refl _, Nat.le_refl _⟩ (fun s7 H locs hw hP => ?_)
    refine lv_aload_n hx hb dX6_findDelay_46 rfl (lv_at hl 0 rfl) ?_
    refine gC_6_6 hx hb hts i6 hown hK hP hk (hts _ q_X6_findDelay_7) dX6_findDelay_47 ?_
    refine lv_iconst (v := 0) hx hb dX6_findDelay_50 (by decide) ?_
    refine cC_Sip (rest := []) ⟨hx, hb, hml, hown, hts⟩ (c_X6_countOf l Γ hI (k + 5) (tC_6_6 hk) 0 s7 _ hw) (va_cwS 2 hts gX6_findDelay_X6_countOf rfl rfl rfl (by decide +kernel) ⟨Nat.le_of_ble_eq_true rfl, Nat.le_of_ble_eq_true rfl⟩) hK hN hP rfl hl.1 rfl (Nat.le_of_ble_eq_true rfl) dX6_findDelay_51 ⟨Nat.le_refl _, Nat.le_refl _⟩ (fun r8 H locs hw hP => ?_)
    refine lv_istore (lv' := [(4, .int r8), (0, .ref (Γ.2.2 k)), (1, .ref (Γ.2.2 2)), (2, .int x3), (3, .int x4)]) hx hb dX6_findDelay_54 hl (by decide) rfl (fun ls hl => ?_)
    refine lv_iload hx hb dX6_findDelay_56 (lv_at hl 0 rfl) ?_
    refine lv_if_ne (tgt := 63) hx hb dX6_findDelay_58 (by decide) (fun h => ?_) (fun h => ?_)
    · replace hw := hw.1 h
      refine lv_iload hx hb dX6_findDelay_63 (lv_at hl 0 rfl) ?_
      refine lv_iload_n hx hb dX6_findDelay_65 rfl (lv_at hl 3 rfl) ?_
      refine lv_icmp_ne (tgt := 71) hx hb dX6_findDelay_66 (by decide) (fun h => ?_) (fun h => ?_)
      · replace hw := hw.1 h
        refine lv_aload_n hx hb dX6_findDelay_71 rfl (lv_at hl 1 rfl) ?_
        refine gC_6_6 hx hb hts i6 hown hK hP hk (hts _ q_X6_findDelay_7) dX6_findDelay_72 ?_
        refine lv_iconst (v := 0) hx hb dX6_findDelay_75 (by decide) ?_
        refine lv_aload_n hx hb dX6_findDelay_76 rfl (lv_at hl 1 rfl) ?_
        refine gC_6_5 hx hb hts i6 hown hK hP hk (hts _ q_X6_findDelay_2) dX6_findDelay_77 ?_
        refine lv_iconst (v := 0) hx hb dX6_findDelay_80 (by decide) ?_
        refine lv_bipush (v := 10) hx hb dX6_findDelay_81 (by decide) ?_
        refine cC_copy hx hb (by rw [hml]; exact hl.1.symm) hown (hts _ q_X6_findDelay_3) (hts _ q_X6_findDelay_4) (hts _ q_X6_findDelay_5) (hts _ q_X6_findDelay_6) hK hI hP (tC_6_6 hk) (tC_6_5 hk) (nC_6_6 hk) (nC_6_5 hk) (by decide) (by decide) (by decide) (by decide) (by decide) (by decide) (by decide) dX6_findDelay_83 (fun H locs hP => ?_)
        obtain ⟨s9, hs9⟩ : ∃ u, u = ft_sA s7 (k + 4) (va_cpy (s7.2.1 (k + 5)) (s7.2.1 (k + 4)) (Int32.toNatClampNeg 0) (Int32.toNatClampNeg 0) (Int32.toNatClampNeg 10)) := ⟨_, rfl⟩
        rw [← hs9] at hP
        replace hw := hw s9 hs9
        refine lv_iload hx hb dX6_findDelay_86 (lv_at hl 0 rfl) ?_
        refine lv_istore_n (lv' := [(2, .int r8), (4, .int r8), (0, .ref (Γ.2.2 k)), (1, .ref (Γ.2.2 2)), (3, .int x4)]) hx hb dX6_findDelay_88 rfl hl (by decide) rfl (fun ls hl => ?_)
        refine lv_iinc (v := x4 + 1) (lv' := [(3, .int (x4 + 1)), (2, .int r8), (4, .int r8), (0, .ref (Γ.2.2 k)), (1, .ref (Γ.2.2 2))]) hx hb dX6_findDelay_89 hl (k := 4) rfl (congrArg (fun z => x4 + z) (by decide)) (by decide) rfl (fun ls hl => ?_)
        refine lv_goto (tgt := 27) hx hb dX6_findDelay_92 (by decide) ?_
        exact hw _ _ _ hP (lv_sub hl [3, 4, 1, 0] rfl)
      · replace hw := hw.2 h
        refine lv_iconst (v := (-1)) hx hb dX6_findDelay_69 (by decide) ?_
        exact W.iret hx hb hr (cC_ri hP hw) hP.2.2.2 dX6_findDelay_70
    · replace hw := hw.2 h
      refine lv_iload_n hx hb dX6_findDelay_61 rfl (lv_at hl 4 rfl) ?_
      exact W.iret hx hb hr (cC_ri hP hw) hP.2.2.2 dX6_findDelay_62
theorem q_X6_find_1 : (Cond.fieldLink RX6 30 "FaultTwins$Twins" "seen" "I") ∈ wsX6_find := List.mem_of_getElem? (i := 1) (by decide +kernel)
theorem q_X6_find_2 : (Cond.fieldLink RX6 48 "FaultTwins$Twins" "delay" "I") ∈ wsX6_find := List.mem_of_getElem? (i := 2) (by decide +kernel)
set_option maxHeartbeats 4000000 in
set_option maxRecDepth 100000 in
theorem c_X6_find (l : Launch) (Γ : ft_G) (hI : cC_I Γ) (k : Nat) (hk : cC_K k = 6) (a2 : Int32) (σ : ft_St) (Φ : ft_St → Prop) (hw : w_X6_find k a2 σ Φ) : cC_Mv l yX6_find wsX6_find ({ frames := 3, cells := 0, slots := 0, locals := 84 } : Room) Γ σ [.ref (Γ.2.2 k), .ref (Γ.2.2 2), .int a2] Φ := by
  refine Met.ofW (cc := cX6_find) (maxL := 3) (ret := none) (by decide) rfl ?_
  intro p e s m args below meth c s₁ B hml hv
  obtain ⟨rfl, hP, hK, hN⟩ := hv
  have hx := B.exec
  have hb := B.bytes
  have hr := B.returns
  have hts := atoms_spec (ws := wsX6_find) B.pre
  have hown : s.vm.findClass RX6 = some m.cls := findClass_of_methodNamed B.named
  have hlocks := B.notSynchronized
  have i6 : ∀ w ∈ wsX60, w ∈ wsX6_find := fun w h => List.mem_cons_of_mem _ (List.mem_append_left _ (List.mem_append_right _ h))
  have hP : cC_P Γ s σ s.heap [] := ⟨hP, va_S.rf⟩
  have hl := lv_entry ([.ref (Γ.2.2 k), .ref (Γ.2.2 2), .int a2]) (n := 3) (Nat.le_of_ble_eq_true rfl)
  rw [lg_entry_eq]
  generalize (lg_sl ([.ref (Γ.2.2 k), .ref (Γ.2.2 2), .int a2]) ++ List.replicate (3 - (lg_sl ([.ref (Γ.2.2 k), .ref (Γ.2.2 2), .int a2])).length) Slot.unset).toArray = ls at hl ⊢
  have hl : lv_has ls 3 [(0, .ref (Γ.2.2 k)), (1, .ref (Γ.2.2 2)), (2, .int a2)] := hl
  unfold w_X6_find at hw
  refine lv_aload_n hx hb dX6_find_0 rfl (lv_at hl 0 rfl) ?_
  refine lv_iload_n hx hb dX6_find_1 rfl (lv_at hl 2 rfl) ?_
  refine pC_6_0 hx hb hts i6 hown hK hI hP hk (hts _ q_X6_find_1) dX6_find_2 (fun H locs hP => ?_)
  obtain ⟨s1, hs1⟩ : ∃ u, u = ft_sF σ k 0 a2 := ⟨_, rfl⟩
  rw [← hs1] at hP
  replace hw := hw s1 hs1
  refine lv_aload_n hx hb dX6_find_5 rfl (lv_at hl 0 rfl) ?_
  refine lv_aload_n hx hb dX6_find_6 rfl (lv_at hl 1 rfl) ?_
  refine cC_Vv (rest := []) ⟨hx, hb, hml, hown, hts⟩ (c_X6_findAlone l Γ hI k hk s1 _ hw) (cwV 1 hts gX6_find_X6_findAlone rfl rfl rfl (by decide +kernel) ⟨Nat.le_of_ble_eq_true rfl, Nat.le_of_ble_eq_true rfl⟩) hK hN hP (cC_lt hk (by decide)) (cC_E6 hk) rfl rfl rfl hl.1 rfl (Nat.le_of_ble_eq_true rfl) dX6_find_7 ⟨Nat.le_refl _, Nat.le_refl _⟩ (fun s2 H locs hw hP => ?_)
  refine lv_aload_n hx hb dX6_find_10 rfl (lv_at hl 0 rfl) ?_
  refine lv_aload_n hx hb dX6_find_11 rfl (lv_at hl 1 rfl) ?_
  refine cC_Vv (rest := []) ⟨hx, hb, hml, hown, hts⟩ (c_X6_findAlong l Γ hI k hk s2 _ hw) (cwV 1 hts gX6_find_X6_findAlong rfl rfl rfl (by decide +kernel) ⟨Nat.le_of_ble_eq_true rfl, Nat.le_of_ble_eq_true rfl⟩) hK hN hP (cC_lt hk (by decide)) (cC_E6 hk) rfl rfl rfl hl.1 rfl (Nat.le_of_ble_eq_true rfl) dX6_find_12 ⟨Nat.le_refl _, Nat.le_refl _⟩ (fun s3 H locs hw hP => ?_)
  refine lv_aload_n hx hb dX6_find_15 rfl (lv_at hl 0 rfl) ?_
  refine lv_aload_n hx hb dX6_find_16 rfl (lv_at hl 1 rfl) ?_
  refine cC_Vv (rest := []) ⟨hx, hb, hml, hown, hts⟩ (c_X6_findPairs l Γ hI k hk s3 _ hw) (cwV 1 hts gX6_find_X6_findPairs rfl rfl rfl (by decide +kernel) ⟨Nat.le_of_ble_eq_true rfl, Nat.le_of_ble_eq_true rfl⟩) hK hN hP (cC_lt hk (by decide)) (cC_E6 hk) rfl rfl rfl hl.1 rfl (Nat.le_of_ble_eq_true rfl) dX6_find_17 ⟨Nat.le_refl _, Nat.le_refl _⟩ (fun s4 H locs hw hP => ?_)
  refine lv_aload_n hx hb dX6_find_20 rfl (lv_at hl 0 rfl) ?_
  refine lv_aload_n hx hb dX6_find_21 rfl (lv_at hl 0 rfl) ?_
  refine lv_aload_n hx hb dX6_find_22 rfl (lv_at hl 1 rfl) ?_
  refine cC_Vi (rest := [.ref (Γ.2.2 k)]) ⟨hx, hb, hml, hown, hts⟩ (c_X6_findDelay l Γ hI k hk s4 _ hw) (cwV 1 hts gX6_find_X6_findDelay rfl rfl rfl (by decide +kernel) ⟨Nat.le_of_ble_eq_true rfl, Nat.le_of_ble_eq_true rfl⟩) hK hN hP (cC_lt hk (by decide)) (cC_E6 hk) rfl rfl rfl hl.1 rfl (Nat.le_of_ble_eq_true rfl) dX6_find_23 ⟨Nat.le_refl _, Nat.le_refl _⟩ (fun r5 s6 H locs hw hP => ?_)
  refine pC_6_4 hx hb hts i6 hown hK hI hP hk (hts _ q_X6_find_2) dX6_find_26 (fun H locs hP => ?_)
  obtain ⟨s7, hs7⟩ : ∃ u, u = ft_sF s6 k 4 r5 := ⟨_, rfl⟩
  rw [← hs7] at hP
  replace hw := hw s7 hs7
  exact W.vret hx hb hr (cC_rv hP hw) hP.2.2.2 dX6_find_29
theorem q_X6_addAheadToGone_1 : (Cond.fieldLink RX6 24 "FaultTwins$Twins" "ahead" "[I") ∈ wsX6_addAheadToGone := List.mem_of_getElem? (i := 1) (by decide +kernel)
theorem q_X6_addAheadToGone_2 : (Cond.fieldLink RX6 27 "FaultTwins$Twins" "gone" "[I") ∈ wsX6_addAheadToGone := List.mem_of_getElem? (i := 2) (by decide +kernel)
set_option maxHeartbeats 4000000 in
set_option maxRecDepth 100000 in
theorem c_X6_addAheadToGone (l : Launch) (Γ : ft_G) (hI : cC_I Γ) (k : Nat) (hk : cC_K k = 6) (σ : ft_St) (Φ : Int32 → ft_St → Prop) (hw : w_X6_addAheadToGone k σ Φ) : cC_Mi l yX6_addAheadToGone wsX6_addAheadToGone ({ frames := 0, cells := 0, slots := 0, locals := 0 } : Room) Γ σ [.ref (Γ.2.2 k)] Φ := by
  refine Met.ofW (cc := cX6_addAheadToGone) (maxL := 3) (ret := (some .boolean)) (by decide) rfl ?_
  intro p e s m args below meth c s₁ B hml hv
  obtain ⟨rfl, hP, hK, hN⟩ := hv
  have hx := B.exec
  have hb := B.bytes
  have hr := B.returns
  have hts := atoms_spec (ws := wsX6_addAheadToGone) B.pre
  have hown : s.vm.findClass RX6 = some m.cls := findClass_of_methodNamed B.named
  have hlocks := B.notSynchronized
  have i6 : ∀ w ∈ wsX60, w ∈ wsX6_addAheadToGone := fun w h => List.mem_cons_of_mem _ (List.mem_append_right _ h)
  have hP : cC_P Γ s σ s.heap [] := ⟨hP, va_S.rf⟩
  have hl := lv_entry ([.ref (Γ.2.2 k)]) (n := 3) (Nat.le_of_ble_eq_true rfl)
  rw [lg_entry_eq]
  generalize (lg_sl ([.ref (Γ.2.2 k)]) ++ List.replicate (3 - (lg_sl ([.ref (Γ.2.2 k)])).length) Slot.unset).toArray = ls at hl ⊢
  have hl : lv_has ls 3 [(0, .ref (Γ.2.2 k))] := hl
  unfold w_X6_addAheadToGone at hw
  refine lv_iconst (v := 0) hx hb dX6_addAheadToGone_0 (by decide) ?_
  refine lv_istore_n (lv' := [(1, .int 0), (0, .ref (Γ.2.2 k))]) hx hb dX6_addAheadToGone_1 rfl hl (by decide) rfl (fun ls hl => ?_)
  refine lv_iconst (v := 0) hx hb dX6_addAheadToGone_2 (by decide) ?_
  refine lv_istore_n (lv' := [(2, .int 0), (1, .int 0), (0, .ref (Γ.2.2 k))]) hx hb dX6_addAheadToGone_3 rfl hl (by decide) rfl (fun ls hl => ?_)
  refine hw (fun (x1 : Int32) (x2 : Int32) (s3 : ft_St) => ∀ (H : Heap) (locs : List Loc) (ls : Array Slot), cC_P Γ s s3 H locs → lv_has ls 3 [(0, .ref (Γ.2.2 k)), (1, .int x1), (2, .int x2)] → cC_Wi p l e ({ frames := 0, cells := 0, slots := 0, locals := 0 } : Room) s m [.ref (Γ.2.2 k)] below meth c Γ Φ H locs 4 ls []) (fun x1 x2 s3 hw H locs ls hP hl => ?_) _ _ _ hP (lv_sub hl [2, 1, 0] rfl)
  refine lv_iload_n hx hb dX6_addAheadToGone_4 rfl (lv_at hl 2 rfl) ?_
  refine lv_bipush (v := 10) hx hb dX6_addAheadToGone_5 (by decide) ?_
  refine lv_icmp_ge (tgt := 59) hx hb dX6_addAheadToGone_7 (by decide) (fun h => ?_) (fun h => ?_)
  · replace hw := hw.1 h
    refine lv_iload_n hx hb dX6_addAheadToGone_59 rfl (lv_at hl 1 rfl) ?_
    exact W.zret hx hb hr (ft_bz_n hw.1) (cC_ri hP hw.2) hP.2.2.2 dX6_addAheadToGone_60
  · replace hw := hw.2 h
    refine lv_iload_n hx hb dX6_addAheadToGone_10 rfl (lv_at hl 1 rfl) ?_
    refine ft_cut (hw (fun (x5 : Int32) => ∀ (H : Heap) (locs : List Loc) (ls : Array Slot), cC_P Γ s s3 H locs → lv_has ls 3 [(0, .ref (Γ.2.2 k)), (2, .int x2)] → cC_Wi p l e ({ frames := 0, cells := 0, slots := 0, locals := 0 } : Room) s m [.ref (Γ.2.2 k)] below meth c Γ Φ H locs 37 ls [.int x5]) (fun x5 hw H locs ls hP hl => ?_)) (fun hw => ?_)
    · refine lv_istore_n (lv' := [(1, .int x5), (0, .ref (Γ.2.2 k)), (2, .int x2)]) hx hb dX6_addAheadToGone_37 rfl hl (by decide) rfl (fun ls hl => ?_)
      refine lv_aload_n hx hb dX6_addAheadToGone_38 rfl (lv_at hl 1 rfl) ?_
      refine gC_6_7 hx hb hts i6 hown hK hP hk (hts _ q_X6_addAheadToGone_2) dX6_addAheadToGone_39 ?_
      refine lv_iload_n hx hb dX6_addAheadToGone_42 rfl (lv_at hl 2 rfl) ?_
      refine lv_dup2_11 hx hb dX6_addAheadToGone_43 rfl rfl ?_
      refine aC_ld hx hb hK hP (tC_6_7 hk) (nC_6_7 hk) hw.1 dX6_addAheadToGone_44 ?_
      replace hw := hw.2
      refine lv_aload_n hx hb dX6_addAheadToGone_45 rfl (lv_at hl 1 rfl) ?_
      refine gC_6_6 hx hb hts i6 hown hK hP hk (hts _ q_X6_addAheadToGone_1) dX6_addAheadToGone_46 ?_
      refine lv_iload_n hx hb dX6_addAheadToGone_49 rfl (lv_at hl 2 rfl) ?_
      refine aC_ld hx hb hK hP (tC_6_6 hk) (nC_6_6 hk) hw.1 dX6_addAheadToGone_50 ?_
      replace hw := hw.2
      refine lv_ior hx hb dX6_addAheadToGone_51 ?_
      refine aC_st hx hb hK hI hP (tC_6_7 hk) (nC_6_7 hk) hw.1 dX6_addAheadToGone_52 (fun H locs hP => ?_)
      replace hw := hw.2
      obtain ⟨s7, hs7⟩ : ∃ u, u = ft_sA s3 (k + 6) (upd (s3.2.1 (k + 6)) (Int32.toNatClampNeg x2) ((s3.2.1 (k + 6) (Int32.toNatClampNeg x2)) ||| (s3.2.1 (k + 5) (Int32.toNatClampNeg x2)))) := ⟨_, rfl⟩
      rw [← hs7] at hP
      replace hw := hw s7 hs7
      refine lv_iinc (v := x2 + 1) (lv' := [(2, .int (x2 + 1)), (1, .int x5), (0, .ref (Γ.2.2 k))]) hx hb dX6_addAheadToGone_53 hl (k := 2) rfl (congrArg (fun z => x2 + z) (by decide)) (by decide) rfl (fun ls hl => ?_)
      refine lv_goto (tgt := 4) hx hb dX6_addAheadToGone_56 (by decide) ?_
      exact hw _ _ _ hP (lv_sub hl [2, 1, 0] rfl)
    · refine ft_cut (hw (∀ (H : Heap) (locs : List Loc) (ls : Array Slot), cC_P Γ s s3 H locs → lv_has ls 3 [(0, .ref (Γ.2.2 k)), (2, .int x2)] → cC_Wi p l e ({ frames := 0, cells := 0, slots := 0, locals := 0 } : Room) s m [.ref (Γ.2.2 k)] below meth c Γ Φ H locs 32 ls []) (fun  hw H locs ls hP hl => ?_)) (fun hw => ?_)
      · refine lv_iconst (v := 1) hx hb dX6_addAheadToGone_32 (by decide) ?_
        refine lv_goto (tgt := 37) hx hb dX6_addAheadToGone_33 (by decide) ?_
        exact hw _ _ _ hP (lv_sub hl [0, 1] rfl)
      · refine lv_if_ne (tgt := 32) hx hb dX6_addAheadToGone_11 (by decide) (fun h => ?_) (fun h => ?_)
        · replace hw := hw.1 h
          exact hw _ _ _ hP (lv_sub hl [0, 2] rfl)
        · replace hw := hw.2 h
          refine lv_aload_n hx hb dX6_addAheadToGone_14 rfl (lv_at hl 0 rfl) ?_
          refine gC_6_6 hx hb hts i6 hown hK hP hk (hts _ q_X6_addAheadToGone_1) dX6_addAheadToGone_15 ?_
          refine lv_iload_n hx hb dX6_addAheadToGone_18 rfl (lv_at hl 2 rfl) ?_
          refine aC_ld hx hb hK hP (tC_6_6 hk) (nC_6_6 hk) hw.1 dX6_addAheadToGone_19 ?_
          replace hw := hw.2
          refine lv_aload_n hx hb dX6_addAheadToGone_20 rfl (lv_at hl 0 rfl) ?_
          refine gC_6_7 hx hb hts i6 hown hK hP hk (hts _ q_X6_addAheadToGone_2) dX6_addAheadToGone_21 ?_
          refine lv_iload_n hx hb dX6_addAheadToGone_24 rfl (lv_at hl 2 rfl) ?_
          refine aC_ld hx hb hK hP (tC_6_7 hk) (nC_6_7 hk) hw.1 dX6_addAheadToGone_25 ?_
          replace hw := hw.2
          refine lv_iconst (v := (-1)) hx hb dX6_addAheadToGone_26 (by decide) ?_
          refine lv_ixor hx hb dX6_addAheadToGone_27 ?_
          refine lv_iand hx hb dX6_addAheadToGone_28 ?_
          refine lv_if_eq (tgt := 36) hx hb dX6_addAheadToGone_29 (by decide) (fun h => ?_) (fun h => ?_)
          · replace hw := hw.1 h
            refine lv_iconst (v := 0) hx hb dX6_addAheadToGone_36 (by decide) ?_
            exact hw _ _ _ hP (lv_sub hl [0, 2] rfl)
          · replace hw := hw.2 h
            exact hw _ _ _ hP (lv_sub hl [0, 2] rfl)
theorem q_X6_isOfRing_1 : (Cond.fieldLink RX6 21 "FaultTwins$Twins" "here" "[I") ∈ wsX6_isOfRing := List.mem_of_getElem? (i := 1) (by decide +kernel)
theorem q_X6_isOfRing_2 : (Cond.fieldLink RX6 9 "FaultTwins$Twins" "alone" "[I") ∈ wsX6_isOfRing := List.mem_of_getElem? (i := 2) (by decide +kernel)
theorem q_X6_isOfRing_3 : (Cond.fieldLink RX6 27 "FaultTwins$Twins" "gone" "[I") ∈ wsX6_isOfRing := List.mem_of_getElem? (i := 3) (by decide +kernel)
theorem q_X6_isOfRing_4 : (Cond.fieldLink RX6 24 "FaultTwins$Twins" "ahead" "[I") ∈ wsX6_isOfRing := List.mem_of_getElem? (i := 4) (by decide +kernel)
set_option maxHeartbeats 4000000 in
set_option maxRecDepth 100000 in
theorem c_X6_isOfRing (l : Launch) (Γ : ft_G) (hI : cC_I Γ) (k : Nat) (hk : cC_K k = 6) (a2 : Int32) (a3 : Int32) (σ : ft_St) (Φ : Int32 → ft_St → Prop) (hw : w_X6_isOfRing k a2 a3 σ Φ) : cC_Mi l yX6_isOfRing wsX6_isOfRing ({ frames := 2, cells := 0, slots := 0, locals := 48 } : Room) Γ σ [.ref (Γ.2.2 k), .ref (Γ.2.2 2), .int a2, .int a3] Φ := by
  refine Met.ofW (cc := cX6_isOfRing) (maxL := 6) (ret := (some .boolean)) (by decide) rfl ?_
  intro p e s m args below meth c s₁ B hml hv
  obtain ⟨rfl, hP, hK, hN⟩ := hv
  have hx := B.exec
  have hb := B.bytes
  have hr := B.returns
  have hts := atoms_spec (ws := wsX6_isOfRing) B.pre
  have hown : s.vm.findClass RX6 = some m.cls := findClass_of_methodNamed B.named
  have hlocks := B.notSynchronized
  have i6 : ∀ w ∈ wsX60, w ∈ wsX6_isOfRing := fun w h => List.mem_cons_of_mem _ (List.mem_append_left _ (List.mem_append_right _ h))
  have hP : cC_P Γ s σ s.heap [] := ⟨hP, va_S.rf⟩
  have hl := lv_entry ([.ref (Γ.2.2 k), .ref (Γ.2.2 2), .int a2, .int a3]) (n := 6) (Nat.le_of_ble_eq_true rfl)
  rw [lg_entry_eq]
  generalize (lg_sl ([.ref (Γ.2.2 k), .ref (Γ.2.2 2), .int a2, .int a3]) ++ List.replicate (6 - (lg_sl ([.ref (Γ.2.2 k), .ref (Γ.2.2 2), .int a2, .int a3])).length) Slot.unset).toArray = ls at hl ⊢
  have hl : lv_has ls 6 [(0, .ref (Γ.2.2 k)), (1, .ref (Γ.2.2 2)), (2, .int a2), (3, .int a3)] := hl
  unfold w_X6_isOfRing at hw
  refine lv_aload_n hx hb dX6_isOfRing_0 rfl (lv_at hl 0 rfl) ?_
  refine gC_6_5 hx hb hts i6 hown hK hP hk (hts _ q_X6_isOfRing_1) dX6_isOfRing_1 ?_
  refine lv_iconst (v := 0) hx hb dX6_isOfRing_4 (by decide) ?_
  refine cC_Sv (rest := []) ⟨hx, hb, hml, hown, hts⟩ (c_J7_fill_53178 l Γ hI (k + 4) (tC_6_5 hk) 0 σ _ hw) (va_cwS 2 hts gX6_isOfRing_J7_fill_53178 rfl rfl rfl (by decide +kernel) ⟨Nat.le_of_ble_eq_true rfl, Nat.le_of_ble_eq_true rfl⟩) hK hN hP rfl hl.1 rfl (Nat.le_of_ble_eq_true rfl) dX6_isOfRing_5 ⟨Nat.le_refl _, Nat.le_refl _⟩ (fun s1 H locs hw hP => ?_)
  refine lv_aload_n hx hb dX6_isOfRing_8 rfl (lv_at hl 0 rfl) ?_
  refine gC_6_5 hx hb hts i6 hown hK hP hk (hts _ q_X6_isOfRing_1) dX6_isOfRing_9 ?_
  refine lv_iload_n hx hb dX6_isOfRing_12 rfl (lv_at hl 2 rfl) ?_
  refine lv_aload_n hx hb dX6_isOfRing_13 rfl (lv_at hl 0 rfl) ?_
  refine gC_6_1 hx hb hts i6 hown hK hP hk (hts _ q_X6_isOfRing_2) dX6_isOfRing_14 ?_
  refine lv_iload_n hx hb dX6_isOfRing_17 rfl (lv_at hl 3 rfl) ?_
  refine aC_ld hx hb hK hP (tC_6_1 hk) (nC_6_1 hk) hw.1 dX6_isOfRing_18 ?_
  replace hw := hw.2
  refine aC_st hx hb hK hI hP (tC_6_5 hk) (nC_6_5 hk) hw.1 dX6_isOfRing_19 (fun H locs hP => ?_)
  replace hw := hw.2
  obtain ⟨s2, hs2⟩ : ∃ u, u = ft_sA s1 (k + 4) (upd (s1.2.1 (k + 4)) (Int32.toNatClampNeg a2) (s1.2.1 (k + 1) (Int32.toNatClampNeg a3))) := ⟨_, rfl⟩
  rw [← hs2] at hP
  replace hw := hw s2 hs2
  refine lv_aload_n hx hb dX6_isOfRing_20 rfl (lv_at hl 0 rfl) ?_
  refine lv_aload_n hx hb dX6_isOfRing_21 rfl (lv_at hl 1 rfl) ?_
  refine lv_aload_n hx hb dX6_isOfRing_22 rfl (lv_at hl 0 rfl) ?_
  refine gC_6_5 hx hb hts i6 hown hK hP hk (hts _ q_X6_isOfRing_1) dX6_isOfRing_23 ?_
  refine lv_aload_n hx hb dX6_isOfRing_26 rfl (lv_at hl 0 rfl) ?_
  refine gC_6_7 hx hb hts i6 hown hK hP hk (hts _ q_X6_isOfRing_3) dX6_isOfRing_27 ?_
  refine cC_Vv (rest := []) ⟨hx, hb, hml, hown, hts⟩ (c_X6_goOn l Γ hI k hk (k + 4) (tC_6_5 hk) (k + 6) (tC_6_7 hk) s2 _ hw) (cwV 3 hts gX6_isOfRing_X6_goOn rfl rfl rfl (by decide +kernel) ⟨Nat.le_of_ble_eq_true rfl, Nat.le_of_ble_eq_true rfl⟩) hK hN hP (cC_lt hk (by decide)) (cC_E6 hk) rfl rfl rfl hl.1 rfl (Nat.le_of_ble_eq_true rfl) dX6_isOfRing_30 ⟨Nat.le_refl _, Nat.le_refl _⟩ (fun s3 H locs hw hP => ?_)
  refine lv_iconst (v := 1) hx hb dX6_isOfRing_33 (by decide) ?_
  refine lv_istore (lv' := [(4, .int 1), (0, .ref (Γ.2.2 k)), (1, .ref (Γ.2.2 2)), (2, .int a2), (3, .int a3)]) hx hb dX6_isOfRing_34 hl (by decide) rfl (fun ls hl => ?_)
  refine lv_iconst (v := 0) hx hb dX6_isOfRing_36 (by decide) ?_
  refine lv_istore (lv' := [(5, .int 0), (4, .int 1), (0, .ref (Γ.2.2 k)), (1, .ref (Γ.2.2 2)), (2, .int a2), (3, .int a3)]) hx hb dX6_isOfRing_37 hl (by decide) rfl (fun ls hl => ?_)
  refine hw (fun (x4 : Int32) (x5 : Int32) (s6 : ft_St) => ∀ (H : Heap) (locs : List Loc) (ls : Array Slot), cC_P Γ s s6 H locs → lv_has ls 6 [(0, .ref (Γ.2.2 k)), (1, .ref (Γ.2.2 2)), (2, .int a2), (3, .int a3), (4, .int x4), (5, .int x5)] → cC_Wi p l e ({ frames := 2, cells := 0, slots := 0, locals := 48 } : Room) s m [.ref (Γ.2.2 k), .ref (Γ.2.2 2), .int a2, .int a3] below meth c Γ Φ H locs 39 ls []) (fun x4 x5 s6 hw H locs ls hP hl => ?_) _ _ _ hP (lv_sub hl [2, 3, 4, 5, 1, 0] rfl)
  refine lv_iload hx hb dX6_isOfRing_39 (lv_at hl 5 rfl) ?_
  refine lv_bipush (v := 100) hx hb dX6_isOfRing_41 (by decide) ?_
  refine ft_cut (hw (∀ (H : Heap) (locs : List Loc) (ls : Array Slot), cC_P Γ s s6 H locs → lv_has ls 6 [(0, .ref (Γ.2.2 k)), (2, .int a2), (3, .int a3)] → cC_Wi p l e ({ frames := 2, cells := 0, slots := 0, locals := 48 } : Room) s m [.ref (Γ.2.2 k), .ref (Γ.2.2 2), .int a2, .int a3] below meth c Γ Φ H locs 76 ls []) (fun  hw H locs ls hP hl => ?_)) (fun hw => ?_)
  · refine lv_aload_n hx hb dX6_isOfRing_76 rfl (lv_at hl 0 rfl) ?_
    refine gC_6_7 hx hb hts i6 hown hK hP hk (hts _ q_X6_isOfRing_3) dX6_isOfRing_77 ?_
    refine lv_iload_n hx hb dX6_isOfRing_80 rfl (lv_at hl 1 rfl) ?_
    refine aC_ld hx hb hK hP (tC_6_7 hk) (nC_6_7 hk) hw.1 dX6_isOfRing_81 ?_
    replace hw := hw.2
    refine lv_iload_n hx hb dX6_isOfRing_82 rfl (lv_at hl 2 rfl) ?_
    refine lv_ishr hx hb dX6_isOfRing_83 ?_
    refine lv_iconst (v := 1) hx hb dX6_isOfRing_84 (by decide) ?_
    refine lv_iand hx hb dX6_isOfRing_85 ?_
    refine lv_iconst (v := 1) hx hb dX6_isOfRing_86 (by decide) ?_
    refine lv_icmp_ne (tgt := 94) hx hb dX6_isOfRing_87 (by decide) (fun h => ?_) (fun h => ?_)
    · replace hw := hw.1 h
      refine lv_iconst (v := 0) hx hb dX6_isOfRing_94 (by decide) ?_
      exact W.zret hx hb hr rfl (cC_ri hP hw) hP.2.2.2 dX6_isOfRing_95
    · replace hw := hw.2 h
      refine lv_iconst (v := 1) hx hb dX6_isOfRing_90 (by decide) ?_
      refine lv_goto (tgt := 95) hx hb dX6_isOfRing_91 (by decide) ?_
      exact W.zret hx hb hr rfl (cC_ri hP hw) hP.2.2.2 dX6_isOfRing_95
  · refine lv_icmp_ge (tgt := 76) hx hb dX6_isOfRing_43 (by decide) (fun h => ?_) (fun h => ?_)
    · replace hw := hw.1 h
      exact hw _ _ _ hP (lv_sub hl [0, 2, 3] rfl)
    · replace hw := hw.2 h
      refine lv_iload hx hb dX6_isOfRing_46 (lv_at hl 4 rfl) ?_
      refine lv_if_eq (tgt := 76) hx hb dX6_isOfRing_48 (by decide) (fun h => ?_) (fun h => ?_)
      · replace hw := hw.1 h
        exact hw _ _ _ hP (lv_sub hl [0, 2, 3] rfl)
      · replace hw := hw.2 h
        refine lv_aload_n hx hb dX6_isOfRing_51 rfl (lv_at hl 0 rfl) ?_
        refine lv_aload_n hx hb dX6_isOfRing_52 rfl (lv_at hl 1 rfl) ?_
        refine lv_aload_n hx hb dX6_isOfRing_53 rfl (lv_at hl 0 rfl) ?_
        refine gC_6_7 hx hb hts i6 hown hK hP hk (hts _ q_X6_isOfRing_3) dX6_isOfRing_54 ?_
        refine lv_aload_n hx hb dX6_isOfRing_57 rfl (lv_at hl 0 rfl) ?_
        refine gC_6_6 hx hb hts i6 hown hK hP hk (hts _ q_X6_isOfRing_4) dX6_isOfRing_58 ?_
        refine cC_Vv (rest := []) ⟨hx, hb, hml, hown, hts⟩ (c_X6_goOn l Γ hI k hk (k + 6) (tC_6_7 hk) (k + 5) (tC_6_6 hk) s6 _ hw) (cwV 3 hts gX6_isOfRing_X6_goOn rfl rfl rfl (by decide +kernel) ⟨Nat.le_of_ble_eq_true rfl, Nat.le_of_ble_eq_true rfl⟩) hK hN hP (cC_lt hk (by decide)) (cC_E6 hk) rfl rfl rfl hl.1 rfl (Nat.le_of_ble_eq_true rfl) dX6_isOfRing_61 ⟨Nat.le_refl _, Nat.le_refl _⟩ (fun s9 H locs hw hP => ?_)
        refine lv_aload_n hx hb dX6_isOfRing_64 rfl (lv_at hl 0 rfl) ?_
        refine cC_Vi (rest := []) ⟨hx, hb, hml, hown, hts⟩ (c_X6_addAheadToGone l Γ hI k hk s9 _ hw) (cwV 0 hts gX6_isOfRing_X6_addAheadToGone rfl rfl rfl (by decide +kernel) ⟨Nat.le_of_ble_eq_true rfl, Nat.le_of_ble_eq_true rfl⟩) hK hN hP (cC_lt hk (by decide)) (cC_E6 hk) rfl rfl rfl hl.1 rfl (Nat.le_of_ble_eq_true rfl) dX6_isOfRing_65 ⟨Nat.le_refl _, Nat.le_refl _⟩ (fun r10 s11 H locs hw hP => ?_)
        refine lv_istore (lv' := [(4, .int r10), (0, .ref (Γ.2.2 k)), (1, .ref (Γ.2.2 2)), (2, .int a2), (3, .int a3), (5, .int x5)]) hx hb dX6_isOfRing_68 hl (by decide) rfl (fun ls hl => ?_)
        refine lv_iinc (v := x5 + 1) (lv' := [(5, .int (x5 + 1)), (4, .int r10), (0, .ref (Γ.2.2 k)), (1, .ref (Γ.2.2 2)), (2, .int a2), (3, .int a3)]) hx hb dX6_isOfRing_70 hl (k := 5) rfl (congrArg (fun z => x5 + z) (by decide)) (by decide) rfl (fun ls hl => ?_)
        refine lv_goto (tgt := 39) hx hb dX6_isOfRing_73 (by decide) ?_
        exact hw _ _ _ hP (lv_sub hl [2, 3, 4, 5, 1, 0] rfl)
