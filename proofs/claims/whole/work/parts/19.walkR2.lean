theorem q_X10_comesPair_1 : (Cond.fieldLink RX10 41 "FaultTwinsModel" "can" "[I") ∈ wsX10_comesPair := List.mem_of_getElem? (i := 1) (by decide +kernel)
set_option maxHeartbeats 4000000 in
set_option maxRecDepth 100000 in
theorem c_X10_comesPair (l : Launch) (Γ : ft_G) (hI : cR_I Γ) (a1 : Int32) (a2 : Int32) (σ : ft_St) (Φ : ft_St → Prop) (hw : w_X10_comesPair a1 a2 σ Φ) : cR_Mv l yX10_comesPair wsX10_comesPair ({ frames := 0, cells := 0, slots := 0, locals := 0 } : Room) Γ σ [.ref (Γ.2.2 0), .int a1, .int a2] Φ := by
  refine Met.ofW (cc := cX10_comesPair) (maxL := 3) (ret := none) (by decide) rfl ?_
  intro p e s m args below meth c s₁ B hml hv
  obtain ⟨rfl, hP, hK, hN⟩ := hv
  have hx := B.exec
  have hb := B.bytes
  have hr := B.returns
  have hts := atoms_spec (ws := wsX10_comesPair) B.pre
  have hown : s.vm.findClass RX10 = some m.cls := findClass_of_methodNamed B.named
  have hlocks := B.notSynchronized
  have i10 : ∀ w ∈ wsX100, w ∈ wsX10_comesPair := fun w h => List.mem_cons_of_mem _ (List.mem_append_right _ h)
  have hP : cR_P Γ s σ s.heap [] := ⟨hP, va_S.rf⟩
  have hl := lv_entry ([.ref (Γ.2.2 0), .int a1, .int a2]) (n := 3) (Nat.le_of_ble_eq_true rfl)
  rw [lg_entry_eq]
  generalize (lg_sl ([.ref (Γ.2.2 0), .int a1, .int a2]) ++ List.replicate (3 - (lg_sl ([.ref (Γ.2.2 0), .int a1, .int a2])).length) Slot.unset).toArray = ls at hl ⊢
  have hl : lv_has ls 3 [(0, .ref (Γ.2.2 0)), (1, .int a1), (2, .int a2)] := hl
  unfold w_X10_comesPair at hw
  refine lv_aload_n hx hb dX10_comesPair_0 rfl (lv_at hl 0 rfl) ?_
  refine gR_10_15 hx hb hts i10 hown hK hP hR_0 (hts _ q_X10_comesPair_1) dX10_comesPair_1 ?_
  refine lv_bipush (v := 10) hx hb dX10_comesPair_4 (by decide) ?_
  refine lv_iload_n hx hb dX10_comesPair_6 rfl (lv_at hl 1 rfl) ?_
  refine lv_imul hx hb dX10_comesPair_7 ?_
  refine lv_iload_n hx hb dX10_comesPair_8 rfl (lv_at hl 2 rfl) ?_
  refine lv_iadd hx hb dX10_comesPair_9 ?_
  refine lv_iconst (v := 1) hx hb dX10_comesPair_10 (by decide) ?_
  refine aR_st hx hb hK hI hP hR_9 mR_9 hw.1 dX10_comesPair_11 (fun H locs hP => ?_)
  replace hw := hw.2
  obtain ⟨s1, hs1⟩ : ∃ u, u = ft_sA σ 9 (upd (σ.2.1 9) (Int32.toNatClampNeg ((10 * a1) + a2)) 1) := ⟨_, rfl⟩
  rw [← hs1] at hP
  replace hw := hw s1 hs1
  exact W.vret hx hb hr (cR_rv hP hw) hP.2.2.2 dX10_comesPair_12
theorem q_X10_goesFrom_1 : (Cond.fieldLink RX10 70 "FaultTwinsModel" "many" "I") ∈ wsX10_goesFrom := List.mem_of_getElem? (i := 1) (by decide +kernel)
theorem q_X10_goesFrom_2 : (Cond.fieldLink RX10 13 "FaultTwinsModel" "from" "[I") ∈ wsX10_goesFrom := List.mem_of_getElem? (i := 2) (by decide +kernel)
theorem q_X10_goesFrom_3 : (Cond.fieldLink RX10 19 "FaultTwinsModel" "to" "[I") ∈ wsX10_goesFrom := List.mem_of_getElem? (i := 3) (by decide +kernel)
theorem q_X10_goesFrom_4 : (Cond.fieldLink RX10 16 "FaultTwinsModel" "by" "[I") ∈ wsX10_goesFrom := List.mem_of_getElem? (i := 4) (by decide +kernel)
set_option maxHeartbeats 4000000 in
set_option maxRecDepth 100000 in
theorem c_X10_goesFrom (l : Launch) (Γ : ft_G) (hI : cR_I Γ) (a1 : Int32) (a2 : Int32) (σ : ft_St) (Φ : ft_St → Prop) (hw : w_X10_goesFrom a1 a2 σ Φ) : cR_Mv l yX10_goesFrom wsX10_goesFrom ({ frames := 1, cells := 0, slots := 0, locals := 22 } : Room) Γ σ [.ref (Γ.2.2 0), .int a1, .int a2] Φ := by
  refine Met.ofW (cc := cX10_goesFrom) (maxL := 6) (ret := none) (by decide) rfl ?_
  intro p e s m args below meth c s₁ B hml hv
  obtain ⟨rfl, hP, hK, hN⟩ := hv
  have hx := B.exec
  have hb := B.bytes
  have hr := B.returns
  have hts := atoms_spec (ws := wsX10_goesFrom) B.pre
  have hown : s.vm.findClass RX10 = some m.cls := findClass_of_methodNamed B.named
  have hlocks := B.notSynchronized
  have i10 : ∀ w ∈ wsX100, w ∈ wsX10_goesFrom := fun w h => List.mem_cons_of_mem _ (List.mem_append_right _ h)
  have hP : cR_P Γ s σ s.heap [] := ⟨hP, va_S.rf⟩
  have hl := lv_entry ([.ref (Γ.2.2 0), .int a1, .int a2]) (n := 6) (Nat.le_of_ble_eq_true rfl)
  rw [lg_entry_eq]
  generalize (lg_sl ([.ref (Γ.2.2 0), .int a1, .int a2]) ++ List.replicate (6 - (lg_sl ([.ref (Γ.2.2 0), .int a1, .int a2])).length) Slot.unset).toArray = ls at hl ⊢
  have hl : lv_has ls 6 [(0, .ref (Γ.2.2 0)), (1, .int a1), (2, .int a2)] := hl
  unfold w_X10_goesFrom at hw
  refine lv_iconst (v := 0) hx hb dX10_goesFrom_0 (by decide) ?_
  refine lv_istore_n (lv' := [(3, .int 0), (0, .ref (Γ.2.2 0)), (1, .int a1), (2, .int a2)]) hx hb dX10_goesFrom_1 rfl hl (by decide) rfl (fun ls hl => ?_)
  refine hw (fun (x1 : Int32) (s2 : ft_St) => ∀ (H : Heap) (locs : List Loc) (ls : Array Slot), cR_P Γ s s2 H locs → lv_has ls 6 [(0, .ref (Γ.2.2 0)), (1, .int a1), (2, .int a2), (3, .int x1)] → cR_Wv p l e ({ frames := 1, cells := 0, slots := 0, locals := 22 } : Room) s m [.ref (Γ.2.2 0), .int a1, .int a2] below meth c Γ Φ H locs 2 ls []) (fun x1 s2 hw H locs ls hP hl => ?_) _ _ _ hP (lv_sub hl [1, 2, 3, 0] rfl)
  refine lv_iload_n hx hb dX10_goesFrom_2 rfl (lv_at hl 3 rfl) ?_
  refine lv_aload_n hx hb dX10_goesFrom_3 rfl (lv_at hl 0 rfl) ?_
  refine gR_10_1 hx hb hts i10 hown hK hP hR_0 (hts _ q_X10_goesFrom_1) dX10_goesFrom_4 ?_
  refine lv_icmp_ge (tgt := 193) hx hb dX10_goesFrom_7 (by decide) (fun h => ?_) (fun h => ?_)
  · replace hw := hw.1 h
    exact W.vret hx hb hr (cR_rv hP hw) hP.2.2.2 dX10_goesFrom_193
  · replace hw := hw.2 h
    refine lv_aload_n hx hb dX10_goesFrom_10 rfl (lv_at hl 0 rfl) ?_
    refine gR_10_2 hx hb hts i10 hown hK hP hR_0 (hts _ q_X10_goesFrom_2) dX10_goesFrom_11 ?_
    refine lv_iload_n hx hb dX10_goesFrom_14 rfl (lv_at hl 3 rfl) ?_
    refine aR_ld hx hb hK hP hR_2 mR_2 hw.1 dX10_goesFrom_15 ?_
    replace hw := hw.2
    refine lv_iload_n hx hb dX10_goesFrom_16 rfl (lv_at hl 1 rfl) ?_
    refine lv_bipush (v := 10) hx hb dX10_goesFrom_17 (by decide) ?_
    refine lv_irem hx hb dX10_goesFrom_19 (by decide) ?_
    refine ft_cut (hw (fun (s4 : ft_St) => ∀ (H : Heap) (locs : List Loc) (ls : Array Slot), cR_P Γ s s4 H locs → lv_has ls 6 [(0, .ref (Γ.2.2 0)), (1, .int a1), (2, .int a2), (3, .int x1)] → cR_Wv p l e ({ frames := 1, cells := 0, slots := 0, locals := 22 } : Room) s m [.ref (Γ.2.2 0), .int a1, .int a2] below meth c Γ Φ H locs 140 ls []) (fun s4 hw H locs ls hP hl => ?_)) (fun hw => ?_)
    · refine lv_aload_n hx hb dX10_goesFrom_140 rfl (lv_at hl 0 rfl) ?_
      refine gR_10_2 hx hb hts i10 hown hK hP hR_0 (hts _ q_X10_goesFrom_2) dX10_goesFrom_141 ?_
      refine lv_iload_n hx hb dX10_goesFrom_144 rfl (lv_at hl 3 rfl) ?_
      refine aR_ld hx hb hK hP hR_2 mR_2 hw.1 dX10_goesFrom_145 ?_
      replace hw := hw.2
      refine lv_iload_n hx hb dX10_goesFrom_146 rfl (lv_at hl 2 rfl) ?_
      refine lv_icmp_ne (tgt := 187) hx hb dX10_goesFrom_147 (by decide) (fun h => ?_) (fun h => ?_)
      · replace hw := hw.1 h
        refine lv_iinc (v := x1 + 1) (lv' := [(3, .int (x1 + 1)), (0, .ref (Γ.2.2 0)), (1, .int a1), (2, .int a2)]) hx hb dX10_goesFrom_187 hl (k := 3) rfl (congrArg (fun z => x1 + z) (by decide)) (by decide) rfl (fun ls hl => ?_)
        refine lv_goto (tgt := 2) hx hb dX10_goesFrom_190 (by decide) ?_
        exact hw _ _ _ hP (lv_sub hl [1, 2, 3, 0] rfl)
      · replace hw := hw.2 h
        refine lv_aload_n hx hb dX10_goesFrom_150 rfl (lv_at hl 0 rfl) ?_
        refine lv_aload_n hx hb dX10_goesFrom_151 rfl (lv_at hl 0 rfl) ?_
        refine gR_10_3 hx hb hts i10 hown hK hP hR_0 (hts _ q_X10_goesFrom_4) dX10_goesFrom_152 ?_
        refine lv_iload_n hx hb dX10_goesFrom_155 rfl (lv_at hl 3 rfl) ?_
        refine aR_ld hx hb hK hP hR_3 mR_3 hw.1 dX10_goesFrom_156 ?_
        replace hw := hw.2
        refine cR_Vip (rest := []) ⟨hx, hb, hml, hown, hts⟩ (c_X10_isSeen l Γ hI (s4.2.1 3 (Int32.toNatClampNeg x1)) s4 _ hw) (cwV 1 hts gX10_goesFrom_X10_isSeen rfl rfl rfl (by decide +kernel) ⟨Nat.le_of_ble_eq_true rfl, Nat.le_of_ble_eq_true rfl⟩) hK hN hP (cR_lt hR_0 (by decide)) (cR_E10 hR_0) rfl rfl rfl hl.1 rfl (Nat.le_of_ble_eq_true rfl) dX10_goesFrom_157 ⟨Nat.le_refl _, Nat.le_refl _⟩ (fun r6 H locs hw hP => ?_)
        refine lv_if_ne (tgt := 187) hx hb dX10_goesFrom_160 (by decide) (fun h => ?_) (fun h => ?_)
        · replace hw := hw.1 h
          refine lv_iinc (v := x1 + 1) (lv' := [(3, .int (x1 + 1)), (0, .ref (Γ.2.2 0)), (1, .int a1), (2, .int a2)]) hx hb dX10_goesFrom_187 hl (k := 3) rfl (congrArg (fun z => x1 + z) (by decide)) (by decide) rfl (fun ls hl => ?_)
          refine lv_goto (tgt := 2) hx hb dX10_goesFrom_190 (by decide) ?_
          exact hw _ _ _ hP (lv_sub hl [1, 2, 3, 0] rfl)
        · replace hw := hw.2 h
          refine lv_aload_n hx hb dX10_goesFrom_163 rfl (lv_at hl 0 rfl) ?_
          refine lv_aload_n hx hb dX10_goesFrom_164 rfl (lv_at hl 0 rfl) ?_
          refine gR_10_3 hx hb hts i10 hown hK hP hR_0 (hts _ q_X10_goesFrom_4) dX10_goesFrom_165 ?_
          refine lv_iload_n hx hb dX10_goesFrom_168 rfl (lv_at hl 3 rfl) ?_
          refine aR_ld hx hb hK hP hR_3 mR_3 hw.1 dX10_goesFrom_169 ?_
          replace hw := hw.2
          refine cR_Vip (rest := []) ⟨hx, hb, hml, hown, hts⟩ (c_X10_isFault l Γ hI (s4.2.1 3 (Int32.toNatClampNeg x1)) s4 _ hw) (cwV 1 hts gX10_goesFrom_X10_isFault rfl rfl rfl (by decide +kernel) ⟨Nat.le_of_ble_eq_true rfl, Nat.le_of_ble_eq_true rfl⟩) hK hN hP (cR_lt hR_0 (by decide)) (cR_E10 hR_0) rfl rfl rfl hl.1 rfl (Nat.le_of_ble_eq_true rfl) dX10_goesFrom_170 ⟨Nat.le_refl _, Nat.le_refl _⟩ (fun r7 H locs hw hP => ?_)
          refine lv_if_ne (tgt := 187) hx hb dX10_goesFrom_173 (by decide) (fun h => ?_) (fun h => ?_)
          · replace hw := hw.1 h
            refine lv_iinc (v := x1 + 1) (lv' := [(3, .int (x1 + 1)), (0, .ref (Γ.2.2 0)), (1, .int a1), (2, .int a2)]) hx hb dX10_goesFrom_187 hl (k := 3) rfl (congrArg (fun z => x1 + z) (by decide)) (by decide) rfl (fun ls hl => ?_)
            refine lv_goto (tgt := 2) hx hb dX10_goesFrom_190 (by decide) ?_
            exact hw _ _ _ hP (lv_sub hl [1, 2, 3, 0] rfl)
          · replace hw := hw.2 h
            refine lv_aload_n hx hb dX10_goesFrom_176 rfl (lv_at hl 0 rfl) ?_
            refine lv_iload_n hx hb dX10_goesFrom_177 rfl (lv_at hl 1 rfl) ?_
            refine lv_aload_n hx hb dX10_goesFrom_178 rfl (lv_at hl 0 rfl) ?_
            refine gR_10_4 hx hb hts i10 hown hK hP hR_0 (hts _ q_X10_goesFrom_3) dX10_goesFrom_179 ?_
            refine lv_iload_n hx hb dX10_goesFrom_182 rfl (lv_at hl 3 rfl) ?_
            refine aR_ld hx hb hK hP hR_4 mR_4 hw.1 dX10_goesFrom_183 ?_
            replace hw := hw.2
            refine cR_Vv (rest := []) ⟨hx, hb, hml, hown, hts⟩ (c_X10_comesPair l Γ hI a1 (s4.2.1 4 (Int32.toNatClampNeg x1)) s4 _ hw) (cwV 2 hts gX10_goesFrom_X10_comesPair rfl rfl rfl (by decide +kernel) ⟨Nat.le_of_ble_eq_true rfl, Nat.le_of_ble_eq_true rfl⟩) hK hN hP (cR_lt hR_0 (by decide)) (cR_E10 hR_0) rfl rfl rfl hl.1 rfl (Nat.le_of_ble_eq_true rfl) dX10_goesFrom_184 ⟨Nat.le_refl _, Nat.le_refl _⟩ (fun s8 H locs hw hP => ?_)
            refine lv_iinc (v := x1 + 1) (lv' := [(3, .int (x1 + 1)), (0, .ref (Γ.2.2 0)), (1, .int a1), (2, .int a2)]) hx hb dX10_goesFrom_187 hl (k := 3) rfl (congrArg (fun z => x1 + z) (by decide)) (by decide) rfl (fun ls hl => ?_)
            refine lv_goto (tgt := 2) hx hb dX10_goesFrom_190 (by decide) ?_
            exact hw _ _ _ hP (lv_sub hl [1, 2, 3, 0] rfl)
    · refine lv_icmp_ne (tgt := 140) hx hb dX10_goesFrom_20 (by decide) (fun h => ?_) (fun h => ?_)
      · replace hw := hw.1 h
        exact hw _ _ _ hP (lv_sub hl [0, 1, 2, 3] rfl)
      · replace hw := hw.2 h
        refine lv_iload_n hx hb dX10_goesFrom_23 rfl (lv_at hl 1 rfl) ?_
        refine lv_aload_n hx hb dX10_goesFrom_24 rfl (lv_at hl 0 rfl) ?_
        refine gR_10_4 hx hb hts i10 hown hK hP hR_0 (hts _ q_X10_goesFrom_3) dX10_goesFrom_25 ?_
        refine lv_iload_n hx hb dX10_goesFrom_28 rfl (lv_at hl 3 rfl) ?_
        refine aR_ld hx hb hK hP hR_4 mR_4 hw.1 dX10_goesFrom_29 ?_
        replace hw := hw.2
        refine lv_aload_n hx hb dX10_goesFrom_30 rfl (lv_at hl 0 rfl) ?_
        refine lv_aload_n hx hb dX10_goesFrom_31 rfl (lv_at hl 0 rfl) ?_
        refine gR_10_3 hx hb hts i10 hown hK hP hR_0 (hts _ q_X10_goesFrom_4) dX10_goesFrom_32 ?_
        refine lv_iload_n hx hb dX10_goesFrom_35 rfl (lv_at hl 3 rfl) ?_
        refine aR_ld hx hb hK hP hR_3 mR_3 hw.1 dX10_goesFrom_36 ?_
        replace hw := hw.2
        refine cR_Vip (rest := [.int (s2.2.1 4 (Int32.toNatClampNeg x1)), .int a1]) ⟨hx, hb, hml, hown, hts⟩ (c_X10_isFault l Γ hI (s2.2.1 3 (Int32.toNatClampNeg x1)) s2 _ hw) (cwV 1 hts gX10_goesFrom_X10_isFault rfl rfl rfl (by decide +kernel) ⟨Nat.le_of_ble_eq_true rfl, Nat.le_of_ble_eq_true rfl⟩) hK hN hP (cR_lt hR_0 (by decide)) (cR_E10 hR_0) rfl rfl rfl hl.1 rfl (Nat.le_of_ble_eq_true rfl) dX10_goesFrom_37 ⟨Nat.le_refl _, Nat.le_refl _⟩ (fun r9 H locs hw hP => ?_)
        refine cR_Sip (rest := []) ⟨hx, hb, hml, hown, hts⟩ (c_X10_markBehind l Γ hI a1 (s2.2.1 4 (Int32.toNatClampNeg x1)) r9 s2 _ hw) (va_cwS 3 hts gX10_goesFrom_X10_markBehind rfl rfl rfl (by decide +kernel) ⟨Nat.le_of_ble_eq_true rfl, Nat.le_of_ble_eq_true rfl⟩) hK hN hP rfl hl.1 rfl (Nat.le_of_ble_eq_true rfl) dX10_goesFrom_40 ⟨Nat.le_refl _, Nat.le_refl _⟩ (fun r10 H locs hw hP => ?_)
        refine lv_istore (lv' := [(4, .int r10), (0, .ref (Γ.2.2 0)), (1, .int a1), (2, .int a2), (3, .int x1)]) hx hb dX10_goesFrom_43 hl (by decide) rfl (fun ls hl => ?_)
        refine lv_aload_n hx hb dX10_goesFrom_45 rfl (lv_at hl 1 rfl) ?_
        refine lv_aload_n hx hb dX10_goesFrom_46 rfl (lv_at hl 1 rfl) ?_
        refine gR_10_3 hx hb hts i10 hown hK hP hR_0 (hts _ q_X10_goesFrom_4) dX10_goesFrom_47 ?_
        refine lv_iload_n hx hb dX10_goesFrom_50 rfl (lv_at hl 4 rfl) ?_
        refine aR_ld hx hb hK hP hR_3 mR_3 hw.1 dX10_goesFrom_51 ?_
        replace hw := hw.2
        refine cR_Vip (rest := []) ⟨hx, hb, hml, hown, hts⟩ (c_X10_isSeen l Γ hI (s2.2.1 3 (Int32.toNatClampNeg x1)) s2 _ hw) (cwV 1 hts gX10_goesFrom_X10_isSeen rfl rfl rfl (by decide +kernel) ⟨Nat.le_of_ble_eq_true rfl, Nat.le_of_ble_eq_true rfl⟩) hK hN hP (cR_lt hR_0 (by decide)) (cR_E10 hR_0) rfl rfl rfl hl.1 rfl (Nat.le_of_ble_eq_true rfl) dX10_goesFrom_52 ⟨Nat.le_refl _, Nat.le_refl _⟩ (fun r11 H locs hw hP => ?_)
        refine lv_if_ne (tgt := 68) hx hb dX10_goesFrom_55 (by decide) (fun h => ?_) (fun h => ?_)
        · replace hw := hw.1 h
          refine lv_iconst (v := 0) hx hb dX10_goesFrom_68 (by decide) ?_
          refine lv_istore (lv' := [(5, .int 0), (4, .int r10), (0, .ref (Γ.2.2 0)), (1, .int a1), (2, .int a2), (3, .int x1)]) hx hb dX10_goesFrom_69 hl (by decide) rfl (fun ls hl => ?_)
          refine hw (fun (x12 : Int32) (s13 : ft_St) => ∀ (H : Heap) (locs : List Loc) (ls : Array Slot), cR_P Γ s s13 H locs → lv_has ls 6 [(0, .ref (Γ.2.2 0)), (1, .int a1), (2, .int a2), (3, .int x1), (4, .int r10), (5, .int x12)] → cR_Wv p l e ({ frames := 1, cells := 0, slots := 0, locals := 22 } : Room) s m [.ref (Γ.2.2 0), .int a1, .int a2] below meth c Γ Φ H locs 71 ls []) (fun x12 s13 hw H locs ls hP hl => ?_) _ _ _ hP (lv_sub hl [2, 3, 4, 5, 1, 0] rfl)
          refine lv_iload hx hb dX10_goesFrom_71 (lv_at hl 5 rfl) ?_
          refine lv_aload_n hx hb dX10_goesFrom_73 rfl (lv_at hl 0 rfl) ?_
          refine gR_10_1 hx hb hts i10 hown hK hP hR_0 (hts _ q_X10_goesFrom_1) dX10_goesFrom_74 ?_
          refine lv_icmp_ge (tgt := 140) hx hb dX10_goesFrom_77 (by decide) (fun h => ?_) (fun h => ?_)
          · replace hw := hw.1 h
            exact hw _ _ _ hP (lv_sub hl [0, 1, 2, 3] rfl)
          · replace hw := hw.2 h
            refine lv_aload_n hx hb dX10_goesFrom_80 rfl (lv_at hl 0 rfl) ?_
            refine gR_10_2 hx hb hts i10 hown hK hP hR_0 (hts _ q_X10_goesFrom_2) dX10_goesFrom_81 ?_
            refine lv_iload hx hb dX10_goesFrom_84 (lv_at hl 5 rfl) ?_
            refine aR_ld hx hb hK hP hR_2 mR_2 hw.1 dX10_goesFrom_86 ?_
            replace hw := hw.2
            refine lv_iload_n hx hb dX10_goesFrom_87 rfl (lv_at hl 2 rfl) ?_
            refine lv_icmp_ne (tgt := 134) hx hb dX10_goesFrom_88 (by decide) (fun h => ?_) (fun h => ?_)
            · replace hw := hw.1 h
              refine lv_iinc (v := x12 + 1) (lv' := [(5, .int (x12 + 1)), (0, .ref (Γ.2.2 0)), (1, .int a1), (2, .int a2), (3, .int x1), (4, .int r10)]) hx hb dX10_goesFrom_134 hl (k := 5) rfl (congrArg (fun z => x12 + z) (by decide)) (by decide) rfl (fun ls hl => ?_)
              refine lv_goto (tgt := 71) hx hb dX10_goesFrom_137 (by decide) ?_
              exact hw _ _ _ hP (lv_sub hl [1, 2, 3, 4, 5, 0] rfl)
            · replace hw := hw.2 h
              refine lv_aload_n hx hb dX10_goesFrom_91 rfl (lv_at hl 0 rfl) ?_
              refine gR_10_3 hx hb hts i10 hown hK hP hR_0 (hts _ q_X10_goesFrom_4) dX10_goesFrom_92 ?_
              refine lv_iload hx hb dX10_goesFrom_95 (lv_at hl 5 rfl) ?_
              refine aR_ld hx hb hK hP hR_3 mR_3 hw.1 dX10_goesFrom_97 ?_
              replace hw := hw.2
              refine lv_aload_n hx hb dX10_goesFrom_98 rfl (lv_at hl 0 rfl) ?_
              refine gR_10_3 hx hb hts i10 hown hK hP hR_0 (hts _ q_X10_goesFrom_4) dX10_goesFrom_99 ?_
              refine lv_iload_n hx hb dX10_goesFrom_102 rfl (lv_at hl 3 rfl) ?_
              refine aR_ld hx hb hK hP hR_3 mR_3 hw.1 dX10_goesFrom_103 ?_
              replace hw := hw.2
              refine lv_icmp_ne (tgt := 134) hx hb dX10_goesFrom_104 (by decide) (fun h => ?_) (fun h => ?_)
              · replace hw := hw.1 h
                refine lv_iinc (v := x12 + 1) (lv' := [(5, .int (x12 + 1)), (0, .ref (Γ.2.2 0)), (1, .int a1), (2, .int a2), (3, .int x1), (4, .int r10)]) hx hb dX10_goesFrom_134 hl (k := 5) rfl (congrArg (fun z => x12 + z) (by decide)) (by decide) rfl (fun ls hl => ?_)
                refine lv_goto (tgt := 71) hx hb dX10_goesFrom_137 (by decide) ?_
                exact hw _ _ _ hP (lv_sub hl [1, 2, 3, 4, 5, 0] rfl)
              · replace hw := hw.2 h
                refine lv_aload_n hx hb dX10_goesFrom_107 rfl (lv_at hl 0 rfl) ?_
                refine lv_aload_n hx hb dX10_goesFrom_108 rfl (lv_at hl 0 rfl) ?_
                refine gR_10_3 hx hb hts i10 hown hK hP hR_0 (hts _ q_X10_goesFrom_4) dX10_goesFrom_109 ?_
                refine lv_iload hx hb dX10_goesFrom_112 (lv_at hl 5 rfl) ?_
                refine aR_ld hx hb hK hP hR_3 mR_3 hw.1 dX10_goesFrom_114 ?_
                replace hw := hw.2
                refine cR_Vip (rest := []) ⟨hx, hb, hml, hown, hts⟩ (c_X10_isFault l Γ hI (s13.2.1 3 (Int32.toNatClampNeg x12)) s13 _ hw) (cwV 1 hts gX10_goesFrom_X10_isFault rfl rfl rfl (by decide +kernel) ⟨Nat.le_of_ble_eq_true rfl, Nat.le_of_ble_eq_true rfl⟩) hK hN hP (cR_lt hR_0 (by decide)) (cR_E10 hR_0) rfl rfl rfl hl.1 rfl (Nat.le_of_ble_eq_true rfl) dX10_goesFrom_115 ⟨Nat.le_refl _, Nat.le_refl _⟩ (fun r15 H locs hw hP => ?_)
                refine lv_if_ne (tgt := 134) hx hb dX10_goesFrom_118 (by decide) (fun h => ?_) (fun h => ?_)
                · replace hw := hw.1 h
                  refine lv_iinc (v := x12 + 1) (lv' := [(5, .int (x12 + 1)), (0, .ref (Γ.2.2 0)), (1, .int a1), (2, .int a2), (3, .int x1), (4, .int r10)]) hx hb dX10_goesFrom_134 hl (k := 5) rfl (congrArg (fun z => x12 + z) (by decide)) (by decide) rfl (fun ls hl => ?_)
                  refine lv_goto (tgt := 71) hx hb dX10_goesFrom_137 (by decide) ?_
                  exact hw _ _ _ hP (lv_sub hl [1, 2, 3, 4, 5, 0] rfl)
                · replace hw := hw.2 h
                  refine lv_aload_n hx hb dX10_goesFrom_121 rfl (lv_at hl 0 rfl) ?_
                  refine lv_iload hx hb dX10_goesFrom_122 (lv_at hl 4 rfl) ?_
                  refine lv_aload_n hx hb dX10_goesFrom_124 rfl (lv_at hl 0 rfl) ?_
                  refine gR_10_4 hx hb hts i10 hown hK hP hR_0 (hts _ q_X10_goesFrom_3) dX10_goesFrom_125 ?_
                  refine lv_iload hx hb dX10_goesFrom_128 (lv_at hl 5 rfl) ?_
                  refine aR_ld hx hb hK hP hR_4 mR_4 hw.1 dX10_goesFrom_130 ?_
                  replace hw := hw.2
                  refine cR_Vv (rest := []) ⟨hx, hb, hml, hown, hts⟩ (c_X10_comesPair l Γ hI r10 (s13.2.1 4 (Int32.toNatClampNeg x12)) s13 _ hw) (cwV 2 hts gX10_goesFrom_X10_comesPair rfl rfl rfl (by decide +kernel) ⟨Nat.le_of_ble_eq_true rfl, Nat.le_of_ble_eq_true rfl⟩) hK hN hP (cR_lt hR_0 (by decide)) (cR_E10 hR_0) rfl rfl rfl hl.1 rfl (Nat.le_of_ble_eq_true rfl) dX10_goesFrom_131 ⟨Nat.le_refl _, Nat.le_refl _⟩ (fun s16 H locs hw hP => ?_)
                  refine lv_iinc (v := x12 + 1) (lv' := [(5, .int (x12 + 1)), (0, .ref (Γ.2.2 0)), (1, .int a1), (2, .int a2), (3, .int x1), (4, .int r10)]) hx hb dX10_goesFrom_134 hl (k := 5) rfl (congrArg (fun z => x12 + z) (by decide)) (by decide) rfl (fun ls hl => ?_)
                  refine lv_goto (tgt := 71) hx hb dX10_goesFrom_137 (by decide) ?_
                  exact hw _ _ _ hP (lv_sub hl [1, 2, 3, 4, 5, 0] rfl)
        · replace hw := hw.2 h
          refine lv_aload_n hx hb dX10_goesFrom_58 rfl (lv_at hl 1 rfl) ?_
          refine lv_iload hx hb dX10_goesFrom_59 (lv_at hl 0 rfl) ?_
          refine lv_iload_n hx hb dX10_goesFrom_61 rfl (lv_at hl 3 rfl) ?_
          refine cR_Vv (rest := []) ⟨hx, hb, hml, hown, hts⟩ (c_X10_comesPair l Γ hI r10 a2 s2 _ hw) (cwV 2 hts gX10_goesFrom_X10_comesPair rfl rfl rfl (by decide +kernel) ⟨Nat.le_of_ble_eq_true rfl, Nat.le_of_ble_eq_true rfl⟩) hK hN hP (cR_lt hR_0 (by decide)) (cR_E10 hR_0) rfl rfl rfl hl.1 rfl (Nat.le_of_ble_eq_true rfl) dX10_goesFrom_62 ⟨Nat.le_refl _, Nat.le_refl _⟩ (fun s17 H locs hw hP => ?_)
          refine lv_goto (tgt := 140) hx hb dX10_goesFrom_65 (by decide) ?_
          exact hw _ _ _ hP (lv_sub hl [1, 2, 3, 4] rfl)
theorem q_X10_pairMany_1 : (Cond.fieldLink RX10 41 "FaultTwinsModel" "can" "[I") ∈ wsX10_pairMany := List.mem_of_getElem? (i := 1) (by decide +kernel)
set_option maxHeartbeats 4000000 in
set_option maxRecDepth 100000 in
theorem c_X10_pairMany (l : Launch) (Γ : ft_G) (hI : cR_I Γ)  (σ : ft_St) (Φ : Int32 → Prop) (hw : w_X10_pairMany  σ Φ) : cR_Mip l yX10_pairMany wsX10_pairMany ({ frames := 0, cells := 0, slots := 0, locals := 0 } : Room) Γ σ [.ref (Γ.2.2 0)] Φ := by
  refine Met.ofW (cc := cX10_pairMany) (maxL := 3) (ret := (some .int)) (by decide) rfl ?_
  intro p e s m args below meth c s₁ B hml hv
  obtain ⟨rfl, hP, hK, hN⟩ := hv
  have hx := B.exec
  have hb := B.bytes
  have hr := B.returns
  have hts := atoms_spec (ws := wsX10_pairMany) B.pre
  have hown : s.vm.findClass RX10 = some m.cls := findClass_of_methodNamed B.named
  have hlocks := B.notSynchronized
  have i10 : ∀ w ∈ wsX100, w ∈ wsX10_pairMany := fun w h => List.mem_cons_of_mem _ (List.mem_append_right _ h)
  have hP : cR_P Γ s σ s.heap [] := ⟨hP, va_S.rf⟩
  have hl := lv_entry ([.ref (Γ.2.2 0)]) (n := 3) (Nat.le_of_ble_eq_true rfl)
  rw [lg_entry_eq]
  generalize (lg_sl ([.ref (Γ.2.2 0)]) ++ List.replicate (3 - (lg_sl ([.ref (Γ.2.2 0)])).length) Slot.unset).toArray = ls at hl ⊢
  have hl : lv_has ls 3 [(0, .ref (Γ.2.2 0))] := hl
  unfold w_X10_pairMany at hw
  refine lv_iconst (v := 0) hx hb dX10_pairMany_0 (by decide) ?_
  refine lv_istore_n (lv' := [(1, .int 0), (0, .ref (Γ.2.2 0))]) hx hb dX10_pairMany_1 rfl hl (by decide) rfl (fun ls hl => ?_)
  refine lv_iconst (v := 0) hx hb dX10_pairMany_2 (by decide) ?_
  refine lv_istore_n (lv' := [(2, .int 0), (1, .int 0), (0, .ref (Γ.2.2 0))]) hx hb dX10_pairMany_3 rfl hl (by decide) rfl (fun ls hl => ?_)
  refine hw (fun (x1 : Int32) (x2 : Int32) => ∀ (H : Heap) (locs : List Loc) (ls : Array Slot), cR_P Γ s σ H locs → lv_has ls 3 [(0, .ref (Γ.2.2 0)), (1, .int x1), (2, .int x2)] → cR_Wi p l e ({ frames := 0, cells := 0, slots := 0, locals := 0 } : Room) s m [.ref (Γ.2.2 0)] below meth c Γ (fun r u => u = σ ∧ Φ r) H locs 4 ls []) (fun x1 x2 hw H locs ls hP hl => ?_) _ _ _ hP (lv_sub hl [2, 1, 0] rfl)
  refine lv_iload_n hx hb dX10_pairMany_4 rfl (lv_at hl 2 rfl) ?_
  refine lv_sipush (v := 200) hx hb dX10_pairMany_5 (by decide) ?_
  refine lv_icmp_ge (tgt := 26) hx hb dX10_pairMany_8 (by decide) (fun h => ?_) (fun h => ?_)
  · replace hw := hw.1 h
    refine lv_iload_n hx hb dX10_pairMany_26 rfl (lv_at hl 1 rfl) ?_
    exact W.iret hx hb hr (cR_ri hP ⟨rfl, hw⟩) hP.2.2.2 dX10_pairMany_27
  · replace hw := hw.2 h
    refine lv_iload_n hx hb dX10_pairMany_11 rfl (lv_at hl 1 rfl) ?_
    refine lv_aload_n hx hb dX10_pairMany_12 rfl (lv_at hl 0 rfl) ?_
    refine gR_10_15 hx hb hts i10 hown hK hP hR_0 (hts _ q_X10_pairMany_1) dX10_pairMany_13 ?_
    refine lv_iload_n hx hb dX10_pairMany_16 rfl (lv_at hl 2 rfl) ?_
    refine aR_ld hx hb hK hP hR_9 mR_9 hw.1 dX10_pairMany_17 ?_
    replace hw := hw.2
    refine lv_iadd hx hb dX10_pairMany_18 ?_
    refine lv_topi (fun x4 ex4 => ?_)
    replace hw := hw x4 ex4
    refine lv_istore_n (lv' := [(1, .int x4), (0, .ref (Γ.2.2 0)), (2, .int x2)]) hx hb dX10_pairMany_19 rfl hl (by decide) rfl (fun ls hl => ?_)
    refine lv_iinc (v := x2 + 1) (lv' := [(2, .int (x2 + 1)), (1, .int x4), (0, .ref (Γ.2.2 0))]) hx hb dX10_pairMany_20 hl (k := 2) rfl (congrArg (fun z => x2 + z) (by decide)) (by decide) rfl (fun ls hl => ?_)
    refine lv_goto (tgt := 4) hx hb dX10_pairMany_23 (by decide) ?_
    exact hw _ _ _ hP (lv_sub hl [2, 1, 0] rfl)
theorem q_X10_findsPairs_1 : (Cond.fieldLink RX10 41 "FaultTwinsModel" "can" "[I") ∈ wsX10_findsPairs := List.mem_of_getElem? (i := 1) (by decide +kernel)
set_option maxHeartbeats 4000000 in
set_option maxRecDepth 100000 in
theorem c_X10_findsPairs (l : Launch) (Γ : ft_G) (hI : cR_I Γ)  (σ : ft_St) (Φ : ft_St → Prop) (hw : w_X10_findsPairs  σ Φ) : cR_Mv l yX10_findsPairs wsX10_findsPairs ({ frames := 2, cells := 0, slots := 0, locals := 47 } : Room) Γ σ [.ref (Γ.2.2 0)] Φ := by
  refine Met.ofW (cc := cX10_findsPairs) (maxL := 3) (ret := none) (by decide) rfl ?_
  intro p e s m args below meth c s₁ B hml hv
  obtain ⟨rfl, hP, hK, hN⟩ := hv
  have hx := B.exec
  have hb := B.bytes
  have hr := B.returns
  have hts := atoms_spec (ws := wsX10_findsPairs) B.pre
  have hown : s.vm.findClass RX10 = some m.cls := findClass_of_methodNamed B.named
  have hlocks := B.notSynchronized
  have i10 : ∀ w ∈ wsX100, w ∈ wsX10_findsPairs := fun w h => List.mem_cons_of_mem _ (List.mem_append_right _ h)
  have hP : cR_P Γ s σ s.heap [] := ⟨hP, va_S.rf⟩
  have hl := lv_entry ([.ref (Γ.2.2 0)]) (n := 3) (Nat.le_of_ble_eq_true rfl)
  rw [lg_entry_eq]
  generalize (lg_sl ([.ref (Γ.2.2 0)]) ++ List.replicate (3 - (lg_sl ([.ref (Γ.2.2 0)])).length) Slot.unset).toArray = ls at hl ⊢
  have hl : lv_has ls 3 [(0, .ref (Γ.2.2 0))] := hl
  unfold w_X10_findsPairs at hw
  refine lv_iconst (v := 0) hx hb dX10_findsPairs_0 (by decide) ?_
  refine lv_istore_n (lv' := [(1, .int 0), (0, .ref (Γ.2.2 0))]) hx hb dX10_findsPairs_1 rfl hl (by decide) rfl (fun ls hl => ?_)
  refine hw (fun (x1 : Int32) (s2 : ft_St) => ∀ (H : Heap) (locs : List Loc) (ls : Array Slot), cR_P Γ s s2 H locs → lv_has ls 3 [(0, .ref (Γ.2.2 0)), (1, .int x1)] → cR_Wv p l e ({ frames := 2, cells := 0, slots := 0, locals := 47 } : Room) s m [.ref (Γ.2.2 0)] below meth c Γ Φ H locs 2 ls []) (fun x1 s2 hw H locs ls hP hl => ?_) _ _ _ hP (lv_sub hl [1, 0] rfl)
  refine lv_iload_n hx hb dX10_findsPairs_2 rfl (lv_at hl 1 rfl) ?_
  refine lv_sipush (v := 200) hx hb dX10_findsPairs_3 (by decide) ?_
  refine lv_icmp_ge (tgt := 22) hx hb dX10_findsPairs_6 (by decide) (fun h => ?_) (fun h => ?_)
  · replace hw := hw.1 h
    refine lv_aload_n hx hb dX10_findsPairs_22 rfl (lv_at hl 0 rfl) ?_
    refine lv_iconst (v := 0) hx hb dX10_findsPairs_23 (by decide) ?_
    refine lv_iconst (v := 0) hx hb dX10_findsPairs_24 (by decide) ?_
    refine cR_Vv (rest := []) ⟨hx, hb, hml, hown, hts⟩ (c_X10_comesPair l Γ hI 0 0 s2 _ hw) (cwV 2 hts gX10_findsPairs_X10_comesPair rfl rfl rfl (by decide +kernel) ⟨Nat.le_of_ble_eq_true rfl, Nat.le_of_ble_eq_true rfl⟩) hK hN hP (cR_lt hR_0 (by decide)) (cR_E10 hR_0) rfl rfl rfl hl.1 rfl (Nat.le_of_ble_eq_true rfl) dX10_findsPairs_25 ⟨Nat.le_refl _, Nat.le_refl _⟩ (fun s4 H locs hw hP => ?_)
    refine lv_iconst (v := 0) hx hb dX10_findsPairs_28 (by decide) ?_
    refine lv_istore_n (lv' := [(1, .int 0), (0, .ref (Γ.2.2 0))]) hx hb dX10_findsPairs_29 rfl hl (by decide) rfl (fun ls hl => ?_)
    refine hw (fun (x5 : Int32) (s6 : ft_St) => ∀ (H : Heap) (locs : List Loc) (ls : Array Slot), cR_P Γ s s6 H locs → lv_has ls 3 [(0, .ref (Γ.2.2 0)), (1, .int x5)] → cR_Wv p l e ({ frames := 2, cells := 0, slots := 0, locals := 47 } : Room) s m [.ref (Γ.2.2 0)] below meth c Γ Φ H locs 30 ls []) (fun x5 s6 hw H locs ls hP hl => ?_) _ _ _ hP (lv_sub hl [1, 0] rfl)
    refine lv_iload_n hx hb dX10_findsPairs_30 rfl (lv_at hl 1 rfl) ?_
    refine lv_aload_n hx hb dX10_findsPairs_31 rfl (lv_at hl 0 rfl) ?_
    refine cR_Vip (rest := [.int x5]) ⟨hx, hb, hml, hown, hts⟩ (c_X10_pairMany l Γ hI  s6 _ hw) (cwV 0 hts gX10_findsPairs_X10_pairMany rfl rfl rfl (by decide +kernel) ⟨Nat.le_of_ble_eq_true rfl, Nat.le_of_ble_eq_true rfl⟩) hK hN hP (cR_lt hR_0 (by decide)) (cR_E10 hR_0) rfl rfl rfl hl.1 rfl (Nat.le_of_ble_eq_true rfl) dX10_findsPairs_32 ⟨Nat.le_refl _, Nat.le_refl _⟩ (fun r8 H locs hw hP => ?_)
    refine lv_icmp_eq (tgt := 83) hx hb dX10_findsPairs_35 (by decide) (fun h => ?_) (fun h => ?_)
    · replace hw := hw.1 h
      exact W.vret hx hb hr (cR_rv hP hw) hP.2.2.2 dX10_findsPairs_83
    · replace hw := hw.2 h
      refine lv_aload_n hx hb dX10_findsPairs_38 rfl (lv_at hl 0 rfl) ?_
      refine cR_Vip (rest := []) ⟨hx, hb, hml, hown, hts⟩ (c_X10_pairMany l Γ hI  s6 _ hw) (cwV 0 hts gX10_findsPairs_X10_pairMany rfl rfl rfl (by decide +kernel) ⟨Nat.le_of_ble_eq_true rfl, Nat.le_of_ble_eq_true rfl⟩) hK hN hP (cR_lt hR_0 (by decide)) (cR_E10 hR_0) rfl rfl rfl hl.1 rfl (Nat.le_of_ble_eq_true rfl) dX10_findsPairs_39 ⟨Nat.le_refl _, Nat.le_refl _⟩ (fun r9 H locs hw hP => ?_)
      refine lv_istore_n (lv' := [(1, .int r9), (0, .ref (Γ.2.2 0))]) hx hb dX10_findsPairs_42 rfl hl (by decide) rfl (fun ls hl => ?_)
      refine lv_iconst (v := 0) hx hb dX10_findsPairs_43 (by decide) ?_
      refine lv_istore_n (lv' := [(2, .int 0), (1, .int r9), (0, .ref (Γ.2.2 0))]) hx hb dX10_findsPairs_44 rfl hl (by decide) rfl (fun ls hl => ?_)
      refine hw (fun (x10 : Int32) (s11 : ft_St) => ∀ (H : Heap) (locs : List Loc) (ls : Array Slot), cR_P Γ s s11 H locs → lv_has ls 3 [(0, .ref (Γ.2.2 0)), (1, .int r9), (2, .int x10)] → cR_Wv p l e ({ frames := 2, cells := 0, slots := 0, locals := 47 } : Room) s m [.ref (Γ.2.2 0)] below meth c Γ Φ H locs 45 ls []) (fun x10 s11 hw H locs ls hP hl => ?_) _ _ _ hP (lv_sub hl [2, 1, 0] rfl)
      refine lv_iload_n hx hb dX10_findsPairs_45 rfl (lv_at hl 2 rfl) ?_
      refine lv_sipush (v := 200) hx hb dX10_findsPairs_46 (by decide) ?_
      refine lv_icmp_ge (tgt := 80) hx hb dX10_findsPairs_49 (by decide) (fun h => ?_) (fun h => ?_)
      · replace hw := hw.1 h
        refine lv_goto (tgt := 30) hx hb dX10_findsPairs_80 (by decide) ?_
        exact hw _ _ _ hP (lv_sub hl [0, 1] rfl)
      · replace hw := hw.2 h
        refine lv_aload_n hx hb dX10_findsPairs_52 rfl (lv_at hl 0 rfl) ?_
        refine gR_10_15 hx hb hts i10 hown hK hP hR_0 (hts _ q_X10_findsPairs_1) dX10_findsPairs_53 ?_
        refine lv_iload_n hx hb dX10_findsPairs_56 rfl (lv_at hl 2 rfl) ?_
        refine aR_ld hx hb hK hP hR_9 mR_9 hw.1 dX10_findsPairs_57 ?_
        replace hw := hw.2
        refine lv_iconst (v := 1) hx hb dX10_findsPairs_58 (by decide) ?_
        refine lv_icmp_ne (tgt := 74) hx hb dX10_findsPairs_59 (by decide) (fun h => ?_) (fun h => ?_)
        · replace hw := hw.1 h
          refine lv_iinc (v := x10 + 1) (lv' := [(2, .int (x10 + 1)), (0, .ref (Γ.2.2 0)), (1, .int r9)]) hx hb dX10_findsPairs_74 hl (k := 2) rfl (congrArg (fun z => x10 + z) (by decide)) (by decide) rfl (fun ls hl => ?_)
          refine lv_goto (tgt := 45) hx hb dX10_findsPairs_77 (by decide) ?_
          exact hw _ _ _ hP (lv_sub hl [1, 2, 0] rfl)
        · replace hw := hw.2 h
          refine lv_aload_n hx hb dX10_findsPairs_62 rfl (lv_at hl 0 rfl) ?_
          refine lv_iload_n hx hb dX10_findsPairs_63 rfl (lv_at hl 2 rfl) ?_
          refine lv_bipush (v := 10) hx hb dX10_findsPairs_64 (by decide) ?_
          refine lv_idiv hx hb dX10_findsPairs_66 (by decide) ?_
          refine lv_iload_n hx hb dX10_findsPairs_67 rfl (lv_at hl 2 rfl) ?_
          refine lv_bipush (v := 10) hx hb dX10_findsPairs_68 (by decide) ?_
          refine lv_irem hx hb dX10_findsPairs_70 (by decide) ?_
          refine cR_Vv (rest := []) ⟨hx, hb, hml, hown, hts⟩ (c_X10_goesFrom l Γ hI (x10 / 10) (x10 - x10 / 10 * 10) s11 _ hw) (cwV 2 hts gX10_findsPairs_X10_goesFrom rfl rfl rfl (by decide +kernel) ⟨Nat.le_of_ble_eq_true rfl, Nat.le_of_ble_eq_true rfl⟩) hK hN hP (cR_lt hR_0 (by decide)) (cR_E10 hR_0) rfl rfl rfl hl.1 rfl (Nat.le_of_ble_eq_true rfl) dX10_findsPairs_71 ⟨Nat.le_refl _, Nat.le_refl _⟩ (fun s13 H locs hw hP => ?_)
          refine lv_iinc (v := x10 + 1) (lv' := [(2, .int (x10 + 1)), (0, .ref (Γ.2.2 0)), (1, .int r9)]) hx hb dX10_findsPairs_74 hl (k := 2) rfl (congrArg (fun z => x10 + z) (by decide)) (by decide) rfl (fun ls hl => ?_)
          refine lv_goto (tgt := 45) hx hb dX10_findsPairs_77 (by decide) ?_
          exact hw _ _ _ hP (lv_sub hl [1, 2, 0] rfl)
  · replace hw := hw.2 h
    refine lv_aload_n hx hb dX10_findsPairs_9 rfl (lv_at hl 0 rfl) ?_
    refine gR_10_15 hx hb hts i10 hown hK hP hR_0 (hts _ q_X10_findsPairs_1) dX10_findsPairs_10 ?_
    refine lv_iload_n hx hb dX10_findsPairs_13 rfl (lv_at hl 1 rfl) ?_
    refine lv_iconst (v := 0) hx hb dX10_findsPairs_14 (by decide) ?_
    refine aR_st hx hb hK hI hP hR_9 mR_9 hw.1 dX10_findsPairs_15 (fun H locs hP => ?_)
    replace hw := hw.2
    obtain ⟨s14, hs14⟩ : ∃ u, u = ft_sA s2 9 (upd (s2.2.1 9) (Int32.toNatClampNeg x1) 0) := ⟨_, rfl⟩
    rw [← hs14] at hP
    replace hw := hw s14 hs14
    refine lv_iinc (v := x1 + 1) (lv' := [(1, .int (x1 + 1)), (0, .ref (Γ.2.2 0))]) hx hb dX10_findsPairs_16 hl (k := 1) rfl (congrArg (fun z => x1 + z) (by decide)) (by decide) rfl (fun ls hl => ?_)
    refine lv_goto (tgt := 2) hx hb dX10_findsPairs_19 (by decide) ?_
    exact hw _ _ _ hP (lv_sub hl [1, 0] rfl)
theorem q_X10_doubtMany_1 : (Cond.fieldLink RX10 41 "FaultTwinsModel" "can" "[I") ∈ wsX10_doubtMany := List.mem_of_getElem? (i := 1) (by decide +kernel)
set_option maxHeartbeats 4000000 in
set_option maxRecDepth 100000 in
theorem c_X10_doubtMany (l : Launch) (Γ : ft_G) (hI : cR_I Γ)  (σ : ft_St) (Φ : Int32 → Prop) (hw : w_X10_doubtMany  σ Φ) : cR_Mip l yX10_doubtMany wsX10_doubtMany ({ frames := 0, cells := 0, slots := 0, locals := 0 } : Room) Γ σ [.ref (Γ.2.2 0)] Φ := by
  refine Met.ofW (cc := cX10_doubtMany) (maxL := 3) (ret := (some .int)) (by decide) rfl ?_
  intro p e s m args below meth c s₁ B hml hv
  obtain ⟨rfl, hP, hK, hN⟩ := hv
  have hx := B.exec
  have hb := B.bytes
  have hr := B.returns
  have hts := atoms_spec (ws := wsX10_doubtMany) B.pre
  have hown : s.vm.findClass RX10 = some m.cls := findClass_of_methodNamed B.named
  have hlocks := B.notSynchronized
  have i10 : ∀ w ∈ wsX100, w ∈ wsX10_doubtMany := fun w h => List.mem_cons_of_mem _ (List.mem_append_right _ h)
  have hP : cR_P Γ s σ s.heap [] := ⟨hP, va_S.rf⟩
  have hl := lv_entry ([.ref (Γ.2.2 0)]) (n := 3) (Nat.le_of_ble_eq_true rfl)
  rw [lg_entry_eq]
  generalize (lg_sl ([.ref (Γ.2.2 0)]) ++ List.replicate (3 - (lg_sl ([.ref (Γ.2.2 0)])).length) Slot.unset).toArray = ls at hl ⊢
  have hl : lv_has ls 3 [(0, .ref (Γ.2.2 0))] := hl
  unfold w_X10_doubtMany at hw
  refine lv_iconst (v := 0) hx hb dX10_doubtMany_0 (by decide) ?_
  refine lv_istore_n (lv' := [(1, .int 0), (0, .ref (Γ.2.2 0))]) hx hb dX10_doubtMany_1 rfl hl (by decide) rfl (fun ls hl => ?_)
  refine lv_bipush (v := 100) hx hb dX10_doubtMany_2 (by decide) ?_
  refine lv_istore_n (lv' := [(2, .int 100), (1, .int 0), (0, .ref (Γ.2.2 0))]) hx hb dX10_doubtMany_4 rfl hl (by decide) rfl (fun ls hl => ?_)
  refine hw (fun (x1 : Int32) (x2 : Int32) => ∀ (H : Heap) (locs : List Loc) (ls : Array Slot), cR_P Γ s σ H locs → lv_has ls 3 [(0, .ref (Γ.2.2 0)), (1, .int x1), (2, .int x2)] → cR_Wi p l e ({ frames := 0, cells := 0, slots := 0, locals := 0 } : Room) s m [.ref (Γ.2.2 0)] below meth c Γ (fun r u => u = σ ∧ Φ r) H locs 5 ls []) (fun x1 x2 hw H locs ls hP hl => ?_) _ _ _ hP (lv_sub hl [2, 1, 0] rfl)
  refine lv_iload_n hx hb dX10_doubtMany_5 rfl (lv_at hl 2 rfl) ?_
  refine lv_sipush (v := 200) hx hb dX10_doubtMany_6 (by decide) ?_
  refine lv_icmp_ge (tgt := 27) hx hb dX10_doubtMany_9 (by decide) (fun h => ?_) (fun h => ?_)
  · replace hw := hw.1 h
    refine lv_iload_n hx hb dX10_doubtMany_27 rfl (lv_at hl 1 rfl) ?_
    exact W.iret hx hb hr (cR_ri hP ⟨rfl, hw⟩) hP.2.2.2 dX10_doubtMany_28
  · replace hw := hw.2 h
    refine lv_iload_n hx hb dX10_doubtMany_12 rfl (lv_at hl 1 rfl) ?_
    refine lv_aload_n hx hb dX10_doubtMany_13 rfl (lv_at hl 0 rfl) ?_
    refine gR_10_15 hx hb hts i10 hown hK hP hR_0 (hts _ q_X10_doubtMany_1) dX10_doubtMany_14 ?_
    refine lv_iload_n hx hb dX10_doubtMany_17 rfl (lv_at hl 2 rfl) ?_
    refine aR_ld hx hb hK hP hR_9 mR_9 hw.1 dX10_doubtMany_18 ?_
    replace hw := hw.2
    refine lv_iadd hx hb dX10_doubtMany_19 ?_
    refine lv_topi (fun x4 ex4 => ?_)
    replace hw := hw x4 ex4
    refine lv_istore_n (lv' := [(1, .int x4), (0, .ref (Γ.2.2 0)), (2, .int x2)]) hx hb dX10_doubtMany_20 rfl hl (by decide) rfl (fun ls hl => ?_)
    refine lv_iinc (v := x2 + 1) (lv' := [(2, .int (x2 + 1)), (1, .int x4), (0, .ref (Γ.2.2 0))]) hx hb dX10_doubtMany_21 hl (k := 2) rfl (congrArg (fun z => x2 + z) (by decide)) (by decide) rfl (fun ls hl => ?_)
    refine lv_goto (tgt := 5) hx hb dX10_doubtMany_24 (by decide) ?_
    exact hw _ _ _ hP (lv_sub hl [2, 1, 0] rfl)
theorem q_X10_allBy_1 : (Cond.fieldLink RX10 159 "FaultTwinsModel" "found" "I") ∈ wsX10_allBy := List.mem_of_getElem? (i := 1) (by decide +kernel)
set_option maxHeartbeats 4000000 in
set_option maxRecDepth 100000 in
theorem c_X10_allBy (l : Launch) (Γ : ft_G) (hI : cR_I Γ) (a1 : Int32) (σ : ft_St) (Φ : Int32 → ft_St → Prop) (hw : w_X10_allBy a1 σ Φ) : cR_Mi l yX10_allBy wsX10_allBy ({ frames := 5, cells := 0, slots := 0, locals := 115 } : Room) Γ σ [.ref (Γ.2.2 0), .int a1] Φ := by
  refine Met.ofW (cc := cX10_allBy) (maxL := 2) (ret := (some .int)) (by decide) rfl ?_
  intro p e s m args below meth c s₁ B hml hv
  obtain ⟨rfl, hP, hK, hN⟩ := hv
  have hx := B.exec
  have hb := B.bytes
  have hr := B.returns
  have hts := atoms_spec (ws := wsX10_allBy) B.pre
  have hown : s.vm.findClass RX10 = some m.cls := findClass_of_methodNamed B.named
  have hlocks := B.notSynchronized
  have i10 : ∀ w ∈ wsX100, w ∈ wsX10_allBy := fun w h => List.mem_cons_of_mem _ (List.mem_append_right _ h)
  have hP : cR_P Γ s σ s.heap [] := ⟨hP, va_S.rf⟩
  have hl := lv_entry ([.ref (Γ.2.2 0), .int a1]) (n := 2) (Nat.le_of_ble_eq_true rfl)
  rw [lg_entry_eq]
  generalize (lg_sl ([.ref (Γ.2.2 0), .int a1]) ++ List.replicate (2 - (lg_sl ([.ref (Γ.2.2 0), .int a1])).length) Slot.unset).toArray = ls at hl ⊢
  have hl : lv_has ls 2 [(0, .ref (Γ.2.2 0)), (1, .int a1)] := hl
  unfold w_X10_allBy at hw
  refine lv_iload_n hx hb dX10_allBy_0 rfl (lv_at hl 1 rfl) ?_
  refine lv_if_ne (tgt := 9) hx hb dX10_allBy_1 (by decide) (fun h => ?_) (fun h => ?_)
  · replace hw := hw.1 h
    refine lv_iload_n hx hb dX10_allBy_9 rfl (lv_at hl 1 rfl) ?_
    refine lv_iconst (v := 4) hx hb dX10_allBy_10 (by decide) ?_
    refine lv_icmp_ge (tgt := 45) hx hb dX10_allBy_11 (by decide) (fun h => ?_) (fun h => ?_)
    · replace hw := hw.1 h
      refine lv_aload_n hx hb dX10_allBy_45 rfl (lv_at hl 0 rfl) ?_
      refine cR_Vv (rest := []) ⟨hx, hb, hml, hown, hts⟩ (c_X10_findsPairs l Γ hI  σ _ hw) (cwV 0 hts gX10_allBy_X10_findsPairs rfl rfl rfl (by decide +kernel) ⟨Nat.le_of_ble_eq_true rfl, Nat.le_of_ble_eq_true rfl⟩) hK hN hP (cR_lt hR_0 (by decide)) (cR_E10 hR_0) rfl rfl rfl hl.1 rfl (Nat.le_of_ble_eq_true rfl) dX10_allBy_46 ⟨Nat.le_refl _, Nat.le_refl _⟩ (fun s1 H locs hw hP => ?_)
      refine lv_iload_n hx hb dX10_allBy_49 rfl (lv_at hl 1 rfl) ?_
      refine lv_iconst (v := 4) hx hb dX10_allBy_50 (by decide) ?_
      refine lv_icmp_ne (tgt := 61) hx hb dX10_allBy_51 (by decide) (fun h => ?_) (fun h => ?_)
      · replace hw := hw.1 h
        refine lv_aload_n hx hb dX10_allBy_61 rfl (lv_at hl 0 rfl) ?_
        refine cR_Vip (rest := []) ⟨hx, hb, hml, hown, hts⟩ (c_X10_doubtMany l Γ hI  s1 _ hw) (cwV 0 hts gX10_allBy_X10_doubtMany rfl rfl rfl (by decide +kernel) ⟨Nat.le_of_ble_eq_true rfl, Nat.le_of_ble_eq_true rfl⟩) hK hN hP (cR_lt hR_0 (by decide)) (cR_E10 hR_0) rfl rfl rfl hl.1 rfl (Nat.le_of_ble_eq_true rfl) dX10_allBy_62 ⟨Nat.le_refl _, Nat.le_refl _⟩ (fun r2 H locs hw hP => ?_)
        exact W.iret hx hb hr (cR_ri hP hw) hP.2.2.2 dX10_allBy_65
      · replace hw := hw.2 h
        refine lv_aload_n hx hb dX10_allBy_54 rfl (lv_at hl 0 rfl) ?_
        refine cR_Vip (rest := []) ⟨hx, hb, hml, hown, hts⟩ (c_X10_pairMany l Γ hI  s1 _ hw) (cwV 0 hts gX10_allBy_X10_pairMany rfl rfl rfl (by decide +kernel) ⟨Nat.le_of_ble_eq_true rfl, Nat.le_of_ble_eq_true rfl⟩) hK hN hP (cR_lt hR_0 (by decide)) (cR_E10 hR_0) rfl rfl rfl hl.1 rfl (Nat.le_of_ble_eq_true rfl) dX10_allBy_55 ⟨Nat.le_refl _, Nat.le_refl _⟩ (fun r3 H locs hw hP => ?_)
        refine lv_goto (tgt := 65) hx hb dX10_allBy_58 (by decide) ?_
        exact W.iret hx hb hr (cR_ri hP hw) hP.2.2.2 dX10_allBy_65
    · replace hw := hw.2 h
      refine lv_aload_n hx hb dX10_allBy_14 rfl (lv_at hl 0 rfl) ?_
      refine cR_Vv (rest := []) ⟨hx, hb, hml, hown, hts⟩ (c_X10_findsSets l Γ hI  σ _ hw) (cwV 0 hts gX10_allBy_X10_findsSets rfl rfl rfl (by decide +kernel) ⟨Nat.le_of_ble_eq_true rfl, Nat.le_of_ble_eq_true rfl⟩) hK hN hP (cR_lt hR_0 (by decide)) (cR_E10 hR_0) rfl rfl rfl hl.1 rfl (Nat.le_of_ble_eq_true rfl) dX10_allBy_15 ⟨Nat.le_refl _, Nat.le_refl _⟩ (fun s4 H locs hw hP => ?_)
      refine lv_iload_n hx hb dX10_allBy_18 rfl (lv_at hl 1 rfl) ?_
      refine lv_iconst (v := 1) hx hb dX10_allBy_19 (by decide) ?_
      refine lv_icmp_ne (tgt := 30) hx hb dX10_allBy_20 (by decide) (fun h => ?_) (fun h => ?_)
      · replace hw := hw.1 h
        refine lv_aload_n hx hb dX10_allBy_30 rfl (lv_at hl 0 rfl) ?_
        refine lv_iload_n hx hb dX10_allBy_31 rfl (lv_at hl 1 rfl) ?_
        refine lv_iconst (v := 2) hx hb dX10_allBy_32 (by decide) ?_
        refine ft_cut (hw (fun (x5 : Int32) => ∀ (H : Heap) (locs : List Loc) (ls : Array Slot), cR_P Γ s s4 H locs → lv_has ls 2 [] → cR_Wi p l e ({ frames := 5, cells := 0, slots := 0, locals := 115 } : Room) s m [.ref (Γ.2.2 0), .int a1] below meth c Γ Φ H locs 41 ls [.int x5, .ref (Γ.2.2 0)]) (fun x5 hw H locs ls hP hl => ?_)) (fun hw => ?_)
        · refine cR_Vip (rest := []) ⟨hx, hb, hml, hown, hts⟩ (c_X10_setsWith l Γ hI x5 s4 _ hw) (cwV 1 hts gX10_allBy_X10_setsWith rfl rfl rfl (by decide +kernel) ⟨Nat.le_of_ble_eq_true rfl, Nat.le_of_ble_eq_true rfl⟩) hK hN hP (cR_lt hR_0 (by decide)) (cR_E10 hR_0) rfl rfl rfl hl.1 rfl (Nat.le_of_ble_eq_true rfl) dX10_allBy_41 ⟨Nat.le_refl _, Nat.le_refl _⟩ (fun r7 H locs hw hP => ?_)
          exact W.iret hx hb hr (cR_ri hP hw) hP.2.2.2 dX10_allBy_44
        · refine lv_icmp_ne (tgt := 40) hx hb dX10_allBy_33 (by decide) (fun h => ?_) (fun h => ?_)
          · replace hw := hw.1 h
            refine lv_iconst (v := 1) hx hb dX10_allBy_40 (by decide) ?_
            exact hw _ _ _ hP (lv_sub hl [] rfl)
          · replace hw := hw.2 h
            refine lv_iconst (v := 2) hx hb dX10_allBy_36 (by decide) ?_
            refine lv_goto (tgt := 41) hx hb dX10_allBy_37 (by decide) ?_
            exact hw _ _ _ hP (lv_sub hl [] rfl)
      · replace hw := hw.2 h
        refine lv_aload_n hx hb dX10_allBy_23 rfl (lv_at hl 0 rfl) ?_
        refine gR_10_12 hx hb hts i10 hown hK hP hR_0 (hts _ q_X10_allBy_1) dX10_allBy_24 ?_
        refine lv_goto (tgt := 44) hx hb dX10_allBy_27 (by decide) ?_
        exact W.iret hx hb hr (cR_ri hP hw) hP.2.2.2 dX10_allBy_44
  · replace hw := hw.2 h
    refine lv_aload_n hx hb dX10_allBy_4 rfl (lv_at hl 0 rfl) ?_
    refine cR_Vip (rest := []) ⟨hx, hb, hml, hown, hts⟩ (c_X10_allMarks l Γ hI  σ _ hw) (cwV 0 hts gX10_allBy_X10_allMarks rfl rfl rfl (by decide +kernel) ⟨Nat.le_of_ble_eq_true rfl, Nat.le_of_ble_eq_true rfl⟩) hK hN hP (cR_lt hR_0 (by decide)) (cR_E10 hR_0) rfl rfl rfl hl.1 rfl (Nat.le_of_ble_eq_true rfl) dX10_allBy_5 ⟨Nat.le_refl _, Nat.le_refl _⟩ (fun r8 H locs hw hP => ?_)
    exact W.iret hx hb hr (cR_ri hP hw) hP.2.2.2 dX10_allBy_8
set_option maxHeartbeats 4000000 in
set_option maxRecDepth 100000 in
theorem c_X10_all (l : Launch) (Γ : ft_G) (hI : cR_I Γ) (a1 : Int32) (σ : ft_St) (Φ : Int32 → ft_St → Prop) (hw : w_X10_all a1 σ Φ) : cR_Mi l yX10_all wsX10_all ({ frames := 6, cells := 0, slots := 0, locals := 136 } : Room) Γ σ [.ref (Γ.2.2 0), .int a1] Φ := by
  refine Met.ofW (cc := cX10_all) (maxL := 2) (ret := (some .int)) (by decide) rfl ?_
  intro p e s m args below meth c s₁ B hml hv
  obtain ⟨rfl, hP, hK, hN⟩ := hv
  have hx := B.exec
  have hb := B.bytes
  have hr := B.returns
  have hts := atoms_spec (ws := wsX10_all) B.pre
  have hown : s.vm.findClass RX10 = some m.cls := findClass_of_methodNamed B.named
  have hlocks := B.notSynchronized
  have hP : cR_P Γ s σ s.heap [] := ⟨hP, va_S.rf⟩
  have hl := lv_entry ([.ref (Γ.2.2 0), .int a1]) (n := 2) (Nat.le_of_ble_eq_true rfl)
  rw [lg_entry_eq]
  generalize (lg_sl ([.ref (Γ.2.2 0), .int a1]) ++ List.replicate (2 - (lg_sl ([.ref (Γ.2.2 0), .int a1])).length) Slot.unset).toArray = ls at hl ⊢
  have hl : lv_has ls 2 [(0, .ref (Γ.2.2 0)), (1, .int a1)] := hl
  unfold w_X10_all at hw
  refine lv_iload_n hx hb dX10_all_0 rfl (lv_at hl 1 rfl) ?_
  refine lv_iconst (v := 0) hx hb dX10_all_1 (by decide) ?_
  refine lv_iconst (v := 5) hx hb dX10_all_2 (by decide) ?_
  refine cR_Sip (rest := []) ⟨hx, hb, hml, hown, hts⟩ (c_X10_in l Γ hI a1 0 5 σ _ hw) (va_cwS 3 hts gX10_all_X10_in rfl rfl rfl (by decide +kernel) ⟨Nat.le_of_ble_eq_true rfl, Nat.le_of_ble_eq_true rfl⟩) hK hN hP rfl hl.1 rfl (Nat.le_of_ble_eq_true rfl) dX10_all_3 ⟨Nat.le_refl _, Nat.le_refl _⟩ (fun r1 H locs hw hP => ?_)
  refine lv_if_eq (tgt := 17) hx hb dX10_all_6 (by decide) (fun h => ?_) (fun h => ?_)
  · replace hw := hw.1 h
    refine lv_aload_n hx hb dX10_all_17 rfl (lv_at hl 0 rfl) ?_
    refine cR_Vi (rest := []) ⟨hx, hb, hml, hown, hts⟩ (c_X10_bad l Γ hI  σ _ hw) (cwV 0 hts gX10_all_X10_bad rfl rfl rfl (by decide +kernel) ⟨Nat.le_of_ble_eq_true rfl, Nat.le_of_ble_eq_true rfl⟩) hK hN hP (cR_lt hR_0 (by decide)) (cR_E10 hR_0) rfl rfl rfl hl.1 rfl (Nat.le_of_ble_eq_true rfl) dX10_all_18 ⟨Nat.le_refl _, Nat.le_refl _⟩ (fun r2 s3 H locs hw hP => ?_)
    exact W.iret hx hb hr (cR_ri hP hw) hP.2.2.2 dX10_all_21
  · replace hw := hw.2 h
    refine lv_aload_n hx hb dX10_all_9 rfl (lv_at hl 0 rfl) ?_
    refine lv_iload_n hx hb dX10_all_10 rfl (lv_at hl 1 rfl) ?_
    refine cR_Vi (rest := []) ⟨hx, hb, hml, hown, hts⟩ (c_X10_allBy l Γ hI a1 σ _ hw) (cwV 1 hts gX10_all_X10_allBy rfl rfl rfl (by decide +kernel) ⟨Nat.le_of_ble_eq_true rfl, Nat.le_of_ble_eq_true rfl⟩) hK hN hP (cR_lt hR_0 (by decide)) (cR_E10 hR_0) rfl rfl rfl hl.1 rfl (Nat.le_of_ble_eq_true rfl) dX10_all_11 ⟨Nat.le_refl _, Nat.le_refl _⟩ (fun r4 s5 H locs hw hP => ?_)
    refine lv_goto (tgt := 21) hx hb dX10_all_14 (by decide) ?_
    exact W.iret hx hb hr (cR_ri hP hw) hP.2.2.2 dX10_all_21
set_option maxHeartbeats 4000000 in
set_option maxRecDepth 100000 in
theorem c_X10_has (l : Launch) (Γ : ft_G) (hI : cR_I Γ) (a0 : Int64) (a2 : Int64) (a4 : Int32) (σ : ft_St) (Φ : Int32 → Prop) (hw : w_X10_has a0 a2 a4  Φ) : cR_Mip l yX10_has wsX10_has ({ frames := 0, cells := 0, slots := 0, locals := 0 } : Room) Γ σ [.long a0, .long a2, .int a4] Φ := by
  refine Met.ofW (cc := cX10_has) (maxL := 5) (ret := (some .boolean)) (by decide) rfl ?_
  intro p e s m args below meth c s₁ B hml hv
  obtain ⟨rfl, hP, hK, hN⟩ := hv
  have hx := B.exec
  have hb := B.bytes
  have hr := B.returns
  have hts := atoms_spec (ws := wsX10_has) B.pre
  have hown : s.vm.findClass RX10 = some m.cls := findClass_of_methodNamed B.named
  have hlocks := B.notSynchronized
  have hP : cR_P Γ s σ s.heap [] := ⟨hP, va_S.rf⟩
  have hl := lv_entry ([.long a0, .long a2, .int a4]) (n := 5) (Nat.le_of_ble_eq_true rfl)
  rw [lg_entry_eq]
  generalize (lg_sl ([.long a0, .long a2, .int a4]) ++ List.replicate (5 - (lg_sl ([.long a0, .long a2, .int a4])).length) Slot.unset).toArray = ls at hl ⊢
  have hl : lv_has ls 5 [(0, .long a0), (2, .long a2), (4, .int a4)] := hl
  unfold w_X10_has at hw
  refine lv_iload hx hb dX10_has_0 (lv_at hl 2 rfl) ?_
  refine lv_bipush (v := 50) hx hb dX10_has_2 (by decide) ?_
  refine ft_cut (hw (fun (y1 : Int64) => ∀ (H : Heap) (locs : List Loc) (ls : Array Slot), cR_P Γ s σ H locs → lv_has ls 5 [] → cR_Wi p l e ({ frames := 0, cells := 0, slots := 0, locals := 0 } : Room) s m [.long a0, .long a2, .int a4] below meth c Γ (fun r u => u = σ ∧ Φ r) H locs 25 ls [.long y1]) (fun y1 hw H locs ls hP hl => ?_)) (fun hw => ?_)
  · refine lv_lconst (v := 1) hx hb dX10_has_25 rfl ?_
    refine W.lcmp hx hb dX10_has_26 ?_
    refine lv_if_ne (tgt := 34) hx hb dX10_has_27 (by decide) (fun h => ?_) (fun h => ?_)
    · replace hw := hw.1 h
      refine lv_iconst (v := 0) hx hb dX10_has_34 (by decide) ?_
      exact W.zret hx hb hr rfl (cR_ri hP ⟨rfl, hw⟩) hP.2.2.2 dX10_has_35
    · replace hw := hw.2 h
      refine lv_iconst (v := 1) hx hb dX10_has_30 (by decide) ?_
      refine lv_goto (tgt := 35) hx hb dX10_has_31 (by decide) ?_
      exact W.zret hx hb hr rfl (cR_ri hP ⟨rfl, hw⟩) hP.2.2.2 dX10_has_35
  · refine lv_icmp_ge (tgt := 16) hx hb dX10_has_4 (by decide) (fun h => ?_) (fun h => ?_)
    · replace hw := hw.1 h
      refine lv_lload_n hx hb dX10_has_16 rfl (lv_at hl 1 rfl) ?_
      refine lv_iload hx hb dX10_has_17 (lv_at hl 2 rfl) ?_
      refine lv_bipush (v := 50) hx hb dX10_has_19 (by decide) ?_
      refine lv_isub hx hb dX10_has_21 ?_
      refine lv_lshr hx hb dX10_has_22 rfl ?_
      refine lv_lconst (v := 1) hx hb dX10_has_23 rfl ?_
      refine lv_land hx hb dX10_has_24 ?_
      exact hw _ _ _ hP (lv_sub hl [] rfl)
    · replace hw := hw.2 h
      refine lv_lload_n hx hb dX10_has_7 rfl (lv_at hl 0 rfl) ?_
      refine lv_iload hx hb dX10_has_8 (lv_at hl 2 rfl) ?_
      refine lv_lshr hx hb dX10_has_10 rfl ?_
      refine lv_lconst (v := 1) hx hb dX10_has_11 rfl ?_
      refine lv_land hx hb dX10_has_12 ?_
      refine lv_goto (tgt := 25) hx hb dX10_has_13 (by decide) ?_
      exact hw _ _ _ hP (lv_sub hl [] rfl)
theorem q_X10_leads_1 : (Cond.fieldLink RX10 51 "FaultTwinsModel" "low" "[J") ∈ wsX10_leads := List.mem_of_getElem? (i := 1) (by decide +kernel)
theorem q_X10_leads_2 : (Cond.fieldLink RX10 44 "FaultTwinsModel" "markLow" "[J") ∈ wsX10_leads := List.mem_of_getElem? (i := 2) (by decide +kernel)
theorem q_X10_leads_3 : (Cond.fieldLink RX10 54 "FaultTwinsModel" "high" "[J") ∈ wsX10_leads := List.mem_of_getElem? (i := 3) (by decide +kernel)
theorem q_X10_leads_4 : (Cond.fieldLink RX10 48 "FaultTwinsModel" "markHigh" "[J") ∈ wsX10_leads := List.mem_of_getElem? (i := 4) (by decide +kernel)
set_option maxHeartbeats 4000000 in
set_option maxRecDepth 100000 in
theorem c_X10_leads (l : Launch) (Γ : ft_G) (hI : cR_I Γ) (a1 : Int32) (a2 : Int32) (a3 : Int32) (σ : ft_St) (Φ : ft_St → Prop) (hw : w_X10_leads a1 a2 a3 σ Φ) : cR_Mv l yX10_leads wsX10_leads ({ frames := 0, cells := 0, slots := 0, locals := 0 } : Room) Γ σ [.ref (Γ.2.2 0), .int a1, .int a2, .int a3] Φ := by
  refine Met.ofW (cc := cX10_leads) (maxL := 6) (ret := none) (by decide) rfl ?_
  intro p e s m args below meth c s₁ B hml hv
  obtain ⟨rfl, hP, hK, hN⟩ := hv
  have hx := B.exec
  have hb := B.bytes
  have hr := B.returns
  have hts := atoms_spec (ws := wsX10_leads) B.pre
  have hown : s.vm.findClass RX10 = some m.cls := findClass_of_methodNamed B.named
  have hlocks := B.notSynchronized
  have i10 : ∀ w ∈ wsX100, w ∈ wsX10_leads := fun w h => List.mem_cons_of_mem _ (List.mem_append_right _ h)
  have hP : cR_P Γ s σ s.heap [] := ⟨hP, va_S.rf⟩
  have hl := lv_entry ([.ref (Γ.2.2 0), .int a1, .int a2, .int a3]) (n := 6) (Nat.le_of_ble_eq_true rfl)
  rw [lg_entry_eq]
  generalize (lg_sl ([.ref (Γ.2.2 0), .int a1, .int a2, .int a3]) ++ List.replicate (6 - (lg_sl ([.ref (Γ.2.2 0), .int a1, .int a2, .int a3])).length) Slot.unset).toArray = ls at hl ⊢
  have hl : lv_has ls 6 [(0, .ref (Γ.2.2 0)), (1, .int a1), (2, .int a2), (3, .int a3)] := hl
  unfold w_X10_leads at hw
  refine lv_lconst (v := 1) hx hb dX10_leads_0 rfl ?_
  refine lv_iload_n hx hb dX10_leads_1 rfl (lv_at hl 2 rfl) ?_
  refine lv_bipush (v := 50) hx hb dX10_leads_2 (by decide) ?_
  refine lv_irem hx hb dX10_leads_4 (by decide) ?_
  refine lv_lshl hx hb dX10_leads_5 rfl ?_
  refine lv_topl (fun y1 ey1 => ?_)
  replace hw := hw y1 ey1
  refine lv_lstore (lv' := [(4, .long y1), (0, .ref (Γ.2.2 0)), (1, .int a1), (2, .int a2), (3, .int a3)]) hx hb dX10_leads_6 hl (by decide) rfl (fun ls hl => ?_)
  refine lv_iload_n hx hb dX10_leads_8 rfl (lv_at hl 3 rfl) ?_
  refine lv_bipush (v := 50) hx hb dX10_leads_9 (by decide) ?_
  refine lv_icmp_ge (tgt := 47) hx hb dX10_leads_11 (by decide) (fun h => ?_) (fun h => ?_)
  · replace hw := hw.1 h
    refine lv_aload_n hx hb dX10_leads_47 rfl (lv_at hl 1 rfl) ?_
    refine gR_10_19 hx hb hts i10 hown hK hP hR_0 (hts _ q_X10_leads_3) dX10_leads_48 ?_
    refine lv_iload_n hx hb dX10_leads_51 rfl (lv_at hl 2 rfl) ?_
    refine lv_dup2_11 hx hb dX10_leads_52 rfl rfl ?_
    refine aR_lld hx hb hK hP hR_13 mR_13 hw.1 dX10_leads_53 ?_
    replace hw := hw.2
    refine lv_lload hx hb dX10_leads_54 (lv_at hl 0 rfl) ?_
    refine lv_lor hx hb dX10_leads_56 ?_
    refine aR_lst hx hb hK hI hP hR_13 mR_13 hw.1 dX10_leads_57 (fun H locs hP => ?_)
    replace hw := hw.2
    obtain ⟨s2, hs2⟩ : ∃ u, u = ft_sL σ 13 (vp_updL (σ.2.2 13) (Int32.toNatClampNeg a1) ((σ.2.2 13 (Int32.toNatClampNeg a1)) ||| y1)) := ⟨_, rfl⟩
    rw [← hs2] at hP
    replace hw := hw s2 hs2
    refine lv_aload_n hx hb dX10_leads_58 rfl (lv_at hl 1 rfl) ?_
    refine gR_10_17 hx hb hts i10 hown hK hP hR_0 (hts _ q_X10_leads_4) dX10_leads_59 ?_
    refine lv_iload_n hx hb dX10_leads_62 rfl (lv_at hl 2 rfl) ?_
    refine lv_dup2_11 hx hb dX10_leads_63 rfl rfl ?_
    refine aR_lld hx hb hK hP hR_11 mR_11 hw.1 dX10_leads_64 ?_
    replace hw := hw.2
    refine lv_iload_n hx hb dX10_leads_65 rfl (lv_at hl 4 rfl) ?_
    refine ft_cut (hw (fun (y3 : Int64) => ∀ (H : Heap) (locs : List Loc) (ls : Array Slot), cR_P Γ s s2 H locs → lv_has ls 6 [] → cR_Wv p l e ({ frames := 0, cells := 0, slots := 0, locals := 0 } : Room) s m [.ref (Γ.2.2 0), .int a1, .int a2, .int a3] below meth c Γ Φ H locs 75 ls [.long y3, .long (s2.2.2 11 (Int32.toNatClampNeg a1)), .int a1, .ref (Γ.2.2 11)]) (fun y3 hw H locs ls hP hl => ?_)) (fun hw => ?_)
    · refine lv_lor hx hb dX10_leads_75 ?_
      refine aR_lst hx hb hK hI hP hR_11 mR_11 hw.1 dX10_leads_76 (fun H locs hP => ?_)
      replace hw := hw.2
      obtain ⟨s5, hs5⟩ : ∃ u, u = ft_sL s2 11 (vp_updL (s2.2.2 11) (Int32.toNatClampNeg a1) ((s2.2.2 11 (Int32.toNatClampNeg a1)) ||| y3)) := ⟨_, rfl⟩
      rw [← hs5] at hP
      replace hw := hw s5 hs5
      exact W.vret hx hb hr (cR_rv hP hw) hP.2.2.2 dX10_leads_77
    · refine lv_if_eq (tgt := 74) hx hb dX10_leads_66 (by decide) (fun h => ?_) (fun h => ?_)
      · replace hw := hw.1 h
        refine lv_lconst (v := 0) hx hb dX10_leads_74 rfl ?_
        exact hw _ _ _ hP (lv_sub hl [] rfl)
      · replace hw := hw.2 h
        refine lv_lload hx hb dX10_leads_69 (lv_at hl 0 rfl) ?_
        refine lv_goto (tgt := 75) hx hb dX10_leads_71 (by decide) ?_
        exact hw _ _ _ hP (lv_sub hl [] rfl)
  · replace hw := hw.2 h
    refine lv_aload_n hx hb dX10_leads_14 rfl (lv_at hl 1 rfl) ?_
    refine gR_10_18 hx hb hts i10 hown hK hP hR_0 (hts _ q_X10_leads_1) dX10_leads_15 ?_
    refine lv_iload_n hx hb dX10_leads_18 rfl (lv_at hl 2 rfl) ?_
    refine lv_dup2_11 hx hb dX10_leads_19 rfl rfl ?_
    refine aR_lld hx hb hK hP hR_12 mR_12 hw.1 dX10_leads_20 ?_
    replace hw := hw.2
    refine lv_lload hx hb dX10_leads_21 (lv_at hl 0 rfl) ?_
    refine lv_lor hx hb dX10_leads_23 ?_
    refine aR_lst hx hb hK hI hP hR_12 mR_12 hw.1 dX10_leads_24 (fun H locs hP => ?_)
    replace hw := hw.2
    obtain ⟨s6, hs6⟩ : ∃ u, u = ft_sL σ 12 (vp_updL (σ.2.2 12) (Int32.toNatClampNeg a1) ((σ.2.2 12 (Int32.toNatClampNeg a1)) ||| y1)) := ⟨_, rfl⟩
    rw [← hs6] at hP
    replace hw := hw s6 hs6
    refine lv_aload_n hx hb dX10_leads_25 rfl (lv_at hl 1 rfl) ?_
    refine gR_10_16 hx hb hts i10 hown hK hP hR_0 (hts _ q_X10_leads_2) dX10_leads_26 ?_
    refine lv_iload_n hx hb dX10_leads_29 rfl (lv_at hl 2 rfl) ?_
    refine lv_dup2_11 hx hb dX10_leads_30 rfl rfl ?_
    refine aR_lld hx hb hK hP hR_10 mR_10 hw.1 dX10_leads_31 ?_
    replace hw := hw.2
    refine lv_iload_n hx hb dX10_leads_32 rfl (lv_at hl 4 rfl) ?_
    refine ft_cut (hw (fun (y7 : Int64) => ∀ (H : Heap) (locs : List Loc) (ls : Array Slot), cR_P Γ s s6 H locs → lv_has ls 6 [] → cR_Wv p l e ({ frames := 0, cells := 0, slots := 0, locals := 0 } : Room) s m [.ref (Γ.2.2 0), .int a1, .int a2, .int a3] below meth c Γ Φ H locs 42 ls [.long y7, .long (s6.2.2 10 (Int32.toNatClampNeg a1)), .int a1, .ref (Γ.2.2 10)]) (fun y7 hw H locs ls hP hl => ?_)) (fun hw => ?_)
    · refine lv_lor hx hb dX10_leads_42 ?_
      refine aR_lst hx hb hK hI hP hR_10 mR_10 hw.1 dX10_leads_43 (fun H locs hP => ?_)
      replace hw := hw.2
      obtain ⟨s9, hs9⟩ : ∃ u, u = ft_sL s6 10 (vp_updL (s6.2.2 10) (Int32.toNatClampNeg a1) ((s6.2.2 10 (Int32.toNatClampNeg a1)) ||| y7)) := ⟨_, rfl⟩
      rw [← hs9] at hP
      replace hw := hw s9 hs9
      refine lv_goto (tgt := 77) hx hb dX10_leads_44 (by decide) ?_
      exact W.vret hx hb hr (cR_rv hP hw) hP.2.2.2 dX10_leads_77
    · refine lv_if_eq (tgt := 41) hx hb dX10_leads_33 (by decide) (fun h => ?_) (fun h => ?_)
      · replace hw := hw.1 h
        refine lv_lconst (v := 0) hx hb dX10_leads_41 rfl ?_
        exact hw _ _ _ hP (lv_sub hl [] rfl)
      · replace hw := hw.2 h
        refine lv_lload hx hb dX10_leads_36 (lv_at hl 0 rfl) ?_
        refine lv_goto (tgt := 42) hx hb dX10_leads_38 (by decide) ?_
        exact hw _ _ _ hP (lv_sub hl [] rfl)
theorem q_X10_leadsFrom_1 : (Cond.fieldLink RX10 70 "FaultTwinsModel" "many" "I") ∈ wsX10_leadsFrom := List.mem_of_getElem? (i := 1) (by decide +kernel)
theorem q_X10_leadsFrom_2 : (Cond.fieldLink RX10 13 "FaultTwinsModel" "from" "[I") ∈ wsX10_leadsFrom := List.mem_of_getElem? (i := 2) (by decide +kernel)
theorem q_X10_leadsFrom_3 : (Cond.fieldLink RX10 16 "FaultTwinsModel" "by" "[I") ∈ wsX10_leadsFrom := List.mem_of_getElem? (i := 3) (by decide +kernel)
theorem q_X10_leadsFrom_4 : (Cond.fieldLink RX10 19 "FaultTwinsModel" "to" "[I") ∈ wsX10_leadsFrom := List.mem_of_getElem? (i := 4) (by decide +kernel)
set_option maxHeartbeats 4000000 in
set_option maxRecDepth 100000 in
theorem c_X10_leadsFrom (l : Launch) (Γ : ft_G) (hI : cR_I Γ) (a1 : Int32) (a2 : Int32) (σ : ft_St) (Φ : ft_St → Prop) (hw : w_X10_leadsFrom a1 a2 σ Φ) : cR_Mv l yX10_leadsFrom wsX10_leadsFrom ({ frames := 1, cells := 0, slots := 0, locals := 25 } : Room) Γ σ [.ref (Γ.2.2 0), .int a1, .int a2] Φ := by
  refine Met.ofW (cc := cX10_leadsFrom) (maxL := 6) (ret := none) (by decide) rfl ?_
  intro p e s m args below meth c s₁ B hml hv
  obtain ⟨rfl, hP, hK, hN⟩ := hv
  have hx := B.exec
  have hb := B.bytes
  have hr := B.returns
  have hts := atoms_spec (ws := wsX10_leadsFrom) B.pre
  have hown : s.vm.findClass RX10 = some m.cls := findClass_of_methodNamed B.named
  have hlocks := B.notSynchronized
  have i10 : ∀ w ∈ wsX100, w ∈ wsX10_leadsFrom := fun w h => List.mem_cons_of_mem _ (List.mem_append_right _ h)
  have hP : cR_P Γ s σ s.heap [] := ⟨hP, va_S.rf⟩
  have hl := lv_entry ([.ref (Γ.2.2 0), .int a1, .int a2]) (n := 6) (Nat.le_of_ble_eq_true rfl)
  rw [lg_entry_eq]
  generalize (lg_sl ([.ref (Γ.2.2 0), .int a1, .int a2]) ++ List.replicate (6 - (lg_sl ([.ref (Γ.2.2 0), .int a1, .int a2])).length) Slot.unset).toArray = ls at hl ⊢
  have hl : lv_has ls 6 [(0, .ref (Γ.2.2 0)), (1, .int a1), (2, .int a2)] := hl
  unfold w_X10_leadsFrom at hw
  refine lv_bipush (v := 10) hx hb dX10_leadsFrom_0 (by decide) ?_
  refine lv_iload_n hx hb dX10_leadsFrom_2 rfl (lv_at hl 1 rfl) ?_
  refine lv_imul hx hb dX10_leadsFrom_3 ?_
  refine lv_iload_n hx hb dX10_leadsFrom_4 rfl (lv_at hl 2 rfl) ?_
  refine lv_iadd hx hb dX10_leadsFrom_5 ?_
  refine lv_istore_n (lv' := [(3, .int ((10 * a1) + a2)), (0, .ref (Γ.2.2 0)), (1, .int a1), (2, .int a2)]) hx hb dX10_leadsFrom_6 rfl hl (by decide) rfl (fun ls hl => ?_)
  refine lv_iconst (v := 0) hx hb dX10_leadsFrom_7 (by decide) ?_
  refine lv_istore (lv' := [(4, .int 0), (3, .int ((10 * a1) + a2)), (0, .ref (Γ.2.2 0)), (1, .int a1), (2, .int a2)]) hx hb dX10_leadsFrom_8 hl (by decide) rfl (fun ls hl => ?_)
  refine hw (fun (x1 : Int32) (s2 : ft_St) => ∀ (H : Heap) (locs : List Loc) (ls : Array Slot), cR_P Γ s s2 H locs → lv_has ls 6 [(0, .ref (Γ.2.2 0)), (1, .int a1), (2, .int a2), (3, .int ((10 * a1) + a2)), (4, .int x1)] → cR_Wv p l e ({ frames := 1, cells := 0, slots := 0, locals := 25 } : Room) s m [.ref (Γ.2.2 0), .int a1, .int a2] below meth c Γ Φ H locs 10 ls []) (fun x1 s2 hw H locs ls hP hl => ?_) _ _ _ hP (lv_sub hl [2, 3, 4, 1, 0] rfl)
  refine lv_iload hx hb dX10_leadsFrom_10 (lv_at hl 4 rfl) ?_
  refine lv_aload_n hx hb dX10_leadsFrom_12 rfl (lv_at hl 0 rfl) ?_
  refine gR_10_1 hx hb hts i10 hown hK hP hR_0 (hts _ q_X10_leadsFrom_1) dX10_leadsFrom_13 ?_
  refine lv_icmp_ge (tgt := 234) hx hb dX10_leadsFrom_16 (by decide) (fun h => ?_) (fun h => ?_)
  · replace hw := hw.1 h
    exact W.vret hx hb hr (cR_rv hP hw) hP.2.2.2 dX10_leadsFrom_234
  · replace hw := hw.2 h
    refine lv_aload_n hx hb dX10_leadsFrom_19 rfl (lv_at hl 0 rfl) ?_
    refine gR_10_2 hx hb hts i10 hown hK hP hR_0 (hts _ q_X10_leadsFrom_2) dX10_leadsFrom_20 ?_
    refine lv_iload hx hb dX10_leadsFrom_23 (lv_at hl 4 rfl) ?_
    refine aR_ld hx hb hK hP hR_2 mR_2 hw.1 dX10_leadsFrom_25 ?_
    replace hw := hw.2
    refine lv_iload_n hx hb dX10_leadsFrom_26 rfl (lv_at hl 1 rfl) ?_
    refine ft_cut (hw (fun (s4 : ft_St) => ∀ (H : Heap) (locs : List Loc) (ls : Array Slot), cR_P Γ s s4 H locs → lv_has ls 6 [(0, .ref (Γ.2.2 0)), (1, .int a1), (2, .int a2), (3, .int ((10 * a1) + a2)), (4, .int x1)] → cR_Wv p l e ({ frames := 1, cells := 0, slots := 0, locals := 25 } : Room) s m [.ref (Γ.2.2 0), .int a1, .int a2] below meth c Γ Φ H locs 62 ls []) (fun s4 hw H locs ls hP hl => ?_)) (fun hw => ?_)
    · refine lv_aload_n hx hb dX10_leadsFrom_62 rfl (lv_at hl 0 rfl) ?_
      refine gR_10_2 hx hb hts i10 hown hK hP hR_0 (hts _ q_X10_leadsFrom_2) dX10_leadsFrom_63 ?_
      refine lv_iload hx hb dX10_leadsFrom_66 (lv_at hl 4 rfl) ?_
      refine aR_ld hx hb hK hP hR_2 mR_2 hw.1 dX10_leadsFrom_68 ?_
      replace hw := hw.2
      refine lv_iload_n hx hb dX10_leadsFrom_69 rfl (lv_at hl 2 rfl) ?_
      refine ft_cut (hw (fun (s6 : ft_St) => ∀ (H : Heap) (locs : List Loc) (ls : Array Slot), cR_P Γ s s6 H locs → lv_has ls 6 [(0, .ref (Γ.2.2 0)), (1, .int a1), (2, .int a2), (3, .int ((10 * a1) + a2)), (4, .int x1)] → cR_Wv p l e ({ frames := 1, cells := 0, slots := 0, locals := 25 } : Room) s m [.ref (Γ.2.2 0), .int a1, .int a2] below meth c Γ Φ H locs 119 ls []) (fun s6 hw H locs ls hP hl => ?_)) (fun hw => ?_)
      · refine lv_iconst (v := 0) hx hb dX10_leadsFrom_119 (by decide) ?_
        refine lv_istore (lv' := [(5, .int 0), (0, .ref (Γ.2.2 0)), (1, .int a1), (2, .int a2), (3, .int ((10 * a1) + a2)), (4, .int x1)]) hx hb dX10_leadsFrom_120 hl (by decide) rfl (fun ls hl => ?_)
        refine hw (fun (x8 : Int32) (s9 : ft_St) => ∀ (H : Heap) (locs : List Loc) (ls : Array Slot), cR_P Γ s s9 H locs → lv_has ls 6 [(0, .ref (Γ.2.2 0)), (1, .int a1), (2, .int a2), (3, .int ((10 * a1) + a2)), (4, .int x1), (5, .int x8)] → cR_Wv p l e ({ frames := 1, cells := 0, slots := 0, locals := 25 } : Room) s m [.ref (Γ.2.2 0), .int a1, .int a2] below meth c Γ Φ H locs 122 ls []) (fun x8 s9 hw H locs ls hP hl => ?_) _ _ _ hP (lv_sub hl [1, 2, 3, 4, 5, 0] rfl)
        refine lv_iload hx hb dX10_leadsFrom_122 (lv_at hl 5 rfl) ?_
        refine lv_aload_n hx hb dX10_leadsFrom_124 rfl (lv_at hl 0 rfl) ?_
        refine gR_10_1 hx hb hts i10 hown hK hP hR_0 (hts _ q_X10_leadsFrom_1) dX10_leadsFrom_125 ?_
        refine lv_icmp_ge (tgt := 228) hx hb dX10_leadsFrom_128 (by decide) (fun h => ?_) (fun h => ?_)
        · replace hw := hw.1 h
          refine lv_iinc (v := x1 + 1) (lv' := [(4, .int (x1 + 1)), (0, .ref (Γ.2.2 0)), (1, .int a1), (2, .int a2), (3, .int ((10 * a1) + a2)), (5, .int x8)]) hx hb dX10_leadsFrom_228 hl (k := 4) rfl (congrArg (fun z => x1 + z) (by decide)) (by decide) rfl (fun ls hl => ?_)
          refine lv_goto (tgt := 10) hx hb dX10_leadsFrom_231 (by decide) ?_
          exact hw _ _ _ hP (lv_sub hl [1, 2, 3, 4, 0] rfl)
        · replace hw := hw.2 h
          refine lv_aload_n hx hb dX10_leadsFrom_131 rfl (lv_at hl 0 rfl) ?_
          refine gR_10_2 hx hb hts i10 hown hK hP hR_0 (hts _ q_X10_leadsFrom_2) dX10_leadsFrom_132 ?_
          refine lv_iload hx hb dX10_leadsFrom_135 (lv_at hl 4 rfl) ?_
          refine aR_ld hx hb hK hP hR_2 mR_2 hw.1 dX10_leadsFrom_137 ?_
          replace hw := hw.2
          refine lv_iload_n hx hb dX10_leadsFrom_138 rfl (lv_at hl 1 rfl) ?_
          refine lv_icmp_ne (tgt := 228) hx hb dX10_leadsFrom_139 (by decide) (fun h => ?_) (fun h => ?_)
          · replace hw := hw.1 h
            refine lv_iinc (v := x1 + 1) (lv' := [(4, .int (x1 + 1)), (0, .ref (Γ.2.2 0)), (1, .int a1), (2, .int a2), (3, .int ((10 * a1) + a2)), (5, .int x8)]) hx hb dX10_leadsFrom_228 hl (k := 4) rfl (congrArg (fun z => x1 + z) (by decide)) (by decide) rfl (fun ls hl => ?_)
            refine lv_goto (tgt := 10) hx hb dX10_leadsFrom_231 (by decide) ?_
            exact hw _ _ _ hP (lv_sub hl [1, 2, 3, 4, 0] rfl)
          · replace hw := hw.2 h
            refine lv_aload_n hx hb dX10_leadsFrom_142 rfl (lv_at hl 0 rfl) ?_
            refine lv_aload_n hx hb dX10_leadsFrom_143 rfl (lv_at hl 0 rfl) ?_
            refine gR_10_3 hx hb hts i10 hown hK hP hR_0 (hts _ q_X10_leadsFrom_3) dX10_leadsFrom_144 ?_
            refine lv_iload hx hb dX10_leadsFrom_147 (lv_at hl 4 rfl) ?_
            refine aR_ld hx hb hK hP hR_3 mR_3 hw.1 dX10_leadsFrom_149 ?_
            replace hw := hw.2
            refine cR_Vip (rest := []) ⟨hx, hb, hml, hown, hts⟩ (c_X10_isSeen l Γ hI (s9.2.1 3 (Int32.toNatClampNeg x1)) s9 _ hw) (cwV 1 hts gX10_leadsFrom_X10_isSeen rfl rfl rfl (by decide +kernel) ⟨Nat.le_of_ble_eq_true rfl, Nat.le_of_ble_eq_true rfl⟩) hK hN hP (cR_lt hR_0 (by decide)) (cR_E10 hR_0) rfl rfl rfl hl.1 rfl (Nat.le_of_ble_eq_true rfl) dX10_leadsFrom_150 ⟨Nat.le_refl _, Nat.le_refl _⟩ (fun r11 H locs hw hP => ?_)
            refine lv_if_eq (tgt := 228) hx hb dX10_leadsFrom_153 (by decide) (fun h => ?_) (fun h => ?_)
            · replace hw := hw.1 h
              refine lv_iinc (v := x1 + 1) (lv' := [(4, .int (x1 + 1)), (0, .ref (Γ.2.2 0)), (1, .int a1), (2, .int a2), (3, .int ((10 * a1) + a2)), (5, .int x8)]) hx hb dX10_leadsFrom_228 hl (k := 4) rfl (congrArg (fun z => x1 + z) (by decide)) (by decide) rfl (fun ls hl => ?_)
              refine lv_goto (tgt := 10) hx hb dX10_leadsFrom_231 (by decide) ?_
              exact hw _ _ _ hP (lv_sub hl [1, 2, 3, 4, 0] rfl)
            · replace hw := hw.2 h
              refine lv_aload_n hx hb dX10_leadsFrom_156 rfl (lv_at hl 0 rfl) ?_
              refine lv_aload_n hx hb dX10_leadsFrom_157 rfl (lv_at hl 0 rfl) ?_
              refine gR_10_3 hx hb hts i10 hown hK hP hR_0 (hts _ q_X10_leadsFrom_3) dX10_leadsFrom_158 ?_
              refine lv_iload hx hb dX10_leadsFrom_161 (lv_at hl 4 rfl) ?_
              refine aR_ld hx hb hK hP hR_3 mR_3 hw.1 dX10_leadsFrom_163 ?_
              replace hw := hw.2
              refine cR_Vip (rest := []) ⟨hx, hb, hml, hown, hts⟩ (c_X10_isFault l Γ hI (s9.2.1 3 (Int32.toNatClampNeg x1)) s9 _ hw) (cwV 1 hts gX10_leadsFrom_X10_isFault rfl rfl rfl (by decide +kernel) ⟨Nat.le_of_ble_eq_true rfl, Nat.le_of_ble_eq_true rfl⟩) hK hN hP (cR_lt hR_0 (by decide)) (cR_E10 hR_0) rfl rfl rfl hl.1 rfl (Nat.le_of_ble_eq_true rfl) dX10_leadsFrom_164 ⟨Nat.le_refl _, Nat.le_refl _⟩ (fun r12 H locs hw hP => ?_)
              refine lv_if_ne (tgt := 228) hx hb dX10_leadsFrom_167 (by decide) (fun h => ?_) (fun h => ?_)
              · replace hw := hw.1 h
                refine lv_iinc (v := x1 + 1) (lv' := [(4, .int (x1 + 1)), (0, .ref (Γ.2.2 0)), (1, .int a1), (2, .int a2), (3, .int ((10 * a1) + a2)), (5, .int x8)]) hx hb dX10_leadsFrom_228 hl (k := 4) rfl (congrArg (fun z => x1 + z) (by decide)) (by decide) rfl (fun ls hl => ?_)
                refine lv_goto (tgt := 10) hx hb dX10_leadsFrom_231 (by decide) ?_
                exact hw _ _ _ hP (lv_sub hl [1, 2, 3, 4, 0] rfl)
              · replace hw := hw.2 h
                refine lv_aload_n hx hb dX10_leadsFrom_170 rfl (lv_at hl 0 rfl) ?_
                refine gR_10_2 hx hb hts i10 hown hK hP hR_0 (hts _ q_X10_leadsFrom_2) dX10_leadsFrom_171 ?_
                refine lv_iload hx hb dX10_leadsFrom_174 (lv_at hl 5 rfl) ?_
                refine aR_ld hx hb hK hP hR_2 mR_2 hw.1 dX10_leadsFrom_176 ?_
                replace hw := hw.2
                refine lv_iload_n hx hb dX10_leadsFrom_177 rfl (lv_at hl 2 rfl) ?_
                refine lv_icmp_ne (tgt := 222) hx hb dX10_leadsFrom_178 (by decide) (fun h => ?_) (fun h => ?_)
                · replace hw := hw.1 h
                  refine lv_iinc (v := x8 + 1) (lv' := [(5, .int (x8 + 1)), (0, .ref (Γ.2.2 0)), (1, .int a1), (2, .int a2), (3, .int ((10 * a1) + a2)), (4, .int x1)]) hx hb dX10_leadsFrom_222 hl (k := 5) rfl (congrArg (fun z => x8 + z) (by decide)) (by decide) rfl (fun ls hl => ?_)
                  refine lv_goto (tgt := 122) hx hb dX10_leadsFrom_225 (by decide) ?_
                  exact hw _ _ _ hP (lv_sub hl [1, 2, 3, 4, 5, 0] rfl)
                · replace hw := hw.2 h
                  refine lv_aload_n hx hb dX10_leadsFrom_181 rfl (lv_at hl 0 rfl) ?_
                  refine gR_10_3 hx hb hts i10 hown hK hP hR_0 (hts _ q_X10_leadsFrom_3) dX10_leadsFrom_182 ?_
                  refine lv_iload hx hb dX10_leadsFrom_185 (lv_at hl 5 rfl) ?_
                  refine aR_ld hx hb hK hP hR_3 mR_3 hw.1 dX10_leadsFrom_187 ?_
                  replace hw := hw.2
                  refine lv_aload_n hx hb dX10_leadsFrom_188 rfl (lv_at hl 0 rfl) ?_
                  refine gR_10_3 hx hb hts i10 hown hK hP hR_0 (hts _ q_X10_leadsFrom_3) dX10_leadsFrom_189 ?_
                  refine lv_iload hx hb dX10_leadsFrom_192 (lv_at hl 4 rfl) ?_
                  refine aR_ld hx hb hK hP hR_3 mR_3 hw.1 dX10_leadsFrom_194 ?_
                  replace hw := hw.2
                  refine lv_icmp_ne (tgt := 222) hx hb dX10_leadsFrom_195 (by decide) (fun h => ?_) (fun h => ?_)
                  · replace hw := hw.1 h
                    refine lv_iinc (v := x8 + 1) (lv' := [(5, .int (x8 + 1)), (0, .ref (Γ.2.2 0)), (1, .int a1), (2, .int a2), (3, .int ((10 * a1) + a2)), (4, .int x1)]) hx hb dX10_leadsFrom_222 hl (k := 5) rfl (congrArg (fun z => x8 + z) (by decide)) (by decide) rfl (fun ls hl => ?_)
                    refine lv_goto (tgt := 122) hx hb dX10_leadsFrom_225 (by decide) ?_
                    exact hw _ _ _ hP (lv_sub hl [1, 2, 3, 4, 5, 0] rfl)
                  · replace hw := hw.2 h
                    refine lv_aload_n hx hb dX10_leadsFrom_198 rfl (lv_at hl 0 rfl) ?_
                    refine lv_iload_n hx hb dX10_leadsFrom_199 rfl (lv_at hl 3 rfl) ?_
                    refine lv_bipush (v := 10) hx hb dX10_leadsFrom_200 (by decide) ?_
                    refine lv_aload_n hx hb dX10_leadsFrom_202 rfl (lv_at hl 0 rfl) ?_
                    refine gR_10_4 hx hb hts i10 hown hK hP hR_0 (hts _ q_X10_leadsFrom_4) dX10_leadsFrom_203 ?_
                    refine lv_iload hx hb dX10_leadsFrom_206 (lv_at hl 4 rfl) ?_
                    refine aR_ld hx hb hK hP hR_4 mR_4 hw.1 dX10_leadsFrom_208 ?_
                    replace hw := hw.2
                    refine lv_imul hx hb dX10_leadsFrom_209 ?_
                    refine lv_aload_n hx hb dX10_leadsFrom_210 rfl (lv_at hl 0 rfl) ?_
                    refine gR_10_4 hx hb hts i10 hown hK hP hR_0 (hts _ q_X10_leadsFrom_4) dX10_leadsFrom_211 ?_
                    refine lv_iload hx hb dX10_leadsFrom_214 (lv_at hl 5 rfl) ?_
                    refine aR_ld hx hb hK hP hR_4 mR_4 hw.1 dX10_leadsFrom_216 ?_
                    replace hw := hw.2
                    refine lv_iadd hx hb dX10_leadsFrom_217 ?_
                    refine lv_iconst (v := 1) hx hb dX10_leadsFrom_218 (by decide) ?_
                    refine cR_Vv (rest := []) ⟨hx, hb, hml, hown, hts⟩ (c_X10_leads l Γ hI ((10 * a1) + a2) ((10 * (s9.2.1 4 (Int32.toNatClampNeg x1))) + (s9.2.1 4 (Int32.toNatClampNeg x8))) 1 s9 _ hw) (cwV 3 hts gX10_leadsFrom_X10_leads rfl rfl rfl (by decide +kernel) ⟨Nat.le_of_ble_eq_true rfl, Nat.le_of_ble_eq_true rfl⟩) hK hN hP (cR_lt hR_0 (by decide)) (cR_E10 hR_0) rfl rfl rfl hl.1 rfl (Nat.le_of_ble_eq_true rfl) dX10_leadsFrom_219 ⟨Nat.le_refl _, Nat.le_refl _⟩ (fun s13 H locs hw hP => ?_)
                    refine lv_iinc (v := x8 + 1) (lv' := [(5, .int (x8 + 1)), (0, .ref (Γ.2.2 0)), (1, .int a1), (2, .int a2), (3, .int ((10 * a1) + a2)), (4, .int x1)]) hx hb dX10_leadsFrom_222 hl (k := 5) rfl (congrArg (fun z => x8 + z) (by decide)) (by decide) rfl (fun ls hl => ?_)
                    refine lv_goto (tgt := 122) hx hb dX10_leadsFrom_225 (by decide) ?_
                    exact hw _ _ _ hP (lv_sub hl [1, 2, 3, 4, 5, 0] rfl)
      · refine lv_icmp_ne (tgt := 119) hx hb dX10_leadsFrom_70 (by decide) (fun h => ?_) (fun h => ?_)
        · replace hw := hw.1 h
          exact hw _ _ _ hP (lv_sub hl [0, 1, 2, 3, 4] rfl)
        · replace hw := hw.2 h
          refine lv_aload_n hx hb dX10_leadsFrom_73 rfl (lv_at hl 0 rfl) ?_
          refine lv_aload_n hx hb dX10_leadsFrom_74 rfl (lv_at hl 0 rfl) ?_
          refine gR_10_3 hx hb hts i10 hown hK hP hR_0 (hts _ q_X10_leadsFrom_3) dX10_leadsFrom_75 ?_
          refine lv_iload hx hb dX10_leadsFrom_78 (lv_at hl 4 rfl) ?_
          refine aR_ld hx hb hK hP hR_3 mR_3 hw.1 dX10_leadsFrom_80 ?_
          replace hw := hw.2
          refine cR_Vip (rest := []) ⟨hx, hb, hml, hown, hts⟩ (c_X10_isSeen l Γ hI (s4.2.1 3 (Int32.toNatClampNeg x1)) s4 _ hw) (cwV 1 hts gX10_leadsFrom_X10_isSeen rfl rfl rfl (by decide +kernel) ⟨Nat.le_of_ble_eq_true rfl, Nat.le_of_ble_eq_true rfl⟩) hK hN hP (cR_lt hR_0 (by decide)) (cR_E10 hR_0) rfl rfl rfl hl.1 rfl (Nat.le_of_ble_eq_true rfl) dX10_leadsFrom_81 ⟨Nat.le_refl _, Nat.le_refl _⟩ (fun r14 H locs hw hP => ?_)
          refine lv_if_ne (tgt := 119) hx hb dX10_leadsFrom_84 (by decide) (fun h => ?_) (fun h => ?_)
          · replace hw := hw.1 h
            exact hw _ _ _ hP (lv_sub hl [0, 1, 2, 3, 4] rfl)
          · replace hw := hw.2 h
            refine lv_aload_n hx hb dX10_leadsFrom_87 rfl (lv_at hl 0 rfl) ?_
            refine lv_aload_n hx hb dX10_leadsFrom_88 rfl (lv_at hl 0 rfl) ?_
            refine gR_10_3 hx hb hts i10 hown hK hP hR_0 (hts _ q_X10_leadsFrom_3) dX10_leadsFrom_89 ?_
            refine lv_iload hx hb dX10_leadsFrom_92 (lv_at hl 4 rfl) ?_
            refine aR_ld hx hb hK hP hR_3 mR_3 hw.1 dX10_leadsFrom_94 ?_
            replace hw := hw.2
            refine cR_Vip (rest := []) ⟨hx, hb, hml, hown, hts⟩ (c_X10_isFault l Γ hI (s4.2.1 3 (Int32.toNatClampNeg x1)) s4 _ hw) (cwV 1 hts gX10_leadsFrom_X10_isFault rfl rfl rfl (by decide +kernel) ⟨Nat.le_of_ble_eq_true rfl, Nat.le_of_ble_eq_true rfl⟩) hK hN hP (cR_lt hR_0 (by decide)) (cR_E10 hR_0) rfl rfl rfl hl.1 rfl (Nat.le_of_ble_eq_true rfl) dX10_leadsFrom_95 ⟨Nat.le_refl _, Nat.le_refl _⟩ (fun r15 H locs hw hP => ?_)
            refine lv_if_ne (tgt := 119) hx hb dX10_leadsFrom_98 (by decide) (fun h => ?_) (fun h => ?_)
            · replace hw := hw.1 h
              exact hw _ _ _ hP (lv_sub hl [0, 1, 2, 3, 4] rfl)
            · replace hw := hw.2 h
              refine lv_aload_n hx hb dX10_leadsFrom_101 rfl (lv_at hl 0 rfl) ?_
              refine lv_iload_n hx hb dX10_leadsFrom_102 rfl (lv_at hl 3 rfl) ?_
              refine lv_bipush (v := 10) hx hb dX10_leadsFrom_103 (by decide) ?_
              refine lv_iload_n hx hb dX10_leadsFrom_105 rfl (lv_at hl 1 rfl) ?_
              refine lv_imul hx hb dX10_leadsFrom_106 ?_
              refine lv_aload_n hx hb dX10_leadsFrom_107 rfl (lv_at hl 0 rfl) ?_
              refine gR_10_4 hx hb hts i10 hown hK hP hR_0 (hts _ q_X10_leadsFrom_4) dX10_leadsFrom_108 ?_
              refine lv_iload hx hb dX10_leadsFrom_111 (lv_at hl 4 rfl) ?_
              refine aR_ld hx hb hK hP hR_4 mR_4 hw.1 dX10_leadsFrom_113 ?_
              replace hw := hw.2
              refine lv_iadd hx hb dX10_leadsFrom_114 ?_
              refine lv_iconst (v := 0) hx hb dX10_leadsFrom_115 (by decide) ?_
              refine cR_Vv (rest := []) ⟨hx, hb, hml, hown, hts⟩ (c_X10_leads l Γ hI ((10 * a1) + a2) ((10 * a1) + (s4.2.1 4 (Int32.toNatClampNeg x1))) 0 s4 _ hw) (cwV 3 hts gX10_leadsFrom_X10_leads rfl rfl rfl (by decide +kernel) ⟨Nat.le_of_ble_eq_true rfl, Nat.le_of_ble_eq_true rfl⟩) hK hN hP (cR_lt hR_0 (by decide)) (cR_E10 hR_0) rfl rfl rfl hl.1 rfl (Nat.le_of_ble_eq_true rfl) dX10_leadsFrom_116 ⟨Nat.le_refl _, Nat.le_refl _⟩ (fun s16 H locs hw hP => ?_)
              exact hw _ _ _ hP (lv_sub hl [0, 1, 2, 3, 4] rfl)
    · refine lv_icmp_ne (tgt := 62) hx hb dX10_leadsFrom_27 (by decide) (fun h => ?_) (fun h => ?_)
      · replace hw := hw.1 h
        exact hw _ _ _ hP (lv_sub hl [0, 1, 2, 3, 4] rfl)
      · replace hw := hw.2 h
        refine lv_aload_n hx hb dX10_leadsFrom_30 rfl (lv_at hl 0 rfl) ?_
        refine lv_aload_n hx hb dX10_leadsFrom_31 rfl (lv_at hl 0 rfl) ?_
        refine gR_10_3 hx hb hts i10 hown hK hP hR_0 (hts _ q_X10_leadsFrom_3) dX10_leadsFrom_32 ?_
        refine lv_iload hx hb dX10_leadsFrom_35 (lv_at hl 4 rfl) ?_
        refine aR_ld hx hb hK hP hR_3 mR_3 hw.1 dX10_leadsFrom_37 ?_
        replace hw := hw.2
        refine cR_Vip (rest := []) ⟨hx, hb, hml, hown, hts⟩ (c_X10_isSeen l Γ hI (s2.2.1 3 (Int32.toNatClampNeg x1)) s2 _ hw) (cwV 1 hts gX10_leadsFrom_X10_isSeen rfl rfl rfl (by decide +kernel) ⟨Nat.le_of_ble_eq_true rfl, Nat.le_of_ble_eq_true rfl⟩) hK hN hP (cR_lt hR_0 (by decide)) (cR_E10 hR_0) rfl rfl rfl hl.1 rfl (Nat.le_of_ble_eq_true rfl) dX10_leadsFrom_38 ⟨Nat.le_refl _, Nat.le_refl _⟩ (fun r17 H locs hw hP => ?_)
        refine lv_if_ne (tgt := 62) hx hb dX10_leadsFrom_41 (by decide) (fun h => ?_) (fun h => ?_)
        · replace hw := hw.1 h
          exact hw _ _ _ hP (lv_sub hl [0, 1, 2, 3, 4] rfl)
        · replace hw := hw.2 h
          refine lv_aload_n hx hb dX10_leadsFrom_44 rfl (lv_at hl 0 rfl) ?_
          refine lv_iload_n hx hb dX10_leadsFrom_45 rfl (lv_at hl 3 rfl) ?_
          refine lv_bipush (v := 10) hx hb dX10_leadsFrom_46 (by decide) ?_
          refine lv_aload_n hx hb dX10_leadsFrom_48 rfl (lv_at hl 0 rfl) ?_
          refine gR_10_4 hx hb hts i10 hown hK hP hR_0 (hts _ q_X10_leadsFrom_4) dX10_leadsFrom_49 ?_
          refine lv_iload hx hb dX10_leadsFrom_52 (lv_at hl 4 rfl) ?_
          refine aR_ld hx hb hK hP hR_4 mR_4 hw.1 dX10_leadsFrom_54 ?_
          replace hw := hw.2
          refine lv_imul hx hb dX10_leadsFrom_55 ?_
          refine lv_iload_n hx hb dX10_leadsFrom_56 rfl (lv_at hl 2 rfl) ?_
          refine lv_iadd hx hb dX10_leadsFrom_57 ?_
          refine lv_iconst (v := 1) hx hb dX10_leadsFrom_58 (by decide) ?_
          refine cR_Vv (rest := []) ⟨hx, hb, hml, hown, hts⟩ (c_X10_leads l Γ hI ((10 * a1) + a2) ((10 * (s2.2.1 4 (Int32.toNatClampNeg x1))) + a2) 1 s2 _ hw) (cwV 3 hts gX10_leadsFrom_X10_leads rfl rfl rfl (by decide +kernel) ⟨Nat.le_of_ble_eq_true rfl, Nat.le_of_ble_eq_true rfl⟩) hK hN hP (cR_lt hR_0 (by decide)) (cR_E10 hR_0) rfl rfl rfl hl.1 rfl (Nat.le_of_ble_eq_true rfl) dX10_leadsFrom_59 ⟨Nat.le_refl _, Nat.le_refl _⟩ (fun s18 H locs hw hP => ?_)
          exact hw _ _ _ hP (lv_sub hl [0, 1, 2, 3, 4] rfl)
theorem q_X10_isDoubt_1 : (Cond.fieldLink RX10 41 "FaultTwinsModel" "can" "[I") ∈ wsX10_isDoubt := List.mem_of_getElem? (i := 1) (by decide +kernel)
set_option maxHeartbeats 4000000 in
set_option maxRecDepth 100000 in
theorem c_X10_isDoubt (l : Launch) (Γ : ft_G) (hI : cR_I Γ) (a1 : Int32) (σ : ft_St) (Φ : Int32 → Prop) (hw : w_X10_isDoubt a1 σ Φ) : cR_Mip l yX10_isDoubt wsX10_isDoubt ({ frames := 0, cells := 0, slots := 0, locals := 0 } : Room) Γ σ [.ref (Γ.2.2 0), .int a1] Φ := by
  refine Met.ofW (cc := cX10_isDoubt) (maxL := 2) (ret := (some .boolean)) (by decide) rfl ?_
  intro p e s m args below meth c s₁ B hml hv
  obtain ⟨rfl, hP, hK, hN⟩ := hv
  have hx := B.exec
  have hb := B.bytes
  have hr := B.returns
  have hts := atoms_spec (ws := wsX10_isDoubt) B.pre
  have hown : s.vm.findClass RX10 = some m.cls := findClass_of_methodNamed B.named
  have hlocks := B.notSynchronized
  have i10 : ∀ w ∈ wsX100, w ∈ wsX10_isDoubt := fun w h => List.mem_cons_of_mem _ (List.mem_append_right _ h)
  have hP : cR_P Γ s σ s.heap [] := ⟨hP, va_S.rf⟩
  have hl := lv_entry ([.ref (Γ.2.2 0), .int a1]) (n := 2) (Nat.le_of_ble_eq_true rfl)
  rw [lg_entry_eq]
  generalize (lg_sl ([.ref (Γ.2.2 0), .int a1]) ++ List.replicate (2 - (lg_sl ([.ref (Γ.2.2 0), .int a1])).length) Slot.unset).toArray = ls at hl ⊢
  have hl : lv_has ls 2 [(0, .ref (Γ.2.2 0)), (1, .int a1)] := hl
  unfold w_X10_isDoubt at hw
  refine lv_aload_n hx hb dX10_isDoubt_0 rfl (lv_at hl 0 rfl) ?_
  refine gR_10_15 hx hb hts i10 hown hK hP hR_0 (hts _ q_X10_isDoubt_1) dX10_isDoubt_1 ?_
  refine lv_bipush (v := 100) hx hb dX10_isDoubt_4 (by decide) ?_
  refine lv_iload_n hx hb dX10_isDoubt_6 rfl (lv_at hl 1 rfl) ?_
  refine lv_iadd hx hb dX10_isDoubt_7 ?_
  refine aR_ld hx hb hK hP hR_9 mR_9 hw.1 dX10_isDoubt_8 ?_
  replace hw := hw.2
  refine lv_iconst (v := 1) hx hb dX10_isDoubt_9 (by decide) ?_
  refine lv_icmp_ne (tgt := 17) hx hb dX10_isDoubt_10 (by decide) (fun h => ?_) (fun h => ?_)
  · replace hw := hw.1 h
    refine lv_iconst (v := 0) hx hb dX10_isDoubt_17 (by decide) ?_
    exact W.zret hx hb hr rfl (cR_ri hP ⟨rfl, hw⟩) hP.2.2.2 dX10_isDoubt_18
  · replace hw := hw.2 h
    refine lv_iconst (v := 1) hx hb dX10_isDoubt_13 (by decide) ?_
    refine lv_goto (tgt := 18) hx hb dX10_isDoubt_14 (by decide) ?_
    exact W.zret hx hb hr rfl (cR_ri hP ⟨rfl, hw⟩) hP.2.2.2 dX10_isDoubt_18
theorem q_X10_findsLeads_1 : (Cond.fieldLink RX10 51 "FaultTwinsModel" "low" "[J") ∈ wsX10_findsLeads := List.mem_of_getElem? (i := 1) (by decide +kernel)
theorem q_X10_findsLeads_2 : (Cond.fieldLink RX10 54 "FaultTwinsModel" "high" "[J") ∈ wsX10_findsLeads := List.mem_of_getElem? (i := 2) (by decide +kernel)
theorem q_X10_findsLeads_3 : (Cond.fieldLink RX10 44 "FaultTwinsModel" "markLow" "[J") ∈ wsX10_findsLeads := List.mem_of_getElem? (i := 3) (by decide +kernel)
theorem q_X10_findsLeads_4 : (Cond.fieldLink RX10 48 "FaultTwinsModel" "markHigh" "[J") ∈ wsX10_findsLeads := List.mem_of_getElem? (i := 4) (by decide +kernel)
set_option maxHeartbeats 4000000 in
set_option maxRecDepth 100000 in
theorem c_X10_findsLeads (l : Launch) (Γ : ft_G) (hI : cR_I Γ)  (σ : ft_St) (Φ : ft_St → Prop) (hw : w_X10_findsLeads  σ Φ) : cR_Mv l yX10_findsLeads wsX10_findsLeads ({ frames := 3, cells := 0, slots := 0, locals := 69 } : Room) Γ σ [.ref (Γ.2.2 0)] Φ := by
  refine Met.ofW (cc := cX10_findsLeads) (maxL := 2) (ret := none) (by decide) rfl ?_
  intro p e s m args below meth c s₁ B hml hv
  obtain ⟨rfl, hP, hK, hN⟩ := hv
  have hx := B.exec
  have hb := B.bytes
  have hr := B.returns
  have hts := atoms_spec (ws := wsX10_findsLeads) B.pre
  have hown : s.vm.findClass RX10 = some m.cls := findClass_of_methodNamed B.named
  have hlocks := B.notSynchronized
  have i10 : ∀ w ∈ wsX100, w ∈ wsX10_findsLeads := fun w h => List.mem_cons_of_mem _ (List.mem_append_right _ h)
  have hP : cR_P Γ s σ s.heap [] := ⟨hP, va_S.rf⟩
  have hl := lv_entry ([.ref (Γ.2.2 0)]) (n := 2) (Nat.le_of_ble_eq_true rfl)
  rw [lg_entry_eq]
  generalize (lg_sl ([.ref (Γ.2.2 0)]) ++ List.replicate (2 - (lg_sl ([.ref (Γ.2.2 0)])).length) Slot.unset).toArray = ls at hl ⊢
  have hl : lv_has ls 2 [(0, .ref (Γ.2.2 0))] := hl
  unfold w_X10_findsLeads at hw
  refine lv_aload_n hx hb dX10_findsLeads_0 rfl (lv_at hl 0 rfl) ?_
  refine cR_Vv (rest := []) ⟨hx, hb, hml, hown, hts⟩ (c_X10_findsPairs l Γ hI  σ _ hw) (cwV 0 hts gX10_findsLeads_X10_findsPairs rfl rfl rfl (by decide +kernel) ⟨Nat.le_of_ble_eq_true rfl, Nat.le_of_ble_eq_true rfl⟩) hK hN hP (cR_lt hR_0 (by decide)) (cR_E10 hR_0) rfl rfl rfl hl.1 rfl (Nat.le_of_ble_eq_true rfl) dX10_findsLeads_1 ⟨Nat.le_refl _, Nat.le_refl _⟩ (fun s1 H locs hw hP => ?_)
  refine lv_iconst (v := 0) hx hb dX10_findsLeads_4 (by decide) ?_
  refine lv_istore_n (lv' := [(1, .int 0), (0, .ref (Γ.2.2 0))]) hx hb dX10_findsLeads_5 rfl hl (by decide) rfl (fun ls hl => ?_)
  refine hw (fun (x2 : Int32) (s3 : ft_St) => ∀ (H : Heap) (locs : List Loc) (ls : Array Slot), cR_P Γ s s3 H locs → lv_has ls 2 [(0, .ref (Γ.2.2 0)), (1, .int x2)] → cR_Wv p l e ({ frames := 3, cells := 0, slots := 0, locals := 69 } : Room) s m [.ref (Γ.2.2 0)] below meth c Γ Φ H locs 6 ls []) (fun x2 s3 hw H locs ls hP hl => ?_) _ _ _ hP (lv_sub hl [1, 0] rfl)
  refine lv_iload_n hx hb dX10_findsLeads_6 rfl (lv_at hl 1 rfl) ?_
  refine lv_bipush (v := 100) hx hb dX10_findsLeads_7 (by decide) ?_
  refine lv_icmp_ge (tgt := 66) hx hb dX10_findsLeads_9 (by decide) (fun h => ?_) (fun h => ?_)
  · replace hw := hw.1 h
    exact W.vret hx hb hr (cR_rv hP hw) hP.2.2.2 dX10_findsLeads_66
  · replace hw := hw.2 h
    refine lv_aload_n hx hb dX10_findsLeads_12 rfl (lv_at hl 0 rfl) ?_
    refine gR_10_18 hx hb hts i10 hown hK hP hR_0 (hts _ q_X10_findsLeads_1) dX10_findsLeads_13 ?_
    refine lv_iload_n hx hb dX10_findsLeads_16 rfl (lv_at hl 1 rfl) ?_
    refine lv_lconst (v := 0) hx hb dX10_findsLeads_17 rfl ?_
    refine aR_lst hx hb hK hI hP hR_12 mR_12 hw.1 dX10_findsLeads_18 (fun H locs hP => ?_)
    replace hw := hw.2
    obtain ⟨s5, hs5⟩ : ∃ u, u = ft_sL s3 12 (vp_updL (s3.2.2 12) (Int32.toNatClampNeg x2) 0) := ⟨_, rfl⟩
    rw [← hs5] at hP
    replace hw := hw s5 hs5
    refine lv_aload_n hx hb dX10_findsLeads_19 rfl (lv_at hl 0 rfl) ?_
    refine gR_10_19 hx hb hts i10 hown hK hP hR_0 (hts _ q_X10_findsLeads_2) dX10_findsLeads_20 ?_
    refine lv_iload_n hx hb dX10_findsLeads_23 rfl (lv_at hl 1 rfl) ?_
    refine lv_lconst (v := 0) hx hb dX10_findsLeads_24 rfl ?_
    refine aR_lst hx hb hK hI hP hR_13 mR_13 hw.1 dX10_findsLeads_25 (fun H locs hP => ?_)
    replace hw := hw.2
    obtain ⟨s6, hs6⟩ : ∃ u, u = ft_sL s5 13 (vp_updL (s5.2.2 13) (Int32.toNatClampNeg x2) 0) := ⟨_, rfl⟩
    rw [← hs6] at hP
    replace hw := hw s6 hs6
    refine lv_aload_n hx hb dX10_findsLeads_26 rfl (lv_at hl 0 rfl) ?_
    refine gR_10_16 hx hb hts i10 hown hK hP hR_0 (hts _ q_X10_findsLeads_3) dX10_findsLeads_27 ?_
    refine lv_iload_n hx hb dX10_findsLeads_30 rfl (lv_at hl 1 rfl) ?_
    refine lv_lconst (v := 0) hx hb dX10_findsLeads_31 rfl ?_
    refine aR_lst hx hb hK hI hP hR_10 mR_10 hw.1 dX10_findsLeads_32 (fun H locs hP => ?_)
    replace hw := hw.2
    obtain ⟨s7, hs7⟩ : ∃ u, u = ft_sL s6 10 (vp_updL (s6.2.2 10) (Int32.toNatClampNeg x2) 0) := ⟨_, rfl⟩
    rw [← hs7] at hP
    replace hw := hw s7 hs7
    refine lv_aload_n hx hb dX10_findsLeads_33 rfl (lv_at hl 0 rfl) ?_
    refine gR_10_17 hx hb hts i10 hown hK hP hR_0 (hts _ q_X10_findsLeads_4) dX10_findsLeads_34 ?_
    refine lv_iload_n hx hb dX10_findsLeads_37 rfl (lv_at hl 1 rfl) ?_
    refine lv_lconst (v := 0) hx hb dX10_findsLeads_38 rfl ?_
    refine aR_lst hx hb hK hI hP hR_11 mR_11 hw.1 dX10_findsLeads_39 (fun H locs hP => ?_)
    replace hw := hw.2
    obtain ⟨s8, hs8⟩ : ∃ u, u = ft_sL s7 11 (vp_updL (s7.2.2 11) (Int32.toNatClampNeg x2) 0) := ⟨_, rfl⟩
    rw [← hs8] at hP
    replace hw := hw s8 hs8
    refine lv_aload_n hx hb dX10_findsLeads_40 rfl (lv_at hl 0 rfl) ?_
    refine lv_iload_n hx hb dX10_findsLeads_41 rfl (lv_at hl 1 rfl) ?_
    refine cR_Vip (rest := []) ⟨hx, hb, hml, hown, hts⟩ (c_X10_isDoubt l Γ hI x2 s8 _ hw) (cwV 1 hts gX10_findsLeads_X10_isDoubt rfl rfl rfl (by decide +kernel) ⟨Nat.le_of_ble_eq_true rfl, Nat.le_of_ble_eq_true rfl⟩) hK hN hP (cR_lt hR_0 (by decide)) (cR_E10 hR_0) rfl rfl rfl hl.1 rfl (Nat.le_of_ble_eq_true rfl) dX10_findsLeads_42 ⟨Nat.le_refl _, Nat.le_refl _⟩ (fun r9 H locs hw hP => ?_)
    refine lv_if_eq (tgt := 60) hx hb dX10_findsLeads_45 (by decide) (fun h => ?_) (fun h => ?_)
    · replace hw := hw.1 h
      refine lv_iinc (v := x2 + 1) (lv' := [(1, .int (x2 + 1)), (0, .ref (Γ.2.2 0))]) hx hb dX10_findsLeads_60 hl (k := 1) rfl (congrArg (fun z => x2 + z) (by decide)) (by decide) rfl (fun ls hl => ?_)
      refine lv_goto (tgt := 6) hx hb dX10_findsLeads_63 (by decide) ?_
      exact hw _ _ _ hP (lv_sub hl [1, 0] rfl)
    · replace hw := hw.2 h
      refine lv_aload_n hx hb dX10_findsLeads_48 rfl (lv_at hl 0 rfl) ?_
      refine lv_iload_n hx hb dX10_findsLeads_49 rfl (lv_at hl 1 rfl) ?_
      refine lv_bipush (v := 10) hx hb dX10_findsLeads_50 (by decide) ?_
      refine lv_idiv hx hb dX10_findsLeads_52 (by decide) ?_
      refine lv_iload_n hx hb dX10_findsLeads_53 rfl (lv_at hl 1 rfl) ?_
      refine lv_bipush (v := 10) hx hb dX10_findsLeads_54 (by decide) ?_
      refine lv_irem hx hb dX10_findsLeads_56 (by decide) ?_
      refine cR_Vv (rest := []) ⟨hx, hb, hml, hown, hts⟩ (c_X10_leadsFrom l Γ hI (x2 / 10) (x2 - x2 / 10 * 10) s8 _ hw) (cwV 2 hts gX10_findsLeads_X10_leadsFrom rfl rfl rfl (by decide +kernel) ⟨Nat.le_of_ble_eq_true rfl, Nat.le_of_ble_eq_true rfl⟩) hK hN hP (cR_lt hR_0 (by decide)) (cR_E10 hR_0) rfl rfl rfl hl.1 rfl (Nat.le_of_ble_eq_true rfl) dX10_findsLeads_57 ⟨Nat.le_refl _, Nat.le_refl _⟩ (fun s10 H locs hw hP => ?_)
      refine lv_iinc (v := x2 + 1) (lv' := [(1, .int (x2 + 1)), (0, .ref (Γ.2.2 0))]) hx hb dX10_findsLeads_60 hl (k := 1) rfl (congrArg (fun z => x2 + z) (by decide)) (by decide) rfl (fun ls hl => ?_)
      refine lv_goto (tgt := 6) hx hb dX10_findsLeads_63 (by decide) ?_
      exact hw _ _ _ hP (lv_sub hl [1, 0] rfl)
theorem q_X10_goesOn_1 : (Cond.fieldLink RX10 51 "FaultTwinsModel" "low" "[J") ∈ wsX10_goesOn := List.mem_of_getElem? (i := 1) (by decide +kernel)
theorem q_X10_goesOn_2 : (Cond.fieldLink RX10 54 "FaultTwinsModel" "high" "[J") ∈ wsX10_goesOn := List.mem_of_getElem? (i := 2) (by decide +kernel)
set_option maxHeartbeats 4000000 in
set_option maxRecDepth 100000 in
theorem c_X10_goesOn (l : Launch) (Γ : ft_G) (hI : cR_I Γ)  (σ : ft_St) (Φ : ft_St → Prop) (hw : w_X10_goesOn  σ Φ) : cR_Mv l yX10_goesOn wsX10_goesOn ({ frames := 1, cells := 0, slots := 0, locals := 24 } : Room) Γ σ [.ref (Γ.2.2 0)] Φ := by
  refine Met.ofW (cc := cX10_goesOn) (maxL := 3) (ret := none) (by decide) rfl ?_
  intro p e s m args below meth c s₁ B hml hv
  obtain ⟨rfl, hP, hK, hN⟩ := hv
  have hx := B.exec
  have hb := B.bytes
  have hr := B.returns
  have hts := atoms_spec (ws := wsX10_goesOn) B.pre
  have hown : s.vm.findClass RX10 = some m.cls := findClass_of_methodNamed B.named
  have hlocks := B.notSynchronized
  have i10 : ∀ w ∈ wsX100, w ∈ wsX10_goesOn := fun w h => List.mem_cons_of_mem _ (List.mem_append_right _ h)
  have hP : cR_P Γ s σ s.heap [] := ⟨hP, va_S.rf⟩
  have hl := lv_entry ([.ref (Γ.2.2 0)]) (n := 3) (Nat.le_of_ble_eq_true rfl)
  rw [lg_entry_eq]
  generalize (lg_sl ([.ref (Γ.2.2 0)]) ++ List.replicate (3 - (lg_sl ([.ref (Γ.2.2 0)])).length) Slot.unset).toArray = ls at hl ⊢
  have hl : lv_has ls 3 [(0, .ref (Γ.2.2 0))] := hl
  unfold w_X10_goesOn at hw
  refine lv_iconst (v := 0) hx hb dX10_goesOn_0 (by decide) ?_
  refine lv_istore_n (lv' := [(1, .int 0), (0, .ref (Γ.2.2 0))]) hx hb dX10_goesOn_1 rfl hl (by decide) rfl (fun ls hl => ?_)
  refine hw (fun (x1 : Int32) (s2 : ft_St) => ∀ (H : Heap) (locs : List Loc) (ls : Array Slot), cR_P Γ s s2 H locs → lv_has ls 3 [(0, .ref (Γ.2.2 0)), (1, .int x1)] → cR_Wv p l e ({ frames := 1, cells := 0, slots := 0, locals := 24 } : Room) s m [.ref (Γ.2.2 0)] below meth c Γ Φ H locs 2 ls []) (fun x1 s2 hw H locs ls hP hl => ?_) _ _ _ hP (lv_sub hl [1, 0] rfl)
  refine lv_iload_n hx hb dX10_goesOn_2 rfl (lv_at hl 1 rfl) ?_
  refine lv_bipush (v := 100) hx hb dX10_goesOn_3 (by decide) ?_
  refine lv_icmp_ge (tgt := 77) hx hb dX10_goesOn_5 (by decide) (fun h => ?_) (fun h => ?_)
  · replace hw := hw.1 h
    exact W.vret hx hb hr (cR_rv hP hw) hP.2.2.2 dX10_goesOn_77
  · replace hw := hw.2 h
    refine lv_iconst (v := 0) hx hb dX10_goesOn_8 (by decide) ?_
    refine lv_istore_n (lv' := [(2, .int 0), (0, .ref (Γ.2.2 0)), (1, .int x1)]) hx hb dX10_goesOn_9 rfl hl (by decide) rfl (fun ls hl => ?_)
    refine hw (fun (x4 : Int32) (s5 : ft_St) => ∀ (H : Heap) (locs : List Loc) (ls : Array Slot), cR_P Γ s s5 H locs → lv_has ls 3 [(0, .ref (Γ.2.2 0)), (1, .int x1), (2, .int x4)] → cR_Wv p l e ({ frames := 1, cells := 0, slots := 0, locals := 24 } : Room) s m [.ref (Γ.2.2 0)] below meth c Γ Φ H locs 10 ls []) (fun x4 s5 hw H locs ls hP hl => ?_) _ _ _ hP (lv_sub hl [1, 2, 0] rfl)
    refine lv_iload_n hx hb dX10_goesOn_10 rfl (lv_at hl 2 rfl) ?_
    refine lv_bipush (v := 100) hx hb dX10_goesOn_11 (by decide) ?_
    refine lv_icmp_ge (tgt := 71) hx hb dX10_goesOn_13 (by decide) (fun h => ?_) (fun h => ?_)
    · replace hw := hw.1 h
      refine lv_iinc (v := x1 + 1) (lv' := [(1, .int (x1 + 1)), (0, .ref (Γ.2.2 0)), (2, .int x4)]) hx hb dX10_goesOn_71 hl (k := 1) rfl (congrArg (fun z => x1 + z) (by decide)) (by decide) rfl (fun ls hl => ?_)
      refine lv_goto (tgt := 2) hx hb dX10_goesOn_74 (by decide) ?_
      exact hw _ _ _ hP (lv_sub hl [1, 0] rfl)
    · replace hw := hw.2 h
      refine lv_aload_n hx hb dX10_goesOn_16 rfl (lv_at hl 0 rfl) ?_
      refine gR_10_18 hx hb hts i10 hown hK hP hR_0 (hts _ q_X10_goesOn_1) dX10_goesOn_17 ?_
      refine lv_iload_n hx hb dX10_goesOn_20 rfl (lv_at hl 2 rfl) ?_
      refine aR_lld hx hb hK hP hR_12 mR_12 hw.1 dX10_goesOn_21 ?_
      replace hw := hw.2
      refine lv_aload_n hx hb dX10_goesOn_22 rfl (lv_at hl 0 rfl) ?_
      refine gR_10_19 hx hb hts i10 hown hK hP hR_0 (hts _ q_X10_goesOn_2) dX10_goesOn_23 ?_
      refine lv_iload_n hx hb dX10_goesOn_26 rfl (lv_at hl 2 rfl) ?_
      refine aR_lld hx hb hK hP hR_13 mR_13 hw.1 dX10_goesOn_27 ?_
      replace hw := hw.2
      refine lv_iload_n hx hb dX10_goesOn_28 rfl (lv_at hl 1 rfl) ?_
      refine cR_Sip (rest := []) ⟨hx, hb, hml, hown, hts⟩ (c_X10_has l Γ hI (s5.2.2 12 (Int32.toNatClampNeg x4)) (s5.2.2 13 (Int32.toNatClampNeg x4)) x1 s5 _ hw) (va_cwS 3 hts gX10_goesOn_X10_has rfl rfl rfl (by decide +kernel) ⟨Nat.le_of_ble_eq_true rfl, Nat.le_of_ble_eq_true rfl⟩) hK hN hP rfl hl.1 rfl (Nat.le_of_ble_eq_true rfl) dX10_goesOn_29 ⟨Nat.le_refl _, Nat.le_refl _⟩ (fun r7 H locs hw hP => ?_)
      refine lv_if_eq (tgt := 65) hx hb dX10_goesOn_32 (by decide) (fun h => ?_) (fun h => ?_)
      · replace hw := hw.1 h
        refine lv_iinc (v := x4 + 1) (lv' := [(2, .int (x4 + 1)), (0, .ref (Γ.2.2 0)), (1, .int x1)]) hx hb dX10_goesOn_65 hl (k := 2) rfl (congrArg (fun z => x4 + z) (by decide)) (by decide) rfl (fun ls hl => ?_)
        refine lv_goto (tgt := 10) hx hb dX10_goesOn_68 (by decide) ?_
        exact hw _ _ _ hP (lv_sub hl [1, 2, 0] rfl)
      · replace hw := hw.2 h
        refine lv_aload_n hx hb dX10_goesOn_35 rfl (lv_at hl 0 rfl) ?_
        refine gR_10_18 hx hb hts i10 hown hK hP hR_0 (hts _ q_X10_goesOn_1) dX10_goesOn_36 ?_
        refine lv_iload_n hx hb dX10_goesOn_39 rfl (lv_at hl 2 rfl) ?_
        refine lv_dup2_11 hx hb dX10_goesOn_40 rfl rfl ?_
        refine aR_lld hx hb hK hP hR_12 mR_12 hw.1 dX10_goesOn_41 ?_
        replace hw := hw.2
        refine lv_aload_n hx hb dX10_goesOn_42 rfl (lv_at hl 0 rfl) ?_
        refine gR_10_18 hx hb hts i10 hown hK hP hR_0 (hts _ q_X10_goesOn_1) dX10_goesOn_43 ?_
        refine lv_iload_n hx hb dX10_goesOn_46 rfl (lv_at hl 1 rfl) ?_
        refine aR_lld hx hb hK hP hR_12 mR_12 hw.1 dX10_goesOn_47 ?_
        replace hw := hw.2
        refine lv_lor hx hb dX10_goesOn_48 ?_
        refine aR_lst hx hb hK hI hP hR_12 mR_12 hw.1 dX10_goesOn_49 (fun H locs hP => ?_)
        replace hw := hw.2
        obtain ⟨s8, hs8⟩ : ∃ u, u = ft_sL s5 12 (vp_updL (s5.2.2 12) (Int32.toNatClampNeg x4) ((s5.2.2 12 (Int32.toNatClampNeg x4)) ||| (s5.2.2 12 (Int32.toNatClampNeg x1)))) := ⟨_, rfl⟩
        rw [← hs8] at hP
        replace hw := hw s8 hs8
        refine lv_aload_n hx hb dX10_goesOn_50 rfl (lv_at hl 0 rfl) ?_
        refine gR_10_19 hx hb hts i10 hown hK hP hR_0 (hts _ q_X10_goesOn_2) dX10_goesOn_51 ?_
        refine lv_iload_n hx hb dX10_goesOn_54 rfl (lv_at hl 2 rfl) ?_
        refine lv_dup2_11 hx hb dX10_goesOn_55 rfl rfl ?_
        refine aR_lld hx hb hK hP hR_13 mR_13 hw.1 dX10_goesOn_56 ?_
        replace hw := hw.2
        refine lv_aload_n hx hb dX10_goesOn_57 rfl (lv_at hl 0 rfl) ?_
        refine gR_10_19 hx hb hts i10 hown hK hP hR_0 (hts _ q_X10_goesOn_2) dX10_goesOn_58 ?_
        refine lv_iload_n hx hb dX10_goesOn_61 rfl (lv_at hl 1 rfl) ?_
        refine aR_lld hx hb hK hP hR_13 mR_13 hw.1 dX10_goesOn_62 ?_
        replace hw := hw.2
        refine lv_lor hx hb dX10_goesOn_63 ?_
        refine aR_lst hx hb hK hI hP hR_13 mR_13 hw.1 dX10_goesOn_64 (fun H locs hP => ?_)
        replace hw := hw.2
        obtain ⟨s9, hs9⟩ : ∃ u, u = ft_sL s8 13 (vp_updL (s8.2.2 13) (Int32.toNatClampNeg x4) ((s8.2.2 13 (Int32.toNatClampNeg x4)) ||| (s8.2.2 13 (Int32.toNatClampNeg x1)))) := ⟨_, rfl⟩
        rw [← hs9] at hP
        replace hw := hw s9 hs9
        refine lv_iinc (v := x4 + 1) (lv' := [(2, .int (x4 + 1)), (0, .ref (Γ.2.2 0)), (1, .int x1)]) hx hb dX10_goesOn_65 hl (k := 2) rfl (congrArg (fun z => x4 + z) (by decide)) (by decide) rfl (fun ls hl => ?_)
        refine lv_goto (tgt := 10) hx hb dX10_goesOn_68 (by decide) ?_
        exact hw _ _ _ hP (lv_sub hl [1, 2, 0] rfl)
theorem q_X10_isOfRing_1 : (Cond.fieldLink RX10 51 "FaultTwinsModel" "low" "[J") ∈ wsX10_isOfRing := List.mem_of_getElem? (i := 1) (by decide +kernel)
theorem q_X10_isOfRing_2 : (Cond.fieldLink RX10 54 "FaultTwinsModel" "high" "[J") ∈ wsX10_isOfRing := List.mem_of_getElem? (i := 2) (by decide +kernel)
theorem q_X10_isOfRing_3 : (Cond.fieldLink RX10 44 "FaultTwinsModel" "markLow" "[J") ∈ wsX10_isOfRing := List.mem_of_getElem? (i := 3) (by decide +kernel)
theorem q_X10_isOfRing_4 : (Cond.fieldLink RX10 48 "FaultTwinsModel" "markHigh" "[J") ∈ wsX10_isOfRing := List.mem_of_getElem? (i := 4) (by decide +kernel)
set_option maxHeartbeats 4000000 in
set_option maxRecDepth 100000 in
theorem c_X10_isOfRing (l : Launch) (Γ : ft_G) (hI : cR_I Γ) (a1 : Int32) (σ : ft_St) (Φ : Int32 → Prop) (hw : w_X10_isOfRing a1 σ Φ) : cR_Mip l yX10_isOfRing wsX10_isOfRing ({ frames := 1, cells := 0, slots := 0, locals := 24 } : Room) Γ σ [.ref (Γ.2.2 0), .int a1] Φ := by
  refine Met.ofW (cc := cX10_isOfRing) (maxL := 6) (ret := (some .boolean)) (by decide) rfl ?_
  intro p e s m args below meth c s₁ B hml hv
  obtain ⟨rfl, hP, hK, hN⟩ := hv
  have hx := B.exec
  have hb := B.bytes
  have hr := B.returns
  have hts := atoms_spec (ws := wsX10_isOfRing) B.pre
  have hown : s.vm.findClass RX10 = some m.cls := findClass_of_methodNamed B.named
  have hlocks := B.notSynchronized
  have i10 : ∀ w ∈ wsX100, w ∈ wsX10_isOfRing := fun w h => List.mem_cons_of_mem _ (List.mem_append_right _ h)
  have hP : cR_P Γ s σ s.heap [] := ⟨hP, va_S.rf⟩
  have hl := lv_entry ([.ref (Γ.2.2 0), .int a1]) (n := 6) (Nat.le_of_ble_eq_true rfl)
  rw [lg_entry_eq]
  generalize (lg_sl ([.ref (Γ.2.2 0), .int a1]) ++ List.replicate (6 - (lg_sl ([.ref (Γ.2.2 0), .int a1])).length) Slot.unset).toArray = ls at hl ⊢
  have hl : lv_has ls 6 [(0, .ref (Γ.2.2 0)), (1, .int a1)] := hl
  unfold w_X10_isOfRing at hw
  refine lv_iconst (v := 0) hx hb dX10_isOfRing_0 (by decide) ?_
  refine lv_istore_n (lv' := [(2, .int 0), (0, .ref (Γ.2.2 0)), (1, .int a1)]) hx hb dX10_isOfRing_1 rfl hl (by decide) rfl (fun ls hl => ?_)
  refine lv_iconst (v := 0) hx hb dX10_isOfRing_2 (by decide) ?_
  refine lv_istore_n (lv' := [(3, .int 0), (2, .int 0), (0, .ref (Γ.2.2 0)), (1, .int a1)]) hx hb dX10_isOfRing_3 rfl hl (by decide) rfl (fun ls hl => ?_)
  refine hw (fun (x1 : Int32) (x2 : Int32) => ∀ (H : Heap) (locs : List Loc) (ls : Array Slot), cR_P Γ s σ H locs → lv_has ls 6 [(0, .ref (Γ.2.2 0)), (1, .int a1), (2, .int x1), (3, .int x2)] → cR_Wi p l e ({ frames := 1, cells := 0, slots := 0, locals := 24 } : Room) s m [.ref (Γ.2.2 0), .int a1] below meth c Γ (fun r u => u = σ ∧ Φ r) H locs 4 ls []) (fun x1 x2 hw H locs ls hP hl => ?_) _ _ _ hP (lv_sub hl [2, 3, 1, 0] rfl)
  refine lv_iload_n hx hb dX10_isOfRing_4 rfl (lv_at hl 3 rfl) ?_
  refine lv_bipush (v := 100) hx hb dX10_isOfRing_5 (by decide) ?_
  refine lv_icmp_ge (tgt := 125) hx hb dX10_isOfRing_7 (by decide) (fun h => ?_) (fun h => ?_)
  · replace hw := hw.1 h
    refine lv_iload_n hx hb dX10_isOfRing_125 rfl (lv_at hl 2 rfl) ?_
    exact W.zret hx hb hr (ft_bz_n hw.1) (cR_ri hP ⟨rfl, hw.2⟩) hP.2.2.2 dX10_isOfRing_126
  · replace hw := hw.2 h
    refine lv_iload_n hx hb dX10_isOfRing_10 rfl (lv_at hl 3 rfl) ?_
    refine lv_iload_n hx hb dX10_isOfRing_11 rfl (lv_at hl 1 rfl) ?_
    refine ft_cut (hw (fun (x4 : Int32) => ∀ (H : Heap) (locs : List Loc) (ls : Array Slot), cR_P Γ s σ H locs → lv_has ls 6 [(0, .ref (Γ.2.2 0)), (1, .int a1), (2, .int x1), (3, .int x2)] → cR_Wi p l e ({ frames := 1, cells := 0, slots := 0, locals := 24 } : Room) s m [.ref (Γ.2.2 0), .int a1] below meth c Γ (fun r u => u = σ ∧ Φ r) H locs 39 ls [.int x4]) (fun x4 hw H locs ls hP hl => ?_)) (fun hw => ?_)
    · refine lv_istore (lv' := [(4, .int x4), (0, .ref (Γ.2.2 0)), (1, .int a1), (2, .int x1), (3, .int x2)]) hx hb dX10_isOfRing_39 hl (by decide) rfl (fun ls hl => ?_)
      refine lv_iconst (v := 0) hx hb dX10_isOfRing_41 (by decide) ?_
      refine lv_istore (lv' := [(5, .int 0), (4, .int x4), (0, .ref (Γ.2.2 0)), (1, .int a1), (2, .int x1), (3, .int x2)]) hx hb dX10_isOfRing_42 hl (by decide) rfl (fun ls hl => ?_)
      refine hw (fun (x6 : Int32) (x7 : Int32) => ∀ (H : Heap) (locs : List Loc) (ls : Array Slot), cR_P Γ s σ H locs → lv_has ls 6 [(0, .ref (Γ.2.2 0)), (1, .int a1), (2, .int x6), (3, .int x2), (4, .int x4), (5, .int x7)] → cR_Wi p l e ({ frames := 1, cells := 0, slots := 0, locals := 24 } : Room) s m [.ref (Γ.2.2 0), .int a1] below meth c Γ (fun r u => u = σ ∧ Φ r) H locs 44 ls []) (fun x6 x7 hw H locs ls hP hl => ?_) _ _ _ hP (lv_sub hl [2, 3, 4, 5, 1, 0] rfl)
      refine lv_iload hx hb dX10_isOfRing_44 (lv_at hl 5 rfl) ?_
      refine lv_bipush (v := 100) hx hb dX10_isOfRing_46 (by decide) ?_
      refine lv_icmp_ge (tgt := 119) hx hb dX10_isOfRing_48 (by decide) (fun h => ?_) (fun h => ?_)
      · replace hw := hw.1 h
        refine lv_iinc (v := x2 + 1) (lv' := [(3, .int (x2 + 1)), (0, .ref (Γ.2.2 0)), (1, .int a1), (2, .int x6), (4, .int x4), (5, .int x7)]) hx hb dX10_isOfRing_119 hl (k := 3) rfl (congrArg (fun z => x2 + z) (by decide)) (by decide) rfl (fun ls hl => ?_)
        refine lv_goto (tgt := 4) hx hb dX10_isOfRing_122 (by decide) ?_
        exact hw _ _ _ hP (lv_sub hl [1, 2, 3, 0] rfl)
      · replace hw := hw.2 h
        refine lv_iload hx hb dX10_isOfRing_51 (lv_at hl 4 rfl) ?_
        refine lv_if_eq (tgt := 119) hx hb dX10_isOfRing_53 (by decide) (fun h => ?_) (fun h => ?_)
        · replace hw := hw.1 h
          refine lv_iinc (v := x2 + 1) (lv' := [(3, .int (x2 + 1)), (0, .ref (Γ.2.2 0)), (1, .int a1), (2, .int x6), (4, .int x4), (5, .int x7)]) hx hb dX10_isOfRing_119 hl (k := 3) rfl (congrArg (fun z => x2 + z) (by decide)) (by decide) rfl (fun ls hl => ?_)
          refine lv_goto (tgt := 4) hx hb dX10_isOfRing_122 (by decide) ?_
          exact hw _ _ _ hP (lv_sub hl [1, 2, 3, 0] rfl)
        · replace hw := hw.2 h
          refine lv_iload_n hx hb dX10_isOfRing_56 rfl (lv_at hl 2 rfl) ?_
          refine lv_if_ne (tgt := 119) hx hb dX10_isOfRing_57 (by decide) (fun h => ?_) (fun h => ?_)
          · replace hw := hw.1 h
            refine lv_iinc (v := x2 + 1) (lv' := [(3, .int (x2 + 1)), (0, .ref (Γ.2.2 0)), (1, .int a1), (2, .int x6), (4, .int x4), (5, .int x7)]) hx hb dX10_isOfRing_119 hl (k := 3) rfl (congrArg (fun z => x2 + z) (by decide)) (by decide) rfl (fun ls hl => ?_)
            refine lv_goto (tgt := 4) hx hb dX10_isOfRing_122 (by decide) ?_
            exact hw _ _ _ hP (lv_sub hl [1, 2, 3, 0] rfl)
          · replace hw := hw.2 h
            refine lv_aload_n hx hb dX10_isOfRing_60 rfl (lv_at hl 0 rfl) ?_
            refine gR_10_16 hx hb hts i10 hown hK hP hR_0 (hts _ q_X10_isOfRing_3) dX10_isOfRing_61 ?_
            refine lv_iload_n hx hb dX10_isOfRing_64 rfl (lv_at hl 3 rfl) ?_
            refine aR_lld hx hb hK hP hR_10 mR_10 hw.1 dX10_isOfRing_65 ?_
            replace hw := hw.2
            refine lv_aload_n hx hb dX10_isOfRing_66 rfl (lv_at hl 0 rfl) ?_
            refine gR_10_17 hx hb hts i10 hown hK hP hR_0 (hts _ q_X10_isOfRing_4) dX10_isOfRing_67 ?_
            refine lv_iload_n hx hb dX10_isOfRing_70 rfl (lv_at hl 3 rfl) ?_
            refine aR_lld hx hb hK hP hR_11 mR_11 hw.1 dX10_isOfRing_71 ?_
            replace hw := hw.2
            refine lv_iload hx hb dX10_isOfRing_72 (lv_at hl 5 rfl) ?_
            refine cR_Sip (rest := []) ⟨hx, hb, hml, hown, hts⟩ (c_X10_has l Γ hI (σ.2.2 10 (Int32.toNatClampNeg x2)) (σ.2.2 11 (Int32.toNatClampNeg x2)) x7 σ _ hw) (va_cwS 3 hts gX10_isOfRing_X10_has rfl rfl rfl (by decide +kernel) ⟨Nat.le_of_ble_eq_true rfl, Nat.le_of_ble_eq_true rfl⟩) hK hN hP rfl hl.1 rfl (Nat.le_of_ble_eq_true rfl) dX10_isOfRing_74 ⟨Nat.le_refl _, Nat.le_refl _⟩ (fun r9 H locs hw hP => ?_)
            refine ft_cut (hw (∀ (H : Heap) (locs : List Loc) (ls : Array Slot), cR_P Γ s σ H locs → lv_has ls 6 [(0, .ref (Γ.2.2 0)), (1, .int a1), (3, .int x2), (4, .int x4), (5, .int x7)] → cR_Wi p l e ({ frames := 1, cells := 0, slots := 0, locals := 24 } : Room) s m [.ref (Γ.2.2 0), .int a1] below meth c Γ (fun r u => u = σ ∧ Φ r) H locs 111 ls []) (fun  hw H locs ls hP hl => ?_)) (fun hw => ?_)
            · refine lv_iconst (v := 0) hx hb dX10_isOfRing_111 (by decide) ?_
              refine lv_istore_n (lv' := [(2, .int 0), (0, .ref (Γ.2.2 0)), (1, .int a1), (3, .int x2), (4, .int x4), (5, .int x7)]) hx hb dX10_isOfRing_112 rfl hl (by decide) rfl (fun ls hl => ?_)
              refine lv_iinc (v := x7 + 1) (lv' := [(5, .int (x7 + 1)), (2, .int 0), (0, .ref (Γ.2.2 0)), (1, .int a1), (3, .int x2), (4, .int x4)]) hx hb dX10_isOfRing_113 hl (k := 5) rfl (congrArg (fun z => x7 + z) (by decide)) (by decide) rfl (fun ls hl => ?_)
              refine lv_goto (tgt := 44) hx hb dX10_isOfRing_116 (by decide) ?_
              exact hw _ _ _ hP (lv_sub hl [2, 3, 1, 4, 5, 0] rfl)
            · refine lv_if_eq (tgt := 111) hx hb dX10_isOfRing_77 (by decide) (fun h => ?_) (fun h => ?_)
              · replace hw := hw.1 h
                exact hw _ _ _ hP (lv_sub hl [0, 1, 3, 4, 5] rfl)
              · replace hw := hw.2 h
                refine lv_iload hx hb dX10_isOfRing_80 (lv_at hl 5 rfl) ?_
                refine lv_iload_n hx hb dX10_isOfRing_82 rfl (lv_at hl 1 rfl) ?_
                refine ft_cut (hw (∀ (H : Heap) (locs : List Loc) (ls : Array Slot), cR_P Γ s σ H locs → lv_has ls 6 [(0, .ref (Γ.2.2 0)), (1, .int a1), (3, .int x2), (4, .int x4), (5, .int x7)] → cR_Wi p l e ({ frames := 1, cells := 0, slots := 0, locals := 24 } : Room) s m [.ref (Γ.2.2 0), .int a1] below meth c Γ (fun r u => u = σ ∧ Φ r) H locs 107 ls []) (fun  hw H locs ls hP hl => ?_)) (fun hw => ?_)
                · refine lv_iconst (v := 1) hx hb dX10_isOfRing_107 (by decide) ?_
                  refine lv_goto (tgt := 112) hx hb dX10_isOfRing_108 (by decide) ?_
                  refine lv_istore_n (lv' := [(2, .int 1), (0, .ref (Γ.2.2 0)), (1, .int a1), (3, .int x2), (4, .int x4), (5, .int x7)]) hx hb dX10_isOfRing_112 rfl hl (by decide) rfl (fun ls hl => ?_)
                  refine lv_iinc (v := x7 + 1) (lv' := [(5, .int (x7 + 1)), (2, .int 1), (0, .ref (Γ.2.2 0)), (1, .int a1), (3, .int x2), (4, .int x4)]) hx hb dX10_isOfRing_113 hl (k := 5) rfl (congrArg (fun z => x7 + z) (by decide)) (by decide) rfl (fun ls hl => ?_)
                  refine lv_goto (tgt := 44) hx hb dX10_isOfRing_116 (by decide) ?_
                  exact hw _ _ _ hP (lv_sub hl [2, 3, 1, 4, 5, 0] rfl)
                · refine lv_icmp_eq (tgt := 107) hx hb dX10_isOfRing_83 (by decide) (fun h => ?_) (fun h => ?_)
                  · replace hw := hw.1 h
                    exact hw _ _ _ hP (lv_sub hl [0, 1, 3, 4, 5] rfl)
                  · replace hw := hw.2 h
                    refine lv_aload_n hx hb dX10_isOfRing_86 rfl (lv_at hl 0 rfl) ?_
                    refine gR_10_18 hx hb hts i10 hown hK hP hR_0 (hts _ q_X10_isOfRing_1) dX10_isOfRing_87 ?_
                    refine lv_iload hx hb dX10_isOfRing_90 (lv_at hl 5 rfl) ?_
                    refine aR_lld hx hb hK hP hR_12 mR_12 hw.1 dX10_isOfRing_92 ?_
                    replace hw := hw.2
                    refine lv_aload_n hx hb dX10_isOfRing_93 rfl (lv_at hl 0 rfl) ?_
                    refine gR_10_19 hx hb hts i10 hown hK hP hR_0 (hts _ q_X10_isOfRing_2) dX10_isOfRing_94 ?_
                    refine lv_iload hx hb dX10_isOfRing_97 (lv_at hl 5 rfl) ?_
                    refine aR_lld hx hb hK hP hR_13 mR_13 hw.1 dX10_isOfRing_99 ?_
                    replace hw := hw.2
                    refine lv_iload_n hx hb dX10_isOfRing_100 rfl (lv_at hl 1 rfl) ?_
                    refine cR_Sip (rest := []) ⟨hx, hb, hml, hown, hts⟩ (c_X10_has l Γ hI (σ.2.2 12 (Int32.toNatClampNeg x7)) (σ.2.2 13 (Int32.toNatClampNeg x7)) a1 σ _ hw) (va_cwS 3 hts gX10_isOfRing_X10_has rfl rfl rfl (by decide +kernel) ⟨Nat.le_of_ble_eq_true rfl, Nat.le_of_ble_eq_true rfl⟩) hK hN hP rfl hl.1 rfl (Nat.le_of_ble_eq_true rfl) dX10_isOfRing_101 ⟨Nat.le_refl _, Nat.le_refl _⟩ (fun r12 H locs hw hP => ?_)
                    refine lv_if_eq (tgt := 111) hx hb dX10_isOfRing_104 (by decide) (fun h => ?_) (fun h => ?_)
                    · replace hw := hw.1 h
                      exact hw _ _ _ hP (lv_sub hl [0, 1, 3, 4, 5] rfl)
                    · replace hw := hw.2 h
                      exact hw _ _ _ hP (lv_sub hl [0, 1, 3, 4, 5] rfl)
    · refine ft_cut (hw (∀ (H : Heap) (locs : List Loc) (ls : Array Slot), cR_P Γ s σ H locs → lv_has ls 6 [(0, .ref (Γ.2.2 0)), (1, .int a1), (2, .int x1), (3, .int x2)] → cR_Wi p l e ({ frames := 1, cells := 0, slots := 0, locals := 24 } : Room) s m [.ref (Γ.2.2 0), .int a1] below meth c Γ (fun r u => u = σ ∧ Φ r) H locs 34 ls []) (fun  hw H locs ls hP hl => ?_)) (fun hw => ?_)
      · refine lv_iconst (v := 1) hx hb dX10_isOfRing_34 (by decide) ?_
        refine lv_goto (tgt := 39) hx hb dX10_isOfRing_35 (by decide) ?_
        exact hw _ _ _ hP (lv_sub hl [0, 1, 2, 3] rfl)
      · refine lv_icmp_eq (tgt := 34) hx hb dX10_isOfRing_12 (by decide) (fun h => ?_) (fun h => ?_)
        · replace hw := hw.1 h
          exact hw _ _ _ hP (lv_sub hl [0, 1, 2, 3] rfl)
        · replace hw := hw.2 h
          refine lv_aload_n hx hb dX10_isOfRing_15 rfl (lv_at hl 0 rfl) ?_
          refine gR_10_18 hx hb hts i10 hown hK hP hR_0 (hts _ q_X10_isOfRing_1) dX10_isOfRing_16 ?_
          refine lv_iload_n hx hb dX10_isOfRing_19 rfl (lv_at hl 1 rfl) ?_
          refine aR_lld hx hb hK hP hR_12 mR_12 hw.1 dX10_isOfRing_20 ?_
          replace hw := hw.2
          refine lv_aload_n hx hb dX10_isOfRing_21 rfl (lv_at hl 0 rfl) ?_
          refine gR_10_19 hx hb hts i10 hown hK hP hR_0 (hts _ q_X10_isOfRing_2) dX10_isOfRing_22 ?_
          refine lv_iload_n hx hb dX10_isOfRing_25 rfl (lv_at hl 1 rfl) ?_
          refine aR_lld hx hb hK hP hR_13 mR_13 hw.1 dX10_isOfRing_26 ?_
          replace hw := hw.2
          refine lv_iload_n hx hb dX10_isOfRing_27 rfl (lv_at hl 3 rfl) ?_
          refine cR_Sip (rest := []) ⟨hx, hb, hml, hown, hts⟩ (c_X10_has l Γ hI (σ.2.2 12 (Int32.toNatClampNeg a1)) (σ.2.2 13 (Int32.toNatClampNeg a1)) x2 σ _ hw) (va_cwS 3 hts gX10_isOfRing_X10_has rfl rfl rfl (by decide +kernel) ⟨Nat.le_of_ble_eq_true rfl, Nat.le_of_ble_eq_true rfl⟩) hK hN hP rfl hl.1 rfl (Nat.le_of_ble_eq_true rfl) dX10_isOfRing_28 ⟨Nat.le_refl _, Nat.le_refl _⟩ (fun r14 H locs hw hP => ?_)
          refine lv_if_eq (tgt := 38) hx hb dX10_isOfRing_31 (by decide) (fun h => ?_) (fun h => ?_)
          · replace hw := hw.1 h
            refine lv_iconst (v := 0) hx hb dX10_isOfRing_38 (by decide) ?_
            exact hw _ _ _ hP (lv_sub hl [0, 1, 2, 3] rfl)
          · replace hw := hw.2 h
            exact hw _ _ _ hP (lv_sub hl [0, 1, 2, 3] rfl)
theorem q_X10_isApart_1 : (Cond.fieldLink RX10 44 "FaultTwinsModel" "markLow" "[J") ∈ wsX10_isApart := List.mem_of_getElem? (i := 1) (by decide +kernel)
theorem q_X10_isApart_2 : (Cond.fieldLink RX10 48 "FaultTwinsModel" "markHigh" "[J") ∈ wsX10_isApart := List.mem_of_getElem? (i := 2) (by decide +kernel)
theorem q_X10_isApart_3 : (Cond.fieldLink RX10 51 "FaultTwinsModel" "low" "[J") ∈ wsX10_isApart := List.mem_of_getElem? (i := 3) (by decide +kernel)
theorem q_X10_isApart_4 : (Cond.fieldLink RX10 54 "FaultTwinsModel" "high" "[J") ∈ wsX10_isApart := List.mem_of_getElem? (i := 4) (by decide +kernel)
set_option maxHeartbeats 4000000 in
set_option maxRecDepth 100000 in
theorem c_X10_isApart (l : Launch) (Γ : ft_G) (hI : cR_I Γ)  (σ : ft_St) (Φ : Int32 → ft_St → Prop) (hw : w_X10_isApart  σ Φ) : cR_Mi l yX10_isApart wsX10_isApart ({ frames := 4, cells := 0, slots := 0, locals := 90 } : Room) Γ σ [.ref (Γ.2.2 0)] Φ := by
  refine Met.ofW (cc := cX10_isApart) (maxL := 4) (ret := (some .boolean)) (by decide) rfl ?_
  intro p e s m args below meth c s₁ B hml hv
  obtain ⟨rfl, hP, hK, hN⟩ := hv
  have hx := B.exec
  have hb := B.bytes
  have hr := B.returns
  have hts := atoms_spec (ws := wsX10_isApart) B.pre
  have hown : s.vm.findClass RX10 = some m.cls := findClass_of_methodNamed B.named
  have hlocks := B.notSynchronized
  have i10 : ∀ w ∈ wsX100, w ∈ wsX10_isApart := fun w h => List.mem_cons_of_mem _ (List.mem_append_right _ h)
  have hP : cR_P Γ s σ s.heap [] := ⟨hP, va_S.rf⟩
  have hl := lv_entry ([.ref (Γ.2.2 0)]) (n := 4) (Nat.le_of_ble_eq_true rfl)
  rw [lg_entry_eq]
  generalize (lg_sl ([.ref (Γ.2.2 0)]) ++ List.replicate (4 - (lg_sl ([.ref (Γ.2.2 0)])).length) Slot.unset).toArray = ls at hl ⊢
  have hl : lv_has ls 4 [(0, .ref (Γ.2.2 0))] := hl
  unfold w_X10_isApart at hw
  refine lv_aload_n hx hb dX10_isApart_0 rfl (lv_at hl 0 rfl) ?_
  refine cR_Vv (rest := []) ⟨hx, hb, hml, hown, hts⟩ (c_X10_findsLeads l Γ hI  σ _ hw) (cwV 0 hts gX10_isApart_X10_findsLeads rfl rfl rfl (by decide +kernel) ⟨Nat.le_of_ble_eq_true rfl, Nat.le_of_ble_eq_true rfl⟩) hK hN hP (cR_lt hR_0 (by decide)) (cR_E10 hR_0) rfl rfl rfl hl.1 rfl (Nat.le_of_ble_eq_true rfl) dX10_isApart_1 ⟨Nat.le_refl _, Nat.le_refl _⟩ (fun s1 H locs hw hP => ?_)
  refine lv_aload_n hx hb dX10_isApart_4 rfl (lv_at hl 0 rfl) ?_
  refine cR_Vv (rest := []) ⟨hx, hb, hml, hown, hts⟩ (c_X10_goesOn l Γ hI  s1 _ hw) (cwV 0 hts gX10_isApart_X10_goesOn rfl rfl rfl (by decide +kernel) ⟨Nat.le_of_ble_eq_true rfl, Nat.le_of_ble_eq_true rfl⟩) hK hN hP (cR_lt hR_0 (by decide)) (cR_E10 hR_0) rfl rfl rfl hl.1 rfl (Nat.le_of_ble_eq_true rfl) dX10_isApart_5 ⟨Nat.le_refl _, Nat.le_refl _⟩ (fun s2 H locs hw hP => ?_)
  refine lv_iconst (v := 0) hx hb dX10_isApart_8 (by decide) ?_
  refine lv_istore_n (lv' := [(1, .int 0), (0, .ref (Γ.2.2 0))]) hx hb dX10_isApart_9 rfl hl (by decide) rfl (fun ls hl => ?_)
  refine lv_iconst (v := 0) hx hb dX10_isApart_10 (by decide) ?_
  refine lv_istore_n (lv' := [(2, .int 0), (1, .int 0), (0, .ref (Γ.2.2 0))]) hx hb dX10_isApart_11 rfl hl (by decide) rfl (fun ls hl => ?_)
  refine hw (fun (x3 : Int32) (x4 : Int32) => ∀ (H : Heap) (locs : List Loc) (ls : Array Slot), cR_P Γ s s2 H locs → lv_has ls 4 [(0, .ref (Γ.2.2 0)), (1, .int x3), (2, .int x4)] → cR_Wi p l e ({ frames := 4, cells := 0, slots := 0, locals := 90 } : Room) s m [.ref (Γ.2.2 0)] below meth c Γ Φ H locs 12 ls []) (fun x3 x4 hw H locs ls hP hl => ?_) _ _ _ hP (lv_sub hl [2, 1, 0] rfl)
  refine lv_iload_n hx hb dX10_isApart_12 rfl (lv_at hl 2 rfl) ?_
  refine lv_bipush (v := 100) hx hb dX10_isApart_13 (by decide) ?_
  refine lv_icmp_ge (tgt := 91) hx hb dX10_isApart_15 (by decide) (fun h => ?_) (fun h => ?_)
  · replace hw := hw.1 h
    refine lv_iload_n hx hb dX10_isApart_91 rfl (lv_at hl 1 rfl) ?_
    refine lv_if_ne (tgt := 99) hx hb dX10_isApart_92 (by decide) (fun h => ?_) (fun h => ?_)
    · replace hw := hw.1 h
      refine lv_iconst (v := 0) hx hb dX10_isApart_99 (by decide) ?_
      exact W.zret hx hb hr rfl (cR_ri hP hw) hP.2.2.2 dX10_isApart_100
    · replace hw := hw.2 h
      refine lv_iconst (v := 1) hx hb dX10_isApart_95 (by decide) ?_
      refine lv_goto (tgt := 100) hx hb dX10_isApart_96 (by decide) ?_
      exact W.zret hx hb hr rfl (cR_ri hP hw) hP.2.2.2 dX10_isApart_100
  · replace hw := hw.2 h
    refine lv_iconst (v := 0) hx hb dX10_isApart_18 (by decide) ?_
    refine lv_istore_n (lv' := [(3, .int 0), (0, .ref (Γ.2.2 0)), (1, .int x3), (2, .int x4)]) hx hb dX10_isApart_19 rfl hl (by decide) rfl (fun ls hl => ?_)
    refine hw (fun (x6 : Int32) (x7 : Int32) => ∀ (H : Heap) (locs : List Loc) (ls : Array Slot), cR_P Γ s s2 H locs → lv_has ls 4 [(0, .ref (Γ.2.2 0)), (1, .int x6), (2, .int x4), (3, .int x7)] → cR_Wi p l e ({ frames := 4, cells := 0, slots := 0, locals := 90 } : Room) s m [.ref (Γ.2.2 0)] below meth c Γ Φ H locs 20 ls []) (fun x6 x7 hw H locs ls hP hl => ?_) _ _ _ hP (lv_sub hl [1, 2, 3, 0] rfl)
    refine lv_iload_n hx hb dX10_isApart_20 rfl (lv_at hl 3 rfl) ?_
    refine lv_bipush (v := 100) hx hb dX10_isApart_21 (by decide) ?_
    refine lv_icmp_ge (tgt := 85) hx hb dX10_isApart_23 (by decide) (fun h => ?_) (fun h => ?_)
    · replace hw := hw.1 h
      refine lv_iinc (v := x4 + 1) (lv' := [(2, .int (x4 + 1)), (0, .ref (Γ.2.2 0)), (1, .int x6), (3, .int x7)]) hx hb dX10_isApart_85 hl (k := 2) rfl (congrArg (fun z => x4 + z) (by decide)) (by decide) rfl (fun ls hl => ?_)
      refine lv_goto (tgt := 12) hx hb dX10_isApart_88 (by decide) ?_
      exact hw _ _ _ hP (lv_sub hl [1, 2, 0] rfl)
    · replace hw := hw.2 h
      refine lv_iload_n hx hb dX10_isApart_26 rfl (lv_at hl 1 rfl) ?_
      refine lv_if_ne (tgt := 85) hx hb dX10_isApart_27 (by decide) (fun h => ?_) (fun h => ?_)
      · replace hw := hw.1 h
        refine lv_iinc (v := x4 + 1) (lv' := [(2, .int (x4 + 1)), (0, .ref (Γ.2.2 0)), (1, .int x6), (3, .int x7)]) hx hb dX10_isApart_85 hl (k := 2) rfl (congrArg (fun z => x4 + z) (by decide)) (by decide) rfl (fun ls hl => ?_)
        refine lv_goto (tgt := 12) hx hb dX10_isApart_88 (by decide) ?_
        exact hw _ _ _ hP (lv_sub hl [1, 2, 0] rfl)
      · replace hw := hw.2 h
        refine lv_aload_n hx hb dX10_isApart_30 rfl (lv_at hl 0 rfl) ?_
        refine gR_10_16 hx hb hts i10 hown hK hP hR_0 (hts _ q_X10_isApart_1) dX10_isApart_31 ?_
        refine lv_iload_n hx hb dX10_isApart_34 rfl (lv_at hl 2 rfl) ?_
        refine aR_lld hx hb hK hP hR_10 mR_10 hw.1 dX10_isApart_35 ?_
        replace hw := hw.2
        refine lv_aload_n hx hb dX10_isApart_36 rfl (lv_at hl 0 rfl) ?_
        refine gR_10_17 hx hb hts i10 hown hK hP hR_0 (hts _ q_X10_isApart_2) dX10_isApart_37 ?_
        refine lv_iload_n hx hb dX10_isApart_40 rfl (lv_at hl 2 rfl) ?_
        refine aR_lld hx hb hK hP hR_11 mR_11 hw.1 dX10_isApart_41 ?_
        replace hw := hw.2
        refine lv_iload_n hx hb dX10_isApart_42 rfl (lv_at hl 3 rfl) ?_
        refine cR_Sip (rest := []) ⟨hx, hb, hml, hown, hts⟩ (c_X10_has l Γ hI (s2.2.2 10 (Int32.toNatClampNeg x4)) (s2.2.2 11 (Int32.toNatClampNeg x4)) x7 s2 _ hw) (va_cwS 3 hts gX10_isApart_X10_has rfl rfl rfl (by decide +kernel) ⟨Nat.le_of_ble_eq_true rfl, Nat.le_of_ble_eq_true rfl⟩) hK hN hP rfl hl.1 rfl (Nat.le_of_ble_eq_true rfl) dX10_isApart_43 ⟨Nat.le_refl _, Nat.le_refl _⟩ (fun r9 H locs hw hP => ?_)
        refine ft_cut (hw (∀ (H : Heap) (locs : List Loc) (ls : Array Slot), cR_P Γ s s2 H locs → lv_has ls 4 [(0, .ref (Γ.2.2 0)), (2, .int x4), (3, .int x7)] → cR_Wi p l e ({ frames := 4, cells := 0, slots := 0, locals := 90 } : Room) s m [.ref (Γ.2.2 0)] below meth c Γ Φ H locs 77 ls []) (fun  hw H locs ls hP hl => ?_)) (fun hw => ?_)
        · refine lv_iconst (v := 0) hx hb dX10_isApart_77 (by decide) ?_
          refine lv_istore_n (lv' := [(1, .int 0), (0, .ref (Γ.2.2 0)), (2, .int x4), (3, .int x7)]) hx hb dX10_isApart_78 rfl hl (by decide) rfl (fun ls hl => ?_)
          refine lv_iinc (v := x7 + 1) (lv' := [(3, .int (x7 + 1)), (1, .int 0), (0, .ref (Γ.2.2 0)), (2, .int x4)]) hx hb dX10_isApart_79 hl (k := 3) rfl (congrArg (fun z => x7 + z) (by decide)) (by decide) rfl (fun ls hl => ?_)
          refine lv_goto (tgt := 20) hx hb dX10_isApart_82 (by decide) ?_
          exact hw _ _ _ hP (lv_sub hl [2, 1, 3, 0] rfl)
        · refine lv_if_eq (tgt := 77) hx hb dX10_isApart_46 (by decide) (fun h => ?_) (fun h => ?_)
          · replace hw := hw.1 h
            exact hw _ _ _ hP (lv_sub hl [0, 2, 3] rfl)
          · replace hw := hw.2 h
            refine lv_iload_n hx hb dX10_isApart_49 rfl (lv_at hl 2 rfl) ?_
            refine lv_iload_n hx hb dX10_isApart_50 rfl (lv_at hl 3 rfl) ?_
            refine ft_cut (hw (∀ (H : Heap) (locs : List Loc) (ls : Array Slot), cR_P Γ s s2 H locs → lv_has ls 4 [(0, .ref (Γ.2.2 0)), (2, .int x4), (3, .int x7)] → cR_Wi p l e ({ frames := 4, cells := 0, slots := 0, locals := 90 } : Room) s m [.ref (Γ.2.2 0)] below meth c Γ Φ H locs 73 ls []) (fun  hw H locs ls hP hl => ?_)) (fun hw => ?_)
            · refine lv_iconst (v := 1) hx hb dX10_isApart_73 (by decide) ?_
              refine lv_goto (tgt := 78) hx hb dX10_isApart_74 (by decide) ?_
              refine lv_istore_n (lv' := [(1, .int 1), (0, .ref (Γ.2.2 0)), (2, .int x4), (3, .int x7)]) hx hb dX10_isApart_78 rfl hl (by decide) rfl (fun ls hl => ?_)
              refine lv_iinc (v := x7 + 1) (lv' := [(3, .int (x7 + 1)), (1, .int 1), (0, .ref (Γ.2.2 0)), (2, .int x4)]) hx hb dX10_isApart_79 hl (k := 3) rfl (congrArg (fun z => x7 + z) (by decide)) (by decide) rfl (fun ls hl => ?_)
              refine lv_goto (tgt := 20) hx hb dX10_isApart_82 (by decide) ?_
              exact hw _ _ _ hP (lv_sub hl [2, 1, 3, 0] rfl)
            · refine lv_icmp_eq (tgt := 73) hx hb dX10_isApart_51 (by decide) (fun h => ?_) (fun h => ?_)
              · replace hw := hw.1 h
                exact hw _ _ _ hP (lv_sub hl [0, 2, 3] rfl)
              · replace hw := hw.2 h
                refine lv_aload_n hx hb dX10_isApart_54 rfl (lv_at hl 0 rfl) ?_
                refine gR_10_18 hx hb hts i10 hown hK hP hR_0 (hts _ q_X10_isApart_3) dX10_isApart_55 ?_
                refine lv_iload_n hx hb dX10_isApart_58 rfl (lv_at hl 3 rfl) ?_
                refine aR_lld hx hb hK hP hR_12 mR_12 hw.1 dX10_isApart_59 ?_
                replace hw := hw.2
                refine lv_aload_n hx hb dX10_isApart_60 rfl (lv_at hl 0 rfl) ?_
                refine gR_10_19 hx hb hts i10 hown hK hP hR_0 (hts _ q_X10_isApart_4) dX10_isApart_61 ?_
                refine lv_iload_n hx hb dX10_isApart_64 rfl (lv_at hl 3 rfl) ?_
                refine aR_lld hx hb hK hP hR_13 mR_13 hw.1 dX10_isApart_65 ?_
                replace hw := hw.2
                refine lv_iload_n hx hb dX10_isApart_66 rfl (lv_at hl 2 rfl) ?_
                refine cR_Sip (rest := []) ⟨hx, hb, hml, hown, hts⟩ (c_X10_has l Γ hI (s2.2.2 12 (Int32.toNatClampNeg x7)) (s2.2.2 13 (Int32.toNatClampNeg x7)) x4 s2 _ hw) (va_cwS 3 hts gX10_isApart_X10_has rfl rfl rfl (by decide +kernel) ⟨Nat.le_of_ble_eq_true rfl, Nat.le_of_ble_eq_true rfl⟩) hK hN hP rfl hl.1 rfl (Nat.le_of_ble_eq_true rfl) dX10_isApart_67 ⟨Nat.le_refl _, Nat.le_refl _⟩ (fun r12 H locs hw hP => ?_)
                refine lv_if_eq (tgt := 77) hx hb dX10_isApart_70 (by decide) (fun h => ?_) (fun h => ?_)
                · replace hw := hw.1 h
                  exact hw _ _ _ hP (lv_sub hl [0, 2, 3] rfl)
                · replace hw := hw.2 h
                  exact hw _ _ _ hP (lv_sub hl [0, 2, 3] rfl)
theorem q_X10_delay_1 : (Cond.fieldLink RX10 57 "FaultTwinsModel" "longest" "[I") ∈ wsX10_delay := List.mem_of_getElem? (i := 1) (by decide +kernel)
theorem q_X10_delay_2 : (Cond.fieldLink RX10 51 "FaultTwinsModel" "low" "[J") ∈ wsX10_delay := List.mem_of_getElem? (i := 2) (by decide +kernel)
theorem q_X10_delay_3 : (Cond.fieldLink RX10 54 "FaultTwinsModel" "high" "[J") ∈ wsX10_delay := List.mem_of_getElem? (i := 3) (by decide +kernel)
theorem q_X10_delay_4 : (Cond.fieldLink RX10 44 "FaultTwinsModel" "markLow" "[J") ∈ wsX10_delay := List.mem_of_getElem? (i := 4) (by decide +kernel)
theorem q_X10_delay_5 : (Cond.fieldLink RX10 48 "FaultTwinsModel" "markHigh" "[J") ∈ wsX10_delay := List.mem_of_getElem? (i := 5) (by decide +kernel)
set_option maxHeartbeats 4000000 in
set_option maxRecDepth 100000 in
theorem c_X10_delay (l : Launch) (Γ : ft_G) (hI : cR_I Γ)  (σ : ft_St) (Φ : Int32 → ft_St → Prop) (hw : w_X10_delay  σ Φ) : cR_Mi l yX10_delay wsX10_delay ({ frames := 4, cells := 0, slots := 0, locals := 90 } : Room) Γ σ [.ref (Γ.2.2 0)] Φ := by
  refine Met.ofW (cc := cX10_delay) (maxL := 6) (ret := (some .int)) (by decide) rfl ?_
  intro p e s m args below meth c s₁ B hml hv
  obtain ⟨rfl, hP, hK, hN⟩ := hv
  have hx := B.exec
  have hb := B.bytes
  have hr := B.returns
  have hts := atoms_spec (ws := wsX10_delay) B.pre
  have hown : s.vm.findClass RX10 = some m.cls := findClass_of_methodNamed B.named
  have hlocks := B.notSynchronized
  have i10 : ∀ w ∈ wsX100, w ∈ wsX10_delay := fun w h => List.mem_cons_of_mem _ (List.mem_append_right _ h)
  have hP : cR_P Γ s σ s.heap [] := ⟨hP, va_S.rf⟩
  have hl := lv_entry ([.ref (Γ.2.2 0)]) (n := 6) (Nat.le_of_ble_eq_true rfl)
  rw [lg_entry_eq]
  generalize (lg_sl ([.ref (Γ.2.2 0)]) ++ List.replicate (6 - (lg_sl ([.ref (Γ.2.2 0)])).length) Slot.unset).toArray = ls at hl ⊢
  have hl : lv_has ls 6 [(0, .ref (Γ.2.2 0))] := hl
  unfold w_X10_delay at hw
  refine lv_aload_n hx hb dX10_delay_0 rfl (lv_at hl 0 rfl) ?_
  refine cR_Vv (rest := []) ⟨hx, hb, hml, hown, hts⟩ (c_X10_findsLeads l Γ hI  σ _ hw) (cwV 0 hts gX10_delay_X10_findsLeads rfl rfl rfl (by decide +kernel) ⟨Nat.le_of_ble_eq_true rfl, Nat.le_of_ble_eq_true rfl⟩) hK hN hP (cR_lt hR_0 (by decide)) (cR_E10 hR_0) rfl rfl rfl hl.1 rfl (Nat.le_of_ble_eq_true rfl) dX10_delay_1 ⟨Nat.le_refl _, Nat.le_refl _⟩ (fun s1 H locs hw hP => ?_)
  refine lv_iconst (v := 0) hx hb dX10_delay_4 (by decide) ?_
  refine lv_istore_n (lv' := [(1, .int 0), (0, .ref (Γ.2.2 0))]) hx hb dX10_delay_5 rfl hl (by decide) rfl (fun ls hl => ?_)
  refine lv_iconst (v := 1) hx hb dX10_delay_6 (by decide) ?_
  refine lv_istore_n (lv' := [(2, .int 1), (1, .int 0), (0, .ref (Γ.2.2 0))]) hx hb dX10_delay_7 rfl hl (by decide) rfl (fun ls hl => ?_)
  refine lv_iconst (v := 0) hx hb dX10_delay_8 (by decide) ?_
  refine lv_istore_n (lv' := [(3, .int 0), (2, .int 1), (1, .int 0), (0, .ref (Γ.2.2 0))]) hx hb dX10_delay_9 rfl hl (by decide) rfl (fun ls hl => ?_)
  refine hw (fun (x2 : Int32) (s3 : ft_St) => ∀ (H : Heap) (locs : List Loc) (ls : Array Slot), cR_P Γ s s3 H locs → lv_has ls 6 [(0, .ref (Γ.2.2 0)), (1, .int 0), (2, .int 1), (3, .int x2)] → cR_Wi p l e ({ frames := 4, cells := 0, slots := 0, locals := 90 } : Room) s m [.ref (Γ.2.2 0)] below meth c Γ Φ H locs 10 ls []) (fun x2 s3 hw H locs ls hP hl => ?_) _ _ _ hP (lv_sub hl [3, 2, 1, 0] rfl)
  refine lv_iload_n hx hb dX10_delay_10 rfl (lv_at hl 3 rfl) ?_
  refine lv_bipush (v := 100) hx hb dX10_delay_11 (by decide) ?_
  refine lv_icmp_ge (tgt := 29) hx hb dX10_delay_13 (by decide) (fun h => ?_) (fun h => ?_)
  · replace hw := hw.1 h
    refine hw (fun (x5 : Int32) (x6 : Int32) (s7 : ft_St) => ∀ (H : Heap) (locs : List Loc) (ls : Array Slot), cR_P Γ s s7 H locs → lv_has ls 6 [(0, .ref (Γ.2.2 0)), (1, .int x5), (2, .int x6)] → cR_Wi p l e ({ frames := 4, cells := 0, slots := 0, locals := 90 } : Room) s m [.ref (Γ.2.2 0)] below meth c Γ Φ H locs 29 ls []) (fun x5 x6 s7 hw H locs ls hP hl => ?_) _ _ _ hP (lv_sub hl [0, 1, 2] rfl)
    refine lv_iload_n hx hb dX10_delay_29 rfl (lv_at hl 2 rfl) ?_
    refine lv_if_eq (tgt := 185) hx hb dX10_delay_30 (by decide) (fun h => ?_) (fun h => ?_)
    · replace hw := hw.1 h
      refine lv_iload_n hx hb dX10_delay_185 rfl (lv_at hl 1 rfl) ?_
      exact W.iret hx hb hr (cR_ri hP hw) hP.2.2.2 dX10_delay_186
    · replace hw := hw.2 h
      refine lv_iconst (v := 0) hx hb dX10_delay_33 (by decide) ?_
      refine lv_istore_n (lv' := [(2, .int 0), (0, .ref (Γ.2.2 0)), (1, .int x5)]) hx hb dX10_delay_34 rfl hl (by decide) rfl (fun ls hl => ?_)
      refine lv_iconst (v := 0) hx hb dX10_delay_35 (by decide) ?_
      refine lv_istore_n (lv' := [(3, .int 0), (2, .int 0), (0, .ref (Γ.2.2 0)), (1, .int x5)]) hx hb dX10_delay_36 rfl hl (by decide) rfl (fun ls hl => ?_)
      refine hw (fun (x9 : Int32) (x10 : Int32) (x11 : Int32) (s12 : ft_St) => ∀ (H : Heap) (locs : List Loc) (ls : Array Slot), cR_P Γ s s12 H locs → lv_has ls 6 [(0, .ref (Γ.2.2 0)), (1, .int x9), (2, .int x10), (3, .int x11)] → cR_Wi p l e ({ frames := 4, cells := 0, slots := 0, locals := 90 } : Room) s m [.ref (Γ.2.2 0)] below meth c Γ Φ H locs 37 ls []) (fun x9 x10 x11 s12 hw H locs ls hP hl => ?_) _ _ _ hP (lv_sub hl [2, 3, 1, 0] rfl)
      refine lv_iload_n hx hb dX10_delay_37 rfl (lv_at hl 3 rfl) ?_
      refine lv_bipush (v := 100) hx hb dX10_delay_38 (by decide) ?_
      refine lv_icmp_ge (tgt := 182) hx hb dX10_delay_40 (by decide) (fun h => ?_) (fun h => ?_)
      · replace hw := hw.1 h
        refine lv_goto (tgt := 29) hx hb dX10_delay_182 (by decide) ?_
        exact hw _ _ _ hP (lv_sub hl [0, 1, 2] rfl)
      · replace hw := hw.2 h
        refine lv_iconst (v := 0) hx hb dX10_delay_43 (by decide) ?_
        refine lv_istore (lv' := [(4, .int 0), (0, .ref (Γ.2.2 0)), (1, .int x9), (2, .int x10), (3, .int x11)]) hx hb dX10_delay_44 hl (by decide) rfl (fun ls hl => ?_)
        refine hw (fun (x14 : Int32) (x15 : Int32) (x16 : Int32) (s17 : ft_St) => ∀ (H : Heap) (locs : List Loc) (ls : Array Slot), cR_P Γ s s17 H locs → lv_has ls 6 [(0, .ref (Γ.2.2 0)), (1, .int x14), (2, .int x15), (3, .int x11), (4, .int x16)] → cR_Wi p l e ({ frames := 4, cells := 0, slots := 0, locals := 90 } : Room) s m [.ref (Γ.2.2 0)] below meth c Γ Φ H locs 46 ls []) (fun x14 x15 x16 s17 hw H locs ls hP hl => ?_) _ _ _ hP (lv_sub hl [1, 2, 3, 4, 0] rfl)
        refine lv_iload hx hb dX10_delay_46 (lv_at hl 4 rfl) ?_
        refine lv_bipush (v := 100) hx hb dX10_delay_48 (by decide) ?_
        refine lv_icmp_ge (tgt := 176) hx hb dX10_delay_50 (by decide) (fun h => ?_) (fun h => ?_)
        · replace hw := hw.1 h
          refine lv_iinc (v := x11 + 1) (lv' := [(3, .int (x11 + 1)), (0, .ref (Γ.2.2 0)), (1, .int x14), (2, .int x15), (4, .int x16)]) hx hb dX10_delay_176 hl (k := 3) rfl (congrArg (fun z => x11 + z) (by decide)) (by decide) rfl (fun ls hl => ?_)
          refine lv_goto (tgt := 37) hx hb dX10_delay_179 (by decide) ?_
          exact hw _ _ _ hP (lv_sub hl [1, 2, 3, 0] rfl)
        · replace hw := hw.2 h
          refine lv_aload_n hx hb dX10_delay_53 rfl (lv_at hl 0 rfl) ?_
          refine gR_10_18 hx hb hts i10 hown hK hP hR_0 (hts _ q_X10_delay_2) dX10_delay_54 ?_
          refine lv_iload_n hx hb dX10_delay_57 rfl (lv_at hl 3 rfl) ?_
          refine aR_lld hx hb hK hP hR_12 mR_12 hw.1 dX10_delay_58 ?_
          replace hw := hw.2
          refine lv_aload_n hx hb dX10_delay_59 rfl (lv_at hl 0 rfl) ?_
          refine gR_10_19 hx hb hts i10 hown hK hP hR_0 (hts _ q_X10_delay_3) dX10_delay_60 ?_
          refine lv_iload_n hx hb dX10_delay_63 rfl (lv_at hl 3 rfl) ?_
          refine aR_lld hx hb hK hP hR_13 mR_13 hw.1 dX10_delay_64 ?_
          replace hw := hw.2
          refine lv_iload hx hb dX10_delay_65 (lv_at hl 4 rfl) ?_
          refine cR_Sip (rest := []) ⟨hx, hb, hml, hown, hts⟩ (c_X10_has l Γ hI (s17.2.2 12 (Int32.toNatClampNeg x11)) (s17.2.2 13 (Int32.toNatClampNeg x11)) x16 s17 _ hw) (va_cwS 3 hts gX10_delay_X10_has rfl rfl rfl (by decide +kernel) ⟨Nat.le_of_ble_eq_true rfl, Nat.le_of_ble_eq_true rfl⟩) hK hN hP rfl hl.1 rfl (Nat.le_of_ble_eq_true rfl) dX10_delay_67 ⟨Nat.le_refl _, Nat.le_refl _⟩ (fun r19 H locs hw hP => ?_)
          refine lv_if_eq (tgt := 170) hx hb dX10_delay_70 (by decide) (fun h => ?_) (fun h => ?_)
          · replace hw := hw.1 h
            refine lv_iinc (v := x16 + 1) (lv' := [(4, .int (x16 + 1)), (0, .ref (Γ.2.2 0)), (1, .int x14), (2, .int x15), (3, .int x11)]) hx hb dX10_delay_170 hl (k := 4) rfl (congrArg (fun z => x16 + z) (by decide)) (by decide) rfl (fun ls hl => ?_)
            refine lv_goto (tgt := 46) hx hb dX10_delay_173 (by decide) ?_
            exact hw _ _ _ hP (lv_sub hl [1, 2, 3, 4, 0] rfl)
          · replace hw := hw.2 h
            refine lv_aload_n hx hb dX10_delay_73 rfl (lv_at hl 0 rfl) ?_
            refine gR_10_20 hx hb hts i10 hown hK hP hR_0 (hts _ q_X10_delay_1) dX10_delay_74 ?_
            refine lv_iload hx hb dX10_delay_77 (lv_at hl 4 rfl) ?_
            refine aR_ld hx hb hK hP hR_14 mR_14 hw.1 dX10_delay_79 ?_
            replace hw := hw.2
            refine lv_aload_n hx hb dX10_delay_80 rfl (lv_at hl 0 rfl) ?_
            refine gR_10_16 hx hb hts i10 hown hK hP hR_0 (hts _ q_X10_delay_4) dX10_delay_81 ?_
            refine lv_iload_n hx hb dX10_delay_84 rfl (lv_at hl 3 rfl) ?_
            refine aR_lld hx hb hK hP hR_10 mR_10 hw.1 dX10_delay_85 ?_
            replace hw := hw.2
            refine lv_aload_n hx hb dX10_delay_86 rfl (lv_at hl 0 rfl) ?_
            refine gR_10_17 hx hb hts i10 hown hK hP hR_0 (hts _ q_X10_delay_5) dX10_delay_87 ?_
            refine lv_iload_n hx hb dX10_delay_90 rfl (lv_at hl 3 rfl) ?_
            refine aR_lld hx hb hK hP hR_11 mR_11 hw.1 dX10_delay_91 ?_
            replace hw := hw.2
            refine lv_iload hx hb dX10_delay_92 (lv_at hl 4 rfl) ?_
            refine cR_Sip (rest := [.int (s17.2.1 14 (Int32.toNatClampNeg x16))]) ⟨hx, hb, hml, hown, hts⟩ (c_X10_has l Γ hI (s17.2.2 10 (Int32.toNatClampNeg x11)) (s17.2.2 11 (Int32.toNatClampNeg x11)) x16 s17 _ hw) (va_cwS 3 hts gX10_delay_X10_has rfl rfl rfl (by decide +kernel) ⟨Nat.le_of_ble_eq_true rfl, Nat.le_of_ble_eq_true rfl⟩) hK hN hP rfl hl.1 rfl (Nat.le_of_ble_eq_true rfl) dX10_delay_94 ⟨Nat.le_refl _, Nat.le_refl _⟩ (fun r20 H locs hw hP => ?_)
            refine ft_cut (hw (fun (x21 : Int32) => ∀ (H : Heap) (locs : List Loc) (ls : Array Slot), cR_P Γ s s17 H locs → lv_has ls 6 [(0, .ref (Γ.2.2 0)), (1, .int x14), (2, .int x15), (3, .int x11), (4, .int x16)] → cR_Wi p l e ({ frames := 4, cells := 0, slots := 0, locals := 90 } : Room) s m [.ref (Γ.2.2 0)] below meth c Γ Φ H locs 105 ls [.int x21, .int (s17.2.1 14 (Int32.toNatClampNeg x16))]) (fun x21 hw H locs ls hP hl => ?_)) (fun hw => ?_)
            · refine lv_iadd hx hb dX10_delay_105 ?_
              refine lv_topi (fun x23 ex23 => ?_)
              replace hw := hw x23 ex23
              refine lv_istore (lv' := [(5, .int x23), (0, .ref (Γ.2.2 0)), (1, .int x14), (2, .int x15), (3, .int x11), (4, .int x16)]) hx hb dX10_delay_106 hl (by decide) rfl (fun ls hl => ?_)
              refine lv_iload_n hx hb dX10_delay_108 rfl (lv_at hl 3 rfl) ?_
              refine ft_cut (hw (fun (x24 : Int32) => ∀ (H : Heap) (locs : List Loc) (ls : Array Slot), cR_P Γ s s17 H locs → lv_has ls 6 [(0, .ref (Γ.2.2 0)), (1, .int x14), (3, .int x11), (4, .int x16), (5, .int x23)] → cR_Wi p l e ({ frames := 4, cells := 0, slots := 0, locals := 90 } : Room) s m [.ref (Γ.2.2 0)] below meth c Γ Φ H locs 128 ls [.int x24]) (fun x24 hw H locs ls hP hl => ?_)) (fun hw => ?_)
              · refine lv_istore_n (lv' := [(2, .int x24), (0, .ref (Γ.2.2 0)), (1, .int x14), (3, .int x11), (4, .int x16), (5, .int x23)]) hx hb dX10_delay_128 rfl hl (by decide) rfl (fun ls hl => ?_)
                refine lv_aload_n hx hb dX10_delay_129 rfl (lv_at hl 1 rfl) ?_
                refine gR_10_20 hx hb hts i10 hown hK hP hR_0 (hts _ q_X10_delay_1) dX10_delay_130 ?_
                refine lv_iload_n hx hb dX10_delay_133 rfl (lv_at hl 3 rfl) ?_
                refine lv_iload hx hb dX10_delay_134 (lv_at hl 5 rfl) ?_
                refine lv_aload_n hx hb dX10_delay_136 rfl (lv_at hl 1 rfl) ?_
                refine gR_10_20 hx hb hts i10 hown hK hP hR_0 (hts _ q_X10_delay_1) dX10_delay_137 ?_
                refine lv_iload_n hx hb dX10_delay_140 rfl (lv_at hl 3 rfl) ?_
                refine aR_ld hx hb hK hP hR_14 mR_14 hw.1 dX10_delay_141 ?_
                replace hw := hw.2
                refine ft_cut (hw (fun (x26 : Int32) => ∀ (H : Heap) (locs : List Loc) (ls : Array Slot), cR_P Γ s s17 H locs → lv_has ls 6 [(0, .ref (Γ.2.2 0)), (1, .int x14), (2, .int x24), (3, .int x11), (4, .int x16), (5, .int x23)] → cR_Wi p l e ({ frames := 4, cells := 0, slots := 0, locals := 90 } : Room) s m [.ref (Γ.2.2 0)] below meth c Γ Φ H locs 156 ls [.int x26, .int x11, .ref (Γ.2.2 14)]) (fun x26 hw H locs ls hP hl => ?_)) (fun hw => ?_)
                · refine aR_st hx hb hK hI hP hR_14 mR_14 hw.1 dX10_delay_156 (fun H locs hP => ?_)
                  replace hw := hw.2
                  obtain ⟨s28, hs28⟩ : ∃ u, u = ft_sA s17 14 (upd (s17.2.1 14) (Int32.toNatClampNeg x11) x26) := ⟨_, rfl⟩
                  rw [← hs28] at hP
                  replace hw := hw s28 hs28
                  refine lv_iload hx hb dX10_delay_157 (lv_at hl 5 rfl) ?_
                  refine lv_iload_n hx hb dX10_delay_159 rfl (lv_at hl 1 rfl) ?_
                  refine ft_cut (hw (fun (x29 : Int32) => ∀ (H : Heap) (locs : List Loc) (ls : Array Slot), cR_P Γ s s28 H locs → lv_has ls 6 [(0, .ref (Γ.2.2 0)), (2, .int x24), (3, .int x11), (4, .int x16)] → cR_Wi p l e ({ frames := 4, cells := 0, slots := 0, locals := 90 } : Room) s m [.ref (Γ.2.2 0)] below meth c Γ Φ H locs 169 ls [.int x29]) (fun x29 hw H locs ls hP hl => ?_)) (fun hw => ?_)
                  · refine lv_istore_n (lv' := [(1, .int x29), (0, .ref (Γ.2.2 0)), (2, .int x24), (3, .int x11), (4, .int x16)]) hx hb dX10_delay_169 rfl hl (by decide) rfl (fun ls hl => ?_)
                    refine lv_iinc (v := x16 + 1) (lv' := [(4, .int (x16 + 1)), (1, .int x29), (0, .ref (Γ.2.2 0)), (2, .int x24), (3, .int x11)]) hx hb dX10_delay_170 hl (k := 4) rfl (congrArg (fun z => x16 + z) (by decide)) (by decide) rfl (fun ls hl => ?_)
                    refine lv_goto (tgt := 46) hx hb dX10_delay_173 (by decide) ?_
                    exact hw _ _ _ hP (lv_sub hl [2, 1, 3, 4, 0] rfl)
                  · refine lv_icmp_le (tgt := 168) hx hb dX10_delay_160 (by decide) (fun h => ?_) (fun h => ?_)
                    · replace hw := hw.1 h
                      refine lv_iload_n hx hb dX10_delay_168 rfl (lv_at hl 1 rfl) ?_
                      exact hw _ _ _ hP (lv_sub hl [0, 2, 3, 4] rfl)
                    · replace hw := hw.2 h
                      refine lv_iload hx hb dX10_delay_163 (lv_at hl 5 rfl) ?_
                      refine lv_goto (tgt := 169) hx hb dX10_delay_165 (by decide) ?_
                      exact hw _ _ _ hP (lv_sub hl [0, 2, 3, 4] rfl)
                · refine lv_icmp_le (tgt := 150) hx hb dX10_delay_142 (by decide) (fun h => ?_) (fun h => ?_)
                  · replace hw := hw.1 h
                    refine lv_aload_n hx hb dX10_delay_150 rfl (lv_at hl 1 rfl) ?_
                    refine gR_10_20 hx hb hts i10 hown hK hP hR_0 (hts _ q_X10_delay_1) dX10_delay_151 ?_
                    refine lv_iload_n hx hb dX10_delay_154 rfl (lv_at hl 3 rfl) ?_
                    refine aR_ld hx hb hK hP hR_14 mR_14 hw.1 dX10_delay_155 ?_
                    replace hw := hw.2
                    exact hw _ _ _ hP (lv_sub hl [1, 2, 0, 3, 4, 5] rfl)
                  · replace hw := hw.2 h
                    refine lv_iload hx hb dX10_delay_145 (lv_at hl 5 rfl) ?_
                    refine lv_goto (tgt := 156) hx hb dX10_delay_147 (by decide) ?_
                    exact hw _ _ _ hP (lv_sub hl [1, 2, 0, 3, 4, 5] rfl)
              · refine ft_cut (hw (∀ (H : Heap) (locs : List Loc) (ls : Array Slot), cR_P Γ s s17 H locs → lv_has ls 6 [(0, .ref (Γ.2.2 0)), (1, .int x14), (3, .int x11), (4, .int x16), (5, .int x23)] → cR_Wi p l e ({ frames := 4, cells := 0, slots := 0, locals := 90 } : Room) s m [.ref (Γ.2.2 0)] below meth c Γ Φ H locs 123 ls []) (fun  hw H locs ls hP hl => ?_)) (fun hw => ?_)
                · refine lv_iconst (v := 1) hx hb dX10_delay_123 (by decide) ?_
                  refine lv_goto (tgt := 128) hx hb dX10_delay_124 (by decide) ?_
                  exact hw _ _ _ hP (lv_sub hl [0, 1, 2, 3, 4] rfl)
                · refine lv_if_ne (tgt := 123) hx hb dX10_delay_109 (by decide) (fun h => ?_) (fun h => ?_)
                  · replace hw := hw.1 h
                    exact hw _ _ _ hP (lv_sub hl [1, 2, 4, 5, 0] rfl)
                  · replace hw := hw.2 h
                    refine lv_iload hx hb dX10_delay_112 (lv_at hl 0 rfl) ?_
                    refine lv_aload_n hx hb dX10_delay_114 rfl (lv_at hl 1 rfl) ?_
                    refine gR_10_20 hx hb hts i10 hown hK hP hR_0 (hts _ q_X10_delay_1) dX10_delay_115 ?_
                    refine lv_iload_n hx hb dX10_delay_118 rfl (lv_at hl 4 rfl) ?_
                    refine aR_ld hx hb hK hP hR_14 mR_14 hw.1 dX10_delay_119 ?_
                    replace hw := hw.2
                    refine lv_icmp_le (tgt := 127) hx hb dX10_delay_120 (by decide) (fun h => ?_) (fun h => ?_)
                    · replace hw := hw.1 h
                      refine lv_iconst (v := 0) hx hb dX10_delay_127 (by decide) ?_
                      exact hw _ _ _ hP (lv_sub hl [1, 2, 4, 5, 0] rfl)
                    · replace hw := hw.2 h
                      exact hw _ _ _ hP (lv_sub hl [1, 2, 4, 5, 0] rfl)
            · refine lv_if_eq (tgt := 104) hx hb dX10_delay_97 (by decide) (fun h => ?_) (fun h => ?_)
              · replace hw := hw.1 h
                refine lv_iconst (v := 0) hx hb dX10_delay_104 (by decide) ?_
                exact hw _ _ _ hP (lv_sub hl [0, 1, 2, 3, 4] rfl)
              · replace hw := hw.2 h
                refine lv_iconst (v := 1) hx hb dX10_delay_100 (by decide) ?_
                refine lv_goto (tgt := 105) hx hb dX10_delay_101 (by decide) ?_
                exact hw _ _ _ hP (lv_sub hl [0, 1, 2, 3, 4] rfl)
  · replace hw := hw.2 h
    refine lv_aload_n hx hb dX10_delay_16 rfl (lv_at hl 0 rfl) ?_
    refine gR_10_20 hx hb hts i10 hown hK hP hR_0 (hts _ q_X10_delay_1) dX10_delay_17 ?_
    refine lv_iload_n hx hb dX10_delay_20 rfl (lv_at hl 3 rfl) ?_
    refine lv_iconst (v := 0) hx hb dX10_delay_21 (by decide) ?_
    refine aR_st hx hb hK hI hP hR_14 mR_14 hw.1 dX10_delay_22 (fun H locs hP => ?_)
    replace hw := hw.2
    obtain ⟨s32, hs32⟩ : ∃ u, u = ft_sA s3 14 (upd (s3.2.1 14) (Int32.toNatClampNeg x2) 0) := ⟨_, rfl⟩
    rw [← hs32] at hP
    replace hw := hw s32 hs32
    refine lv_iinc (v := x2 + 1) (lv' := [(3, .int (x2 + 1)), (0, .ref (Γ.2.2 0)), (1, .int 0), (2, .int 1)]) hx hb dX10_delay_23 hl (k := 3) rfl (congrArg (fun z => x2 + z) (by decide)) (by decide) rfl (fun ls hl => ?_)
    refine lv_goto (tgt := 10) hx hb dX10_delay_26 (by decide) ?_
    exact hw _ _ _ hP (lv_sub hl [1, 2, 3, 0] rfl)
set_option maxHeartbeats 4000000 in
set_option maxRecDepth 100000 in
theorem c_X10_apartBy (l : Launch) (Γ : ft_G) (hI : cR_I Γ) (a1 : Int32) (σ : ft_St) (Φ : Int32 → ft_St → Prop) (hw : w_X10_apartBy a1 σ Φ) : cR_Mi l yX10_apartBy wsX10_apartBy ({ frames := 5, cells := 0, slots := 0, locals := 115 } : Room) Γ σ [.ref (Γ.2.2 0), .int a1] Φ := by
  refine Met.ofW (cc := cX10_apartBy) (maxL := 3) (ret := (some .int)) (by decide) rfl ?_
  intro p e s m args below meth c s₁ B hml hv
  obtain ⟨rfl, hP, hK, hN⟩ := hv
  have hx := B.exec
  have hb := B.bytes
  have hr := B.returns
  have hts := atoms_spec (ws := wsX10_apartBy) B.pre
  have hown : s.vm.findClass RX10 = some m.cls := findClass_of_methodNamed B.named
  have hlocks := B.notSynchronized
  have hP : cR_P Γ s σ s.heap [] := ⟨hP, va_S.rf⟩
  have hl := lv_entry ([.ref (Γ.2.2 0), .int a1]) (n := 3) (Nat.le_of_ble_eq_true rfl)
  rw [lg_entry_eq]
  generalize (lg_sl ([.ref (Γ.2.2 0), .int a1]) ++ List.replicate (3 - (lg_sl ([.ref (Γ.2.2 0), .int a1])).length) Slot.unset).toArray = ls at hl ⊢
  have hl : lv_has ls 3 [(0, .ref (Γ.2.2 0)), (1, .int a1)] := hl
  unfold w_X10_apartBy at hw
  refine lv_aload_n hx hb dX10_apartBy_0 rfl (lv_at hl 0 rfl) ?_
  refine cR_Vi (rest := []) ⟨hx, hb, hml, hown, hts⟩ (c_X10_isApart l Γ hI  σ _ hw) (cwV 0 hts gX10_apartBy_X10_isApart rfl rfl rfl (by decide +kernel) ⟨Nat.le_of_ble_eq_true rfl, Nat.le_of_ble_eq_true rfl⟩) hK hN hP (cR_lt hR_0 (by decide)) (cR_E10 hR_0) rfl rfl rfl hl.1 rfl (Nat.le_of_ble_eq_true rfl) dX10_apartBy_1 ⟨Nat.le_refl _, Nat.le_refl _⟩ (fun r1 s2 H locs hw hP => ?_)
  refine lv_istore_n (lv' := [(2, .int r1), (0, .ref (Γ.2.2 0)), (1, .int a1)]) hx hb dX10_apartBy_4 rfl hl (by decide) rfl (fun ls hl => ?_)
  refine lv_iload_n hx hb dX10_apartBy_5 rfl (lv_at hl 2 rfl) ?_
  refine lv_if_ne (tgt := 21) hx hb dX10_apartBy_6 (by decide) (fun h => ?_) (fun h => ?_)
  · replace hw := hw.1 h
    refine lv_iload_n hx hb dX10_apartBy_21 rfl (lv_at hl 0 rfl) ?_
    refine lv_if_eq (tgt := 32) hx hb dX10_apartBy_22 (by decide) (fun h => ?_) (fun h => ?_)
    · replace hw := hw.1 h
      refine lv_iconst (v := (-1)) hx hb dX10_apartBy_32 (by decide) ?_
      exact W.iret hx hb hr (cR_ri hP hw) hP.2.2.2 dX10_apartBy_33
    · replace hw := hw.2 h
      refine lv_aload_n hx hb dX10_apartBy_25 rfl (lv_at hl 1 rfl) ?_
      refine cR_Vi (rest := []) ⟨hx, hb, hml, hown, hts⟩ (c_X10_delay l Γ hI  s2 _ hw) (cwV 0 hts gX10_apartBy_X10_delay rfl rfl rfl (by decide +kernel) ⟨Nat.le_of_ble_eq_true rfl, Nat.le_of_ble_eq_true rfl⟩) hK hN hP (cR_lt hR_0 (by decide)) (cR_E10 hR_0) rfl rfl rfl hl.1 rfl (Nat.le_of_ble_eq_true rfl) dX10_apartBy_26 ⟨Nat.le_refl _, Nat.le_refl _⟩ (fun r3 s4 H locs hw hP => ?_)
      refine lv_goto (tgt := 33) hx hb dX10_apartBy_29 (by decide) ?_
      exact W.iret hx hb hr (cR_ri hP hw) hP.2.2.2 dX10_apartBy_33
  · replace hw := hw.2 h
    refine lv_iload_n hx hb dX10_apartBy_9 rfl (lv_at hl 0 rfl) ?_
    refine lv_if_eq (tgt := 17) hx hb dX10_apartBy_10 (by decide) (fun h => ?_) (fun h => ?_)
    · replace hw := hw.1 h
      refine lv_iconst (v := 0) hx hb dX10_apartBy_17 (by decide) ?_
      refine lv_goto (tgt := 33) hx hb dX10_apartBy_18 (by decide) ?_
      exact W.iret hx hb hr (cR_ri hP hw) hP.2.2.2 dX10_apartBy_33
    · replace hw := hw.2 h
      refine lv_iconst (v := 1) hx hb dX10_apartBy_13 (by decide) ?_
      refine lv_goto (tgt := 33) hx hb dX10_apartBy_14 (by decide) ?_
      exact W.iret hx hb hr (cR_ri hP hw) hP.2.2.2 dX10_apartBy_33
set_option maxHeartbeats 4000000 in
set_option maxRecDepth 100000 in
theorem c_X10_apart (l : Launch) (Γ : ft_G) (hI : cR_I Γ) (a1 : Int32) (σ : ft_St) (Φ : Int32 → ft_St → Prop) (hw : w_X10_apart a1 σ Φ) : cR_Mi l yX10_apart wsX10_apart ({ frames := 6, cells := 0, slots := 0, locals := 137 } : Room) Γ σ [.ref (Γ.2.2 0), .int a1] Φ := by
  refine Met.ofW (cc := cX10_apart) (maxL := 2) (ret := (some .int)) (by decide) rfl ?_
  intro p e s m args below meth c s₁ B hml hv
  obtain ⟨rfl, hP, hK, hN⟩ := hv
  have hx := B.exec
  have hb := B.bytes
  have hr := B.returns
  have hts := atoms_spec (ws := wsX10_apart) B.pre
  have hown : s.vm.findClass RX10 = some m.cls := findClass_of_methodNamed B.named
  have hlocks := B.notSynchronized
  have hP : cR_P Γ s σ s.heap [] := ⟨hP, va_S.rf⟩
  have hl := lv_entry ([.ref (Γ.2.2 0), .int a1]) (n := 2) (Nat.le_of_ble_eq_true rfl)
  rw [lg_entry_eq]
  generalize (lg_sl ([.ref (Γ.2.2 0), .int a1]) ++ List.replicate (2 - (lg_sl ([.ref (Γ.2.2 0), .int a1])).length) Slot.unset).toArray = ls at hl ⊢
  have hl : lv_has ls 2 [(0, .ref (Γ.2.2 0)), (1, .int a1)] := hl
  unfold w_X10_apart at hw
  refine lv_iload_n hx hb dX10_apart_0 rfl (lv_at hl 1 rfl) ?_
  refine lv_iconst (v := 0) hx hb dX10_apart_1 (by decide) ?_
  refine lv_iconst (v := 1) hx hb dX10_apart_2 (by decide) ?_
  refine cR_Sip (rest := []) ⟨hx, hb, hml, hown, hts⟩ (c_X10_in l Γ hI a1 0 1 σ _ hw) (va_cwS 3 hts gX10_apart_X10_in rfl rfl rfl (by decide +kernel) ⟨Nat.le_of_ble_eq_true rfl, Nat.le_of_ble_eq_true rfl⟩) hK hN hP rfl hl.1 rfl (Nat.le_of_ble_eq_true rfl) dX10_apart_3 ⟨Nat.le_refl _, Nat.le_refl _⟩ (fun r1 H locs hw hP => ?_)
  refine lv_if_eq (tgt := 17) hx hb dX10_apart_6 (by decide) (fun h => ?_) (fun h => ?_)
  · replace hw := hw.1 h
    refine lv_aload_n hx hb dX10_apart_17 rfl (lv_at hl 0 rfl) ?_
    refine cR_Vi (rest := []) ⟨hx, hb, hml, hown, hts⟩ (c_X10_bad l Γ hI  σ _ hw) (cwV 0 hts gX10_apart_X10_bad rfl rfl rfl (by decide +kernel) ⟨Nat.le_of_ble_eq_true rfl, Nat.le_of_ble_eq_true rfl⟩) hK hN hP (cR_lt hR_0 (by decide)) (cR_E10 hR_0) rfl rfl rfl hl.1 rfl (Nat.le_of_ble_eq_true rfl) dX10_apart_18 ⟨Nat.le_refl _, Nat.le_refl _⟩ (fun r2 s3 H locs hw hP => ?_)
    exact W.iret hx hb hr (cR_ri hP hw) hP.2.2.2 dX10_apart_21
  · replace hw := hw.2 h
    refine lv_aload_n hx hb dX10_apart_9 rfl (lv_at hl 0 rfl) ?_
    refine lv_iload_n hx hb dX10_apart_10 rfl (lv_at hl 1 rfl) ?_
    refine cR_Vi (rest := []) ⟨hx, hb, hml, hown, hts⟩ (c_X10_apartBy l Γ hI a1 σ _ hw) (cwV 1 hts gX10_apart_X10_apartBy rfl rfl rfl (by decide +kernel) ⟨Nat.le_of_ble_eq_true rfl, Nat.le_of_ble_eq_true rfl⟩) hK hN hP (cR_lt hR_0 (by decide)) (cR_E10 hR_0) rfl rfl rfl hl.1 rfl (Nat.le_of_ble_eq_true rfl) dX10_apart_11 ⟨Nat.le_refl _, Nat.le_refl _⟩ (fun r4 s5 H locs hw hP => ?_)
    refine lv_goto (tgt := 21) hx hb dX10_apart_14 (by decide) ?_
    exact W.iret hx hb hr (cR_ri hP hw) hP.2.2.2 dX10_apart_21
theorem q_X10_soonest_1 : (Cond.fieldLink RX10 159 "FaultTwinsModel" "found" "I") ∈ wsX10_soonest := List.mem_of_getElem? (i := 1) (by decide +kernel)
theorem q_X10_soonest_2 : (Cond.fieldLink RX10 35 "FaultTwinsModel" "sets" "[I") ∈ wsX10_soonest := List.mem_of_getElem? (i := 2) (by decide +kernel)
theorem q_X10_soonest_3 : (Cond.fieldLink RX10 38 "FaultTwinsModel" "after" "[I") ∈ wsX10_soonest := List.mem_of_getElem? (i := 3) (by decide +kernel)
set_option maxHeartbeats 4000000 in
set_option maxRecDepth 100000 in
theorem c_X10_soonest (l : Launch) (Γ : ft_G) (hI : cR_I Γ) (a1 : Int32) (σ : ft_St) (Φ : Int32 → ft_St → Prop) (hw : w_X10_soonest a1 σ Φ) : cR_Mi l yX10_soonest wsX10_soonest ({ frames := 5, cells := 0, slots := 0, locals := 115 } : Room) Γ σ [.ref (Γ.2.2 0), .int a1] Φ := by
  refine Met.ofW (cc := cX10_soonest) (maxL := 3) (ret := (some .int)) (by decide) rfl ?_
  intro p e s m args below meth c s₁ B hml hv
  obtain ⟨rfl, hP, hK, hN⟩ := hv
  have hx := B.exec
  have hb := B.bytes
  have hr := B.returns
  have hts := atoms_spec (ws := wsX10_soonest) B.pre
  have hown : s.vm.findClass RX10 = some m.cls := findClass_of_methodNamed B.named
  have hlocks := B.notSynchronized
  have i10 : ∀ w ∈ wsX100, w ∈ wsX10_soonest := fun w h => List.mem_cons_of_mem _ (List.mem_append_right _ h)
  have hP : cR_P Γ s σ s.heap [] := ⟨hP, va_S.rf⟩
  have hl := lv_entry ([.ref (Γ.2.2 0), .int a1]) (n := 3) (Nat.le_of_ble_eq_true rfl)
  rw [lg_entry_eq]
  generalize (lg_sl ([.ref (Γ.2.2 0), .int a1]) ++ List.replicate (3 - (lg_sl ([.ref (Γ.2.2 0), .int a1])).length) Slot.unset).toArray = ls at hl ⊢
  have hl : lv_has ls 3 [(0, .ref (Γ.2.2 0)), (1, .int a1)] := hl
  unfold w_X10_soonest at hw
  refine lv_iload_n hx hb dX10_soonest_0 rfl (lv_at hl 1 rfl) ?_
  refine lv_iconst (v := 0) hx hb dX10_soonest_1 (by decide) ?_
  refine lv_iconst (v := 1) hx hb dX10_soonest_2 (by decide) ?_
  refine cR_Sip (rest := []) ⟨hx, hb, hml, hown, hts⟩ (c_X10_in l Γ hI a1 0 1 σ _ hw) (va_cwS 3 hts gX10_soonest_X10_in rfl rfl rfl (by decide +kernel) ⟨Nat.le_of_ble_eq_true rfl, Nat.le_of_ble_eq_true rfl⟩) hK hN hP rfl hl.1 rfl (Nat.le_of_ble_eq_true rfl) dX10_soonest_3 ⟨Nat.le_refl _, Nat.le_refl _⟩ (fun r1 H locs hw hP => ?_)
  refine lv_if_ne (tgt := 14) hx hb dX10_soonest_6 (by decide) (fun h => ?_) (fun h => ?_)
  · replace hw := hw.1 h
    refine lv_aload_n hx hb dX10_soonest_14 rfl (lv_at hl 0 rfl) ?_
    refine cR_Vv (rest := []) ⟨hx, hb, hml, hown, hts⟩ (c_X10_findsSets l Γ hI  σ _ hw) (cwV 0 hts gX10_soonest_X10_findsSets rfl rfl rfl (by decide +kernel) ⟨Nat.le_of_ble_eq_true rfl, Nat.le_of_ble_eq_true rfl⟩) hK hN hP (cR_lt hR_0 (by decide)) (cR_E10 hR_0) rfl rfl rfl hl.1 rfl (Nat.le_of_ble_eq_true rfl) dX10_soonest_15 ⟨Nat.le_refl _, Nat.le_refl _⟩ (fun s2 H locs hw hP => ?_)
    refine lv_iconst (v := 0) hx hb dX10_soonest_18 (by decide) ?_
    refine lv_istore_n (lv' := [(2, .int 0), (0, .ref (Γ.2.2 0)), (1, .int a1)]) hx hb dX10_soonest_19 rfl hl (by decide) rfl (fun ls hl => ?_)
    refine hw (fun (x3 : Int32) => ∀ (H : Heap) (locs : List Loc) (ls : Array Slot), cR_P Γ s s2 H locs → lv_has ls 3 [(0, .ref (Γ.2.2 0)), (1, .int a1), (2, .int x3)] → cR_Wi p l e ({ frames := 5, cells := 0, slots := 0, locals := 115 } : Room) s m [.ref (Γ.2.2 0), .int a1] below meth c Γ Φ H locs 20 ls []) (fun x3 hw H locs ls hP hl => ?_) _ _ _ hP (lv_sub hl [1, 2, 0] rfl)
    refine lv_iload_n hx hb dX10_soonest_20 rfl (lv_at hl 2 rfl) ?_
    refine lv_aload_n hx hb dX10_soonest_21 rfl (lv_at hl 0 rfl) ?_
    refine gR_10_12 hx hb hts i10 hown hK hP hR_0 (hts _ q_X10_soonest_1) dX10_soonest_22 ?_
    refine lv_icmp_ge (tgt := 62) hx hb dX10_soonest_25 (by decide) (fun h => ?_) (fun h => ?_)
    · replace hw := hw.1 h
      refine lv_iconst (v := (-1)) hx hb dX10_soonest_62 (by decide) ?_
      exact W.iret hx hb hr (cR_ri hP hw) hP.2.2.2 dX10_soonest_63
    · replace hw := hw.2 h
      refine lv_aload_n hx hb dX10_soonest_28 rfl (lv_at hl 0 rfl) ?_
      refine gR_10_13 hx hb hts i10 hown hK hP hR_0 (hts _ q_X10_soonest_2) dX10_soonest_29 ?_
      refine lv_iload_n hx hb dX10_soonest_32 rfl (lv_at hl 2 rfl) ?_
      refine aR_ld hx hb hK hP hR_7 mR_7 hw.1 dX10_soonest_33 ?_
      replace hw := hw.2
      refine cR_Sip (rest := []) ⟨hx, hb, hml, hown, hts⟩ (c_X10_verdict l Γ hI (s2.2.1 7 (Int32.toNatClampNeg x3)) s2 _ hw) (va_cwS 1 hts gX10_soonest_X10_verdict rfl rfl rfl (by decide +kernel) ⟨Nat.le_of_ble_eq_true rfl, Nat.le_of_ble_eq_true rfl⟩) hK hN hP rfl hl.1 rfl (Nat.le_of_ble_eq_true rfl) dX10_soonest_34 ⟨Nat.le_refl _, Nat.le_refl _⟩ (fun r5 H locs hw hP => ?_)
      refine lv_iload_n hx hb dX10_soonest_37 rfl (lv_at hl 1 rfl) ?_
      refine ft_cut (hw (fun (x6 : Int32) => ∀ (H : Heap) (locs : List Loc) (ls : Array Slot), cR_P Γ s s2 H locs → lv_has ls 3 [(0, .ref (Γ.2.2 0)), (1, .int a1), (2, .int x3)] → cR_Wi p l e ({ frames := 5, cells := 0, slots := 0, locals := 115 } : Room) s m [.ref (Γ.2.2 0), .int a1] below meth c Γ Φ H locs 46 ls [.int x6, .int r5]) (fun x6 hw H locs ls hP hl => ?_)) (fun hw => ?_)
      · refine lv_icmp_ne (tgt := 56) hx hb dX10_soonest_46 (by decide) (fun h => ?_) (fun h => ?_)
        · replace hw := hw.1 h
          refine lv_iinc (v := x3 + 1) (lv' := [(2, .int (x3 + 1)), (0, .ref (Γ.2.2 0)), (1, .int a1)]) hx hb dX10_soonest_56 hl (k := 2) rfl (congrArg (fun z => x3 + z) (by decide)) (by decide) rfl (fun ls hl => ?_)
          refine lv_goto (tgt := 20) hx hb dX10_soonest_59 (by decide) ?_
          exact hw _ _ _ hP (lv_sub hl [1, 2, 0] rfl)
        · replace hw := hw.2 h
          refine lv_aload_n hx hb dX10_soonest_49 rfl (lv_at hl 0 rfl) ?_
          refine gR_10_14 hx hb hts i10 hown hK hP hR_0 (hts _ q_X10_soonest_3) dX10_soonest_50 ?_
          refine lv_iload_n hx hb dX10_soonest_53 rfl (lv_at hl 2 rfl) ?_
          refine aR_ld hx hb hK hP hR_8 mR_8 hw.1 dX10_soonest_54 ?_
          replace hw := hw.2
          exact W.iret hx hb hr (cR_ri hP hw) hP.2.2.2 dX10_soonest_55
      · refine lv_if_ne (tgt := 45) hx hb dX10_soonest_38 (by decide) (fun h => ?_) (fun h => ?_)
        · replace hw := hw.1 h
          refine lv_iconst (v := 2) hx hb dX10_soonest_45 (by decide) ?_
          exact hw _ _ _ hP (lv_sub hl [0, 1, 2] rfl)
        · replace hw := hw.2 h
          refine lv_iconst (v := 1) hx hb dX10_soonest_41 (by decide) ?_
          refine lv_goto (tgt := 46) hx hb dX10_soonest_42 (by decide) ?_
          exact hw _ _ _ hP (lv_sub hl [0, 1, 2] rfl)
  · replace hw := hw.2 h
    refine lv_aload_n hx hb dX10_soonest_9 rfl (lv_at hl 0 rfl) ?_
    refine cR_Vi (rest := []) ⟨hx, hb, hml, hown, hts⟩ (c_X10_bad l Γ hI  σ _ hw) (cwV 0 hts gX10_soonest_X10_bad rfl rfl rfl (by decide +kernel) ⟨Nat.le_of_ble_eq_true rfl, Nat.le_of_ble_eq_true rfl⟩) hK hN hP (cR_lt hR_0 (by decide)) (cR_E10 hR_0) rfl rfl rfl hl.1 rfl (Nat.le_of_ble_eq_true rfl) dX10_soonest_10 ⟨Nat.le_refl _, Nat.le_refl _⟩ (fun r8 s9 H locs hw hP => ?_)
    exact W.iret hx hb hr (cR_ri hP hw) hP.2.2.2 dX10_soonest_13
theorem q_X10_isApartWith_1 : (Cond.fieldLink RX10 22 "FaultTwinsModel" "seen" "I") ∈ wsX10_isApartWith := List.mem_of_getElem? (i := 1) (by decide +kernel)
set_option maxHeartbeats 4000000 in
set_option maxRecDepth 100000 in
theorem c_X10_isApartWith (l : Launch) (Γ : ft_G) (hI : cR_I Γ) (a1 : Int32) (σ : ft_St) (Φ : Int32 → ft_St → Prop) (hw : w_X10_isApartWith a1 σ Φ) : cR_Mi l yX10_isApartWith wsX10_isApartWith ({ frames := 5, cells := 0, slots := 0, locals := 113 } : Room) Γ σ [.ref (Γ.2.2 0), .int a1] Φ := by
  refine Met.ofW (cc := cX10_isApartWith) (maxL := 4) (ret := (some .boolean)) (by decide) rfl ?_
  intro p e s m args below meth c s₁ B hml hv
  obtain ⟨rfl, hP, hK, hN⟩ := hv
  have hx := B.exec
  have hb := B.bytes
  have hr := B.returns
  have hts := atoms_spec (ws := wsX10_isApartWith) B.pre
  have hown : s.vm.findClass RX10 = some m.cls := findClass_of_methodNamed B.named
  have hlocks := B.notSynchronized
  have i10 : ∀ w ∈ wsX100, w ∈ wsX10_isApartWith := fun w h => List.mem_cons_of_mem _ (List.mem_append_right _ h)
  have hP : cR_P Γ s σ s.heap [] := ⟨hP, va_S.rf⟩
  have hl := lv_entry ([.ref (Γ.2.2 0), .int a1]) (n := 4) (Nat.le_of_ble_eq_true rfl)
  rw [lg_entry_eq]
  generalize (lg_sl ([.ref (Γ.2.2 0), .int a1]) ++ List.replicate (4 - (lg_sl ([.ref (Γ.2.2 0), .int a1])).length) Slot.unset).toArray = ls at hl ⊢
  have hl : lv_has ls 4 [(0, .ref (Γ.2.2 0)), (1, .int a1)] := hl
  unfold w_X10_isApartWith at hw
  refine lv_aload_n hx hb dX10_isApartWith_0 rfl (lv_at hl 0 rfl) ?_
  refine gR_10_5 hx hb hts i10 hown hK hP hR_0 (hts _ q_X10_isApartWith_1) dX10_isApartWith_1 ?_
  refine lv_istore_n (lv' := [(2, .int (σ.1 0 5)), (0, .ref (Γ.2.2 0)), (1, .int a1)]) hx hb dX10_isApartWith_4 rfl hl (by decide) rfl (fun ls hl => ?_)
  refine lv_aload_n hx hb dX10_isApartWith_5 rfl (lv_at hl 1 rfl) ?_
  refine lv_dup hx hb dX10_isApartWith_6 rfl ?_
  refine gR_10_5 hx hb hts i10 hown hK hP hR_0 (hts _ q_X10_isApartWith_1) dX10_isApartWith_7 ?_
  refine lv_iload_n hx hb dX10_isApartWith_10 rfl (lv_at hl 2 rfl) ?_
  refine lv_ior hx hb dX10_isApartWith_11 ?_
  refine pR_10_5 hx hb hts i10 hown hK hI hP hR_0 (hts _ q_X10_isApartWith_1) dX10_isApartWith_12 (fun H locs hP => ?_)
  obtain ⟨s1, hs1⟩ : ∃ u, u = ft_sF σ 0 5 ((σ.1 0 5) ||| a1) := ⟨_, rfl⟩
  rw [← hs1] at hP
  replace hw := hw s1 hs1
  refine lv_aload_n hx hb dX10_isApartWith_15 rfl (lv_at hl 1 rfl) ?_
  refine cR_Vi (rest := []) ⟨hx, hb, hml, hown, hts⟩ (c_X10_isApart l Γ hI  s1 _ hw) (cwV 0 hts gX10_isApartWith_X10_isApart rfl rfl rfl (by decide +kernel) ⟨Nat.le_of_ble_eq_true rfl, Nat.le_of_ble_eq_true rfl⟩) hK hN hP (cR_lt hR_0 (by decide)) (cR_E10 hR_0) rfl rfl rfl hl.1 rfl (Nat.le_of_ble_eq_true rfl) dX10_isApartWith_16 ⟨Nat.le_refl _, Nat.le_refl _⟩ (fun r2 s3 H locs hw hP => ?_)
  refine lv_istore_n (lv' := [(3, .int r2), (2, .int (σ.1 0 5)), (0, .ref (Γ.2.2 0)), (1, .int a1)]) hx hb dX10_isApartWith_19 rfl hl (by decide) rfl (fun ls hl => ?_)
  refine lv_aload_n hx hb dX10_isApartWith_20 rfl (lv_at hl 2 rfl) ?_
  refine lv_iload_n hx hb dX10_isApartWith_21 rfl (lv_at hl 1 rfl) ?_
  refine pR_10_5 hx hb hts i10 hown hK hI hP hR_0 (hts _ q_X10_isApartWith_1) dX10_isApartWith_22 (fun H locs hP => ?_)
  obtain ⟨s4, hs4⟩ : ∃ u, u = ft_sF s3 0 5 (σ.1 0 5) := ⟨_, rfl⟩
  rw [← hs4] at hP
  replace hw := hw s4 hs4
  refine lv_iload_n hx hb dX10_isApartWith_25 rfl (lv_at hl 0 rfl) ?_
  exact W.zret hx hb hr (ft_bz_n hw.1) (cR_ri hP hw.2) hP.2.2.2 dX10_isApartWith_26
theorem q_X10_areEyes_1 : (Cond.fieldLink RX10 22 "FaultTwinsModel" "seen" "I") ∈ wsX10_areEyes := List.mem_of_getElem? (i := 1) (by decide +kernel)
theorem q_X10_areEyes_2 : (Cond.fieldLink RX10 73 "FaultTwinsModel" "faults" "I") ∈ wsX10_areEyes := List.mem_of_getElem? (i := 2) (by decide +kernel)
set_option maxHeartbeats 4000000 in
set_option maxRecDepth 100000 in
theorem c_X10_areEyes (l : Launch) (Γ : ft_G) (hI : cR_I Γ) (a1 : Int32) (σ : ft_St) (Φ : Int32 → Prop) (hw : w_X10_areEyes a1 σ Φ) : cR_Mip l yX10_areEyes wsX10_areEyes ({ frames := 1, cells := 0, slots := 0, locals := 22 } : Room) Γ σ [.ref (Γ.2.2 0), .int a1] Φ := by
  refine Met.ofW (cc := cX10_areEyes) (maxL := 2) (ret := (some .boolean)) (by decide) rfl ?_
  intro p e s m args below meth c s₁ B hml hv
  obtain ⟨rfl, hP, hK, hN⟩ := hv
  have hx := B.exec
  have hb := B.bytes
  have hr := B.returns
  have hts := atoms_spec (ws := wsX10_areEyes) B.pre
  have hown : s.vm.findClass RX10 = some m.cls := findClass_of_methodNamed B.named
  have hlocks := B.notSynchronized
  have i10 : ∀ w ∈ wsX100, w ∈ wsX10_areEyes := fun w h => List.mem_cons_of_mem _ (List.mem_append_right _ h)
  have hP : cR_P Γ s σ s.heap [] := ⟨hP, va_S.rf⟩
  have hl := lv_entry ([.ref (Γ.2.2 0), .int a1]) (n := 2) (Nat.le_of_ble_eq_true rfl)
  rw [lg_entry_eq]
  generalize (lg_sl ([.ref (Γ.2.2 0), .int a1]) ++ List.replicate (2 - (lg_sl ([.ref (Γ.2.2 0), .int a1])).length) Slot.unset).toArray = ls at hl ⊢
  have hl : lv_has ls 2 [(0, .ref (Γ.2.2 0)), (1, .int a1)] := hl
  unfold w_X10_areEyes at hw
  refine lv_iload_n hx hb dX10_areEyes_0 rfl (lv_at hl 1 rfl) ?_
  refine lv_iconst (v := 0) hx hb dX10_areEyes_1 (by decide) ?_
  refine lv_sipush (v := 255) hx hb dX10_areEyes_2 (by decide) ?_
  refine cR_Sip (rest := []) ⟨hx, hb, hml, hown, hts⟩ (c_X10_in l Γ hI a1 0 255 σ _ hw) (va_cwS 3 hts gX10_areEyes_X10_in rfl rfl rfl (by decide +kernel) ⟨Nat.le_of_ble_eq_true rfl, Nat.le_of_ble_eq_true rfl⟩) hK hN hP rfl hl.1 rfl (Nat.le_of_ble_eq_true rfl) dX10_areEyes_5 ⟨Nat.le_refl _, Nat.le_refl _⟩ (fun r1 H locs hw hP => ?_)
  refine ft_cut (hw (∀ (H : Heap) (locs : List Loc) (ls : Array Slot), cR_P Γ s σ H locs → lv_has ls 2 [] → cR_Wi p l e ({ frames := 1, cells := 0, slots := 0, locals := 22 } : Room) s m [.ref (Γ.2.2 0), .int a1] below meth c Γ (fun r u => u = σ ∧ Φ r) H locs 29 ls []) (fun  hw H locs ls hP hl => ?_)) (fun hw => ?_)
  · refine lv_iconst (v := 0) hx hb dX10_areEyes_29 (by decide) ?_
    exact W.zret hx hb hr rfl (cR_ri hP ⟨rfl, hw⟩) hP.2.2.2 dX10_areEyes_30
  · refine lv_if_eq (tgt := 29) hx hb dX10_areEyes_8 (by decide) (fun h => ?_) (fun h => ?_)
    · replace hw := hw.1 h
      exact hw _ _ _ hP (lv_sub hl [] rfl)
    · replace hw := hw.2 h
      refine lv_iload_n hx hb dX10_areEyes_11 rfl (lv_at hl 1 rfl) ?_
      refine lv_aload_n hx hb dX10_areEyes_12 rfl (lv_at hl 0 rfl) ?_
      refine gR_10_5 hx hb hts i10 hown hK hP hR_0 (hts _ q_X10_areEyes_1) dX10_areEyes_13 ?_
      refine lv_aload_n hx hb dX10_areEyes_16 rfl (lv_at hl 0 rfl) ?_
      refine gR_10_6 hx hb hts i10 hown hK hP hR_0 (hts _ q_X10_areEyes_2) dX10_areEyes_17 ?_
      refine lv_ior hx hb dX10_areEyes_20 ?_
      refine lv_iand hx hb dX10_areEyes_21 ?_
      refine lv_if_ne (tgt := 29) hx hb dX10_areEyes_22 (by decide) (fun h => ?_) (fun h => ?_)
      · replace hw := hw.1 h
        exact hw _ _ _ hP (lv_sub hl [] rfl)
      · replace hw := hw.2 h
        refine lv_iconst (v := 1) hx hb dX10_areEyes_25 (by decide) ?_
        refine lv_goto (tgt := 30) hx hb dX10_areEyes_26 (by decide) ?_
        exact W.zret hx hb hr rfl (cR_ri hP ⟨rfl, hw⟩) hP.2.2.2 dX10_areEyes_30
set_option maxHeartbeats 4000000 in
set_option maxRecDepth 100000 in
theorem c_X10_enough (l : Launch) (Γ : ft_G) (hI : cR_I Γ) (a1 : Int32) (σ : ft_St) (Φ : Int32 → ft_St → Prop) (hw : w_X10_enough a1 σ Φ) : cR_Mi l yX10_enough wsX10_enough ({ frames := 6, cells := 0, slots := 0, locals := 136 } : Room) Γ σ [.ref (Γ.2.2 0), .int a1] Φ := by
  refine Met.ofW (cc := cX10_enough) (maxL := 2) (ret := (some .int)) (by decide) rfl ?_
  intro p e s m args below meth c s₁ B hml hv
  obtain ⟨rfl, hP, hK, hN⟩ := hv
  have hx := B.exec
  have hb := B.bytes
  have hr := B.returns
  have hts := atoms_spec (ws := wsX10_enough) B.pre
  have hown : s.vm.findClass RX10 = some m.cls := findClass_of_methodNamed B.named
  have hlocks := B.notSynchronized
  have hP : cR_P Γ s σ s.heap [] := ⟨hP, va_S.rf⟩
  have hl := lv_entry ([.ref (Γ.2.2 0), .int a1]) (n := 2) (Nat.le_of_ble_eq_true rfl)
  rw [lg_entry_eq]
  generalize (lg_sl ([.ref (Γ.2.2 0), .int a1]) ++ List.replicate (2 - (lg_sl ([.ref (Γ.2.2 0), .int a1])).length) Slot.unset).toArray = ls at hl ⊢
  have hl : lv_has ls 2 [(0, .ref (Γ.2.2 0)), (1, .int a1)] := hl
  unfold w_X10_enough at hw
  refine lv_aload_n hx hb dX10_enough_0 rfl (lv_at hl 0 rfl) ?_
  refine lv_iload_n hx hb dX10_enough_1 rfl (lv_at hl 1 rfl) ?_
  refine cR_Vip (rest := []) ⟨hx, hb, hml, hown, hts⟩ (c_X10_areEyes l Γ hI a1 σ _ hw) (cwV 1 hts gX10_enough_X10_areEyes rfl rfl rfl (by decide +kernel) ⟨Nat.le_of_ble_eq_true rfl, Nat.le_of_ble_eq_true rfl⟩) hK hN hP (cR_lt hR_0 (by decide)) (cR_E10 hR_0) rfl rfl rfl hl.1 rfl (Nat.le_of_ble_eq_true rfl) dX10_enough_2 ⟨Nat.le_refl _, Nat.le_refl _⟩ (fun r1 H locs hw hP => ?_)
  refine lv_if_ne (tgt := 13) hx hb dX10_enough_5 (by decide) (fun h => ?_) (fun h => ?_)
  · replace hw := hw.1 h
    refine lv_aload_n hx hb dX10_enough_13 rfl (lv_at hl 0 rfl) ?_
    refine lv_iload_n hx hb dX10_enough_14 rfl (lv_at hl 1 rfl) ?_
    refine cR_Vi (rest := []) ⟨hx, hb, hml, hown, hts⟩ (c_X10_isApartWith l Γ hI a1 σ _ hw) (cwV 1 hts gX10_enough_X10_isApartWith rfl rfl rfl (by decide +kernel) ⟨Nat.le_of_ble_eq_true rfl, Nat.le_of_ble_eq_true rfl⟩) hK hN hP (cR_lt hR_0 (by decide)) (cR_E10 hR_0) rfl rfl rfl hl.1 rfl (Nat.le_of_ble_eq_true rfl) dX10_enough_15 ⟨Nat.le_refl _, Nat.le_refl _⟩ (fun r2 s3 H locs hw hP => ?_)
    refine lv_if_eq (tgt := 25) hx hb dX10_enough_18 (by decide) (fun h => ?_) (fun h => ?_)
    · replace hw := hw.1 h
      refine lv_iconst (v := 0) hx hb dX10_enough_25 (by decide) ?_
      exact W.iret hx hb hr (cR_ri hP hw) hP.2.2.2 dX10_enough_26
    · replace hw := hw.2 h
      refine lv_iconst (v := 1) hx hb dX10_enough_21 (by decide) ?_
      refine lv_goto (tgt := 26) hx hb dX10_enough_22 (by decide) ?_
      exact W.iret hx hb hr (cR_ri hP hw) hP.2.2.2 dX10_enough_26
  · replace hw := hw.2 h
    refine lv_aload_n hx hb dX10_enough_8 rfl (lv_at hl 0 rfl) ?_
    refine cR_Vi (rest := []) ⟨hx, hb, hml, hown, hts⟩ (c_X10_bad l Γ hI  σ _ hw) (cwV 0 hts gX10_enough_X10_bad rfl rfl rfl (by decide +kernel) ⟨Nat.le_of_ble_eq_true rfl, Nat.le_of_ble_eq_true rfl⟩) hK hN hP (cR_lt hR_0 (by decide)) (cR_E10 hR_0) rfl rfl rfl hl.1 rfl (Nat.le_of_ble_eq_true rfl) dX10_enough_9 ⟨Nat.le_refl _, Nat.le_refl _⟩ (fun r4 s5 H locs hw hP => ?_)
    exact W.iret hx hb hr (cR_ri hP hw) hP.2.2.2 dX10_enough_12
set_option maxHeartbeats 4000000 in
set_option maxRecDepth 100000 in
theorem c_X10_fewest (l : Launch) (Γ : ft_G) (hI : cR_I Γ) (a1 : Int32) (σ : ft_St) (Φ : Int32 → ft_St → Prop) (hw : w_X10_fewest a1 σ Φ) : cR_Mi l yX10_fewest wsX10_fewest ({ frames := 6, cells := 0, slots := 0, locals := 136 } : Room) Γ σ [.ref (Γ.2.2 0), .int a1] Φ := by
  refine Met.ofW (cc := cX10_fewest) (maxL := 4) (ret := (some .int)) (by decide) rfl ?_
  intro p e s m args below meth c s₁ B hml hv
  obtain ⟨rfl, hP, hK, hN⟩ := hv
  have hx := B.exec
  have hb := B.bytes
  have hr := B.returns
  have hts := atoms_spec (ws := wsX10_fewest) B.pre
  have hown : s.vm.findClass RX10 = some m.cls := findClass_of_methodNamed B.named
  have hlocks := B.notSynchronized
  have hP : cR_P Γ s σ s.heap [] := ⟨hP, va_S.rf⟩
  have hl := lv_entry ([.ref (Γ.2.2 0), .int a1]) (n := 4) (Nat.le_of_ble_eq_true rfl)
  rw [lg_entry_eq]
  generalize (lg_sl ([.ref (Γ.2.2 0), .int a1]) ++ List.replicate (4 - (lg_sl ([.ref (Γ.2.2 0), .int a1])).length) Slot.unset).toArray = ls at hl ⊢
  have hl : lv_has ls 4 [(0, .ref (Γ.2.2 0)), (1, .int a1)] := hl
  unfold w_X10_fewest at hw
  refine lv_iload_n hx hb dX10_fewest_0 rfl (lv_at hl 1 rfl) ?_
  refine lv_iconst (v := 0) hx hb dX10_fewest_1 (by decide) ?_
  refine lv_iconst (v := 1) hx hb dX10_fewest_2 (by decide) ?_
  refine cR_Sip (rest := []) ⟨hx, hb, hml, hown, hts⟩ (c_X10_in l Γ hI a1 0 1 σ _ hw) (va_cwS 3 hts gX10_fewest_X10_in rfl rfl rfl (by decide +kernel) ⟨Nat.le_of_ble_eq_true rfl, Nat.le_of_ble_eq_true rfl⟩) hK hN hP rfl hl.1 rfl (Nat.le_of_ble_eq_true rfl) dX10_fewest_3 ⟨Nat.le_refl _, Nat.le_refl _⟩ (fun r1 H locs hw hP => ?_)
  refine lv_if_ne (tgt := 14) hx hb dX10_fewest_6 (by decide) (fun h => ?_) (fun h => ?_)
  · replace hw := hw.1 h
    refine lv_iconst (v := 0) hx hb dX10_fewest_14 (by decide) ?_
    refine lv_istore_n (lv' := [(2, .int 0), (0, .ref (Γ.2.2 0)), (1, .int a1)]) hx hb dX10_fewest_15 rfl hl (by decide) rfl (fun ls hl => ?_)
    refine hw (fun (x2 : Int32) (s3 : ft_St) => ∀ (H : Heap) (locs : List Loc) (ls : Array Slot), cR_P Γ s s3 H locs → lv_has ls 4 [(0, .ref (Γ.2.2 0)), (1, .int a1), (2, .int x2)] → cR_Wi p l e ({ frames := 6, cells := 0, slots := 0, locals := 136 } : Room) s m [.ref (Γ.2.2 0), .int a1] below meth c Γ Φ H locs 16 ls []) (fun x2 s3 hw H locs ls hP hl => ?_) _ _ _ hP (lv_sub hl [1, 2, 0] rfl)
    refine lv_iload_n hx hb dX10_fewest_16 rfl (lv_at hl 2 rfl) ?_
    refine lv_bipush (v := 8) hx hb dX10_fewest_17 (by decide) ?_
    refine lv_icmp_gt (tgt := 77) hx hb dX10_fewest_19 (by decide) (fun h => ?_) (fun h => ?_)
    · replace hw := hw.1 h
      refine lv_iconst (v := (-1)) hx hb dX10_fewest_77 (by decide) ?_
      exact W.iret hx hb hr (cR_ri hP hw) hP.2.2.2 dX10_fewest_78
    · replace hw := hw.2 h
      refine lv_iconst (v := 0) hx hb dX10_fewest_22 (by decide) ?_
      refine lv_istore_n (lv' := [(3, .int 0), (0, .ref (Γ.2.2 0)), (1, .int a1), (2, .int x2)]) hx hb dX10_fewest_23 rfl hl (by decide) rfl (fun ls hl => ?_)
      refine hw (fun (x5 : Int32) (s6 : ft_St) => ∀ (H : Heap) (locs : List Loc) (ls : Array Slot), cR_P Γ s s6 H locs → lv_has ls 4 [(0, .ref (Γ.2.2 0)), (1, .int a1), (2, .int x2), (3, .int x5)] → cR_Wi p l e ({ frames := 6, cells := 0, slots := 0, locals := 136 } : Room) s m [.ref (Γ.2.2 0), .int a1] below meth c Γ Φ H locs 24 ls []) (fun x5 s6 hw H locs ls hP hl => ?_) _ _ _ hP (lv_sub hl [1, 2, 3, 0] rfl)
      refine lv_iload_n hx hb dX10_fewest_24 rfl (lv_at hl 3 rfl) ?_
      refine lv_sipush (v := 256) hx hb dX10_fewest_25 (by decide) ?_
      refine lv_icmp_ge (tgt := 71) hx hb dX10_fewest_28 (by decide) (fun h => ?_) (fun h => ?_)
      · replace hw := hw.1 h
        refine lv_iinc (v := x2 + 1) (lv' := [(2, .int (x2 + 1)), (0, .ref (Γ.2.2 0)), (1, .int a1), (3, .int x5)]) hx hb dX10_fewest_71 hl (k := 2) rfl (congrArg (fun z => x2 + z) (by decide)) (by decide) rfl (fun ls hl => ?_)
        refine lv_goto (tgt := 16) hx hb dX10_fewest_74 (by decide) ?_
        exact hw _ _ _ hP (lv_sub hl [1, 2, 0] rfl)
      · replace hw := hw.2 h
        refine lv_iload_n hx hb dX10_fewest_31 rfl (lv_at hl 3 rfl) ?_
        refine cR_Sip (rest := []) ⟨hx, hb, hml, hown, hts⟩ (c_X10_ones l Γ hI x5 s6 _ hw) (va_cwS 1 hts gX10_fewest_X10_ones rfl rfl rfl (by decide +kernel) ⟨Nat.le_of_ble_eq_true rfl, Nat.le_of_ble_eq_true rfl⟩) hK hN hP rfl hl.1 rfl (Nat.le_of_ble_eq_true rfl) dX10_fewest_32 ⟨Nat.le_refl _, Nat.le_refl _⟩ (fun r8 H locs hw hP => ?_)
        refine lv_iload_n hx hb dX10_fewest_35 rfl (lv_at hl 2 rfl) ?_
        refine lv_icmp_ne (tgt := 65) hx hb dX10_fewest_36 (by decide) (fun h => ?_) (fun h => ?_)
        · replace hw := hw.1 h
          refine lv_iinc (v := x5 + 1) (lv' := [(3, .int (x5 + 1)), (0, .ref (Γ.2.2 0)), (1, .int a1), (2, .int x2)]) hx hb dX10_fewest_65 hl (k := 3) rfl (congrArg (fun z => x5 + z) (by decide)) (by decide) rfl (fun ls hl => ?_)
          refine lv_goto (tgt := 24) hx hb dX10_fewest_68 (by decide) ?_
          exact hw _ _ _ hP (lv_sub hl [1, 2, 3, 0] rfl)
        · replace hw := hw.2 h
          refine lv_aload_n hx hb dX10_fewest_39 rfl (lv_at hl 0 rfl) ?_
          refine lv_iload_n hx hb dX10_fewest_40 rfl (lv_at hl 3 rfl) ?_
          refine cR_Vip (rest := []) ⟨hx, hb, hml, hown, hts⟩ (c_X10_areEyes l Γ hI x5 s6 _ hw) (cwV 1 hts gX10_fewest_X10_areEyes rfl rfl rfl (by decide +kernel) ⟨Nat.le_of_ble_eq_true rfl, Nat.le_of_ble_eq_true rfl⟩) hK hN hP (cR_lt hR_0 (by decide)) (cR_E10 hR_0) rfl rfl rfl hl.1 rfl (Nat.le_of_ble_eq_true rfl) dX10_fewest_41 ⟨Nat.le_refl _, Nat.le_refl _⟩ (fun r9 H locs hw hP => ?_)
          refine lv_if_eq (tgt := 65) hx hb dX10_fewest_44 (by decide) (fun h => ?_) (fun h => ?_)
          · replace hw := hw.1 h
            refine lv_iinc (v := x5 + 1) (lv' := [(3, .int (x5 + 1)), (0, .ref (Γ.2.2 0)), (1, .int a1), (2, .int x2)]) hx hb dX10_fewest_65 hl (k := 3) rfl (congrArg (fun z => x5 + z) (by decide)) (by decide) rfl (fun ls hl => ?_)
            refine lv_goto (tgt := 24) hx hb dX10_fewest_68 (by decide) ?_
            exact hw _ _ _ hP (lv_sub hl [1, 2, 3, 0] rfl)
          · replace hw := hw.2 h
            refine lv_aload_n hx hb dX10_fewest_47 rfl (lv_at hl 0 rfl) ?_
            refine lv_iload_n hx hb dX10_fewest_48 rfl (lv_at hl 3 rfl) ?_
            refine cR_Vi (rest := []) ⟨hx, hb, hml, hown, hts⟩ (c_X10_isApartWith l Γ hI x5 s6 _ hw) (cwV 1 hts gX10_fewest_X10_isApartWith rfl rfl rfl (by decide +kernel) ⟨Nat.le_of_ble_eq_true rfl, Nat.le_of_ble_eq_true rfl⟩) hK hN hP (cR_lt hR_0 (by decide)) (cR_E10 hR_0) rfl rfl rfl hl.1 rfl (Nat.le_of_ble_eq_true rfl) dX10_fewest_49 ⟨Nat.le_refl _, Nat.le_refl _⟩ (fun r10 s11 H locs hw hP => ?_)
            refine lv_if_eq (tgt := 65) hx hb dX10_fewest_52 (by decide) (fun h => ?_) (fun h => ?_)
            · replace hw := hw.1 h
              refine lv_iinc (v := x5 + 1) (lv' := [(3, .int (x5 + 1)), (0, .ref (Γ.2.2 0)), (1, .int a1), (2, .int x2)]) hx hb dX10_fewest_65 hl (k := 3) rfl (congrArg (fun z => x5 + z) (by decide)) (by decide) rfl (fun ls hl => ?_)
              refine lv_goto (tgt := 24) hx hb dX10_fewest_68 (by decide) ?_
              exact hw _ _ _ hP (lv_sub hl [1, 2, 3, 0] rfl)
            · replace hw := hw.2 h
              refine lv_iload_n hx hb dX10_fewest_55 rfl (lv_at hl 1 rfl) ?_
              refine lv_if_ne (tgt := 63) hx hb dX10_fewest_56 (by decide) (fun h => ?_) (fun h => ?_)
              · replace hw := hw.1 h
                refine lv_iload_n hx hb dX10_fewest_63 rfl (lv_at hl 2 rfl) ?_
                exact W.iret hx hb hr (cR_ri hP hw) hP.2.2.2 dX10_fewest_64
              · replace hw := hw.2 h
                refine lv_iload_n hx hb dX10_fewest_59 rfl (lv_at hl 3 rfl) ?_
                refine lv_goto (tgt := 64) hx hb dX10_fewest_60 (by decide) ?_
                exact W.iret hx hb hr (cR_ri hP hw) hP.2.2.2 dX10_fewest_64
  · replace hw := hw.2 h
    refine lv_aload_n hx hb dX10_fewest_9 rfl (lv_at hl 0 rfl) ?_
    refine cR_Vi (rest := []) ⟨hx, hb, hml, hown, hts⟩ (c_X10_bad l Γ hI  σ _ hw) (cwV 0 hts gX10_fewest_X10_bad rfl rfl rfl (by decide +kernel) ⟨Nat.le_of_ble_eq_true rfl, Nat.le_of_ble_eq_true rfl⟩) hK hN hP (cR_lt hR_0 (by decide)) (cR_E10 hR_0) rfl rfl rfl hl.1 rfl (Nat.le_of_ble_eq_true rfl) dX10_fewest_10 ⟨Nat.le_refl _, Nat.le_refl _⟩ (fun r12 s13 H locs hw hP => ?_)
    exact W.iret hx hb hr (cR_ri hP hw) hP.2.2.2 dX10_fewest_13
theorem q_X10_pair_1 : (Cond.fieldLink RX10 41 "FaultTwinsModel" "can" "[I") ∈ wsX10_pair := List.mem_of_getElem? (i := 1) (by decide +kernel)
set_option maxHeartbeats 4000000 in
set_option maxRecDepth 100000 in
theorem c_X10_pair (l : Launch) (Γ : ft_G) (hI : cR_I Γ) (a1 : Int32) (a2 : Int32) (σ : ft_St) (Φ : Int32 → ft_St → Prop) (hw : w_X10_pair a1 a2 σ Φ) : cR_Mi l yX10_pair wsX10_pair ({ frames := 4, cells := 0, slots := 0, locals := 90 } : Room) Γ σ [.ref (Γ.2.2 0), .int a1, .int a2] Φ := by
  refine Met.ofW (cc := cX10_pair) (maxL := 3) (ret := (some .int)) (by decide) rfl ?_
  intro p e s m args below meth c s₁ B hml hv
  obtain ⟨rfl, hP, hK, hN⟩ := hv
  have hx := B.exec
  have hb := B.bytes
  have hr := B.returns
  have hts := atoms_spec (ws := wsX10_pair) B.pre
  have hown : s.vm.findClass RX10 = some m.cls := findClass_of_methodNamed B.named
  have hlocks := B.notSynchronized
  have i10 : ∀ w ∈ wsX100, w ∈ wsX10_pair := fun w h => List.mem_cons_of_mem _ (List.mem_append_right _ h)
  have hP : cR_P Γ s σ s.heap [] := ⟨hP, va_S.rf⟩
  have hl := lv_entry ([.ref (Γ.2.2 0), .int a1, .int a2]) (n := 3) (Nat.le_of_ble_eq_true rfl)
  rw [lg_entry_eq]
  generalize (lg_sl ([.ref (Γ.2.2 0), .int a1, .int a2]) ++ List.replicate (3 - (lg_sl ([.ref (Γ.2.2 0), .int a1, .int a2])).length) Slot.unset).toArray = ls at hl ⊢
  have hl : lv_has ls 3 [(0, .ref (Γ.2.2 0)), (1, .int a1), (2, .int a2)] := hl
  unfold w_X10_pair at hw
  refine lv_iload_n hx hb dX10_pair_0 rfl (lv_at hl 1 rfl) ?_
  refine lv_iconst (v := 0) hx hb dX10_pair_1 (by decide) ?_
  refine lv_bipush (v := 19) hx hb dX10_pair_2 (by decide) ?_
  refine cR_Sip (rest := []) ⟨hx, hb, hml, hown, hts⟩ (c_X10_in l Γ hI a1 0 19 σ _ hw) (va_cwS 3 hts gX10_pair_X10_in rfl rfl rfl (by decide +kernel) ⟨Nat.le_of_ble_eq_true rfl, Nat.le_of_ble_eq_true rfl⟩) hK hN hP rfl hl.1 rfl (Nat.le_of_ble_eq_true rfl) dX10_pair_4 ⟨Nat.le_refl _, Nat.le_refl _⟩ (fun r1 H locs hw hP => ?_)
  refine ft_cut (hw (∀ (H : Heap) (locs : List Loc) (ls : Array Slot), cR_P Γ s σ H locs → lv_has ls 3 [(0, .ref (Γ.2.2 0))] → cR_Wi p l e ({ frames := 4, cells := 0, slots := 0, locals := 90 } : Room) s m [.ref (Γ.2.2 0), .int a1, .int a2] below meth c Γ Φ H locs 17 ls []) (fun  hw H locs ls hP hl => ?_)) (fun hw => ?_)
  · refine lv_aload_n hx hb dX10_pair_17 rfl (lv_at hl 0 rfl) ?_
    refine cR_Vi (rest := []) ⟨hx, hb, hml, hown, hts⟩ (c_X10_bad l Γ hI  σ _ hw) (cwV 0 hts gX10_pair_X10_bad rfl rfl rfl (by decide +kernel) ⟨Nat.le_of_ble_eq_true rfl, Nat.le_of_ble_eq_true rfl⟩) hK hN hP (cR_lt hR_0 (by decide)) (cR_E10 hR_0) rfl rfl rfl hl.1 rfl (Nat.le_of_ble_eq_true rfl) dX10_pair_18 ⟨Nat.le_refl _, Nat.le_refl _⟩ (fun r3 s4 H locs hw hP => ?_)
    exact W.iret hx hb hr (cR_ri hP hw) hP.2.2.2 dX10_pair_21
  · refine lv_if_eq (tgt := 17) hx hb dX10_pair_7 (by decide) (fun h => ?_) (fun h => ?_)
    · replace hw := hw.1 h
      exact hw _ _ _ hP (lv_sub hl [0] rfl)
    · replace hw := hw.2 h
      refine lv_iload_n hx hb dX10_pair_10 rfl (lv_at hl 2 rfl) ?_
      refine cR_Sip (rest := []) ⟨hx, hb, hml, hown, hts⟩ (c_X10_isPlace l Γ hI a2 σ _ hw) (va_cwS 1 hts gX10_pair_X10_isPlace rfl rfl rfl (by decide +kernel) ⟨Nat.le_of_ble_eq_true rfl, Nat.le_of_ble_eq_true rfl⟩) hK hN hP rfl hl.1 rfl (Nat.le_of_ble_eq_true rfl) dX10_pair_11 ⟨Nat.le_refl _, Nat.le_refl _⟩ (fun r5 H locs hw hP => ?_)
      refine lv_if_ne (tgt := 22) hx hb dX10_pair_14 (by decide) (fun h => ?_) (fun h => ?_)
      · replace hw := hw.1 h
        refine lv_aload_n hx hb dX10_pair_22 rfl (lv_at hl 0 rfl) ?_
        refine cR_Vv (rest := []) ⟨hx, hb, hml, hown, hts⟩ (c_X10_findsLeads l Γ hI  σ _ hw) (cwV 0 hts gX10_pair_X10_findsLeads rfl rfl rfl (by decide +kernel) ⟨Nat.le_of_ble_eq_true rfl, Nat.le_of_ble_eq_true rfl⟩) hK hN hP (cR_lt hR_0 (by decide)) (cR_E10 hR_0) rfl rfl rfl hl.1 rfl (Nat.le_of_ble_eq_true rfl) dX10_pair_23 ⟨Nat.le_refl _, Nat.le_refl _⟩ (fun s6 H locs hw hP => ?_)
        refine lv_aload_n hx hb dX10_pair_26 rfl (lv_at hl 0 rfl) ?_
        refine gR_10_15 hx hb hts i10 hown hK hP hR_0 (hts _ q_X10_pair_1) dX10_pair_27 ?_
        refine lv_bipush (v := 10) hx hb dX10_pair_30 (by decide) ?_
        refine lv_iload_n hx hb dX10_pair_32 rfl (lv_at hl 1 rfl) ?_
        refine lv_imul hx hb dX10_pair_33 ?_
        refine lv_iload_n hx hb dX10_pair_34 rfl (lv_at hl 2 rfl) ?_
        refine lv_iadd hx hb dX10_pair_35 ?_
        refine aR_ld hx hb hK hP hR_9 mR_9 hw.1 dX10_pair_36 ?_
        replace hw := hw.2
        refine lv_if_ne (tgt := 42) hx hb dX10_pair_37 (by decide) (fun h => ?_) (fun h => ?_)
        · replace hw := hw.1 h
          refine lv_aload_n hx hb dX10_pair_42 rfl (lv_at hl 0 rfl) ?_
          refine cR_Vv (rest := []) ⟨hx, hb, hml, hown, hts⟩ (c_X10_goesOn l Γ hI  s6 _ hw) (cwV 0 hts gX10_pair_X10_goesOn rfl rfl rfl (by decide +kernel) ⟨Nat.le_of_ble_eq_true rfl, Nat.le_of_ble_eq_true rfl⟩) hK hN hP (cR_lt hR_0 (by decide)) (cR_E10 hR_0) rfl rfl rfl hl.1 rfl (Nat.le_of_ble_eq_true rfl) dX10_pair_43 ⟨Nat.le_refl _, Nat.le_refl _⟩ (fun s7 H locs hw hP => ?_)
          refine lv_iload_n hx hb dX10_pair_46 rfl (lv_at hl 1 rfl) ?_
          refine lv_bipush (v := 10) hx hb dX10_pair_47 (by decide) ?_
          refine ft_cut (hw (∀ (H : Heap) (locs : List Loc) (ls : Array Slot), cR_P Γ s s7 H locs → lv_has ls 3 [] → cR_Wi p l e ({ frames := 4, cells := 0, slots := 0, locals := 90 } : Room) s m [.ref (Γ.2.2 0), .int a1, .int a2] below meth c Γ Φ H locs 72 ls []) (fun  hw H locs ls hP hl => ?_)) (fun hw => ?_)
          · refine lv_iconst (v := 1) hx hb dX10_pair_72 (by decide) ?_
            exact W.iret hx hb hr (cR_ri hP hw) hP.2.2.2 dX10_pair_73
          · refine lv_icmp_lt (tgt := 72) hx hb dX10_pair_49 (by decide) (fun h => ?_) (fun h => ?_)
            · replace hw := hw.1 h
              exact hw _ _ _ hP (lv_sub hl [] rfl)
            · replace hw := hw.2 h
              refine lv_aload_n hx hb dX10_pair_52 rfl (lv_at hl 0 rfl) ?_
              refine lv_bipush (v := 10) hx hb dX10_pair_53 (by decide) ?_
              refine lv_iload_n hx hb dX10_pair_55 rfl (lv_at hl 1 rfl) ?_
              refine lv_bipush (v := 10) hx hb dX10_pair_56 (by decide) ?_
              refine lv_isub hx hb dX10_pair_58 ?_
              refine lv_imul hx hb dX10_pair_59 ?_
              refine lv_iload_n hx hb dX10_pair_60 rfl (lv_at hl 2 rfl) ?_
              refine lv_iadd hx hb dX10_pair_61 ?_
              refine cR_Vip (rest := []) ⟨hx, hb, hml, hown, hts⟩ (c_X10_isOfRing l Γ hI ((10 * (a1 - 10)) + a2) s7 _ hw) (cwV 1 hts gX10_pair_X10_isOfRing rfl rfl rfl (by decide +kernel) ⟨Nat.le_of_ble_eq_true rfl, Nat.le_of_ble_eq_true rfl⟩) hK hN hP (cR_lt hR_0 (by decide)) (cR_E10 hR_0) rfl rfl rfl hl.1 rfl (Nat.le_of_ble_eq_true rfl) dX10_pair_62 ⟨Nat.le_refl _, Nat.le_refl _⟩ (fun r9 H locs hw hP => ?_)
              refine lv_if_eq (tgt := 72) hx hb dX10_pair_65 (by decide) (fun h => ?_) (fun h => ?_)
              · replace hw := hw.1 h
                exact hw _ _ _ hP (lv_sub hl [] rfl)
              · replace hw := hw.2 h
                refine lv_iconst (v := 2) hx hb dX10_pair_68 (by decide) ?_
                refine lv_goto (tgt := 73) hx hb dX10_pair_69 (by decide) ?_
                exact W.iret hx hb hr (cR_ri hP hw) hP.2.2.2 dX10_pair_73
        · replace hw := hw.2 h
          refine lv_iconst (v := 0) hx hb dX10_pair_40 (by decide) ?_
          exact W.iret hx hb hr (cR_ri hP hw) hP.2.2.2 dX10_pair_41
      · replace hw := hw.2 h
        exact hw _ _ _ hP (lv_sub hl [0] rfl)
theorem q_X10_type_1 : (Cond.fieldLink RX10 233 "FaultTwinsModel" "size" "I") ∈ wsX10_type := List.mem_of_getElem? (i := 1) (by decide +kernel)
theorem q_X10_type_2 : (Cond.fieldLink RX10 60 "FaultTwinsModel" "text" "[I") ∈ wsX10_type := List.mem_of_getElem? (i := 2) (by decide +kernel)
set_option maxHeartbeats 4000000 in
set_option maxRecDepth 100000 in
theorem c_X10_type (l : Launch) (Γ : ft_G) (hI : cR_I Γ) (a1 : Int32) (σ : ft_St) (Φ : Int32 → ft_St → Prop) (hw : w_X10_type a1 σ Φ) : cR_Mi l yX10_type wsX10_type ({ frames := 1, cells := 0, slots := 0, locals := 22 } : Room) Γ σ [.ref (Γ.2.2 0), .int a1] Φ := by
  refine Met.ofW (cc := cX10_type) (maxL := 2) (ret := (some .int)) (by decide) rfl ?_
  intro p e s m args below meth c s₁ B hml hv
  obtain ⟨rfl, hP, hK, hN⟩ := hv
  have hx := B.exec
  have hb := B.bytes
  have hr := B.returns
  have hts := atoms_spec (ws := wsX10_type) B.pre
  have hown : s.vm.findClass RX10 = some m.cls := findClass_of_methodNamed B.named
  have hlocks := B.notSynchronized
  have i10 : ∀ w ∈ wsX100, w ∈ wsX10_type := fun w h => List.mem_cons_of_mem _ (List.mem_append_right _ h)
  have hP : cR_P Γ s σ s.heap [] := ⟨hP, va_S.rf⟩
  have hl := lv_entry ([.ref (Γ.2.2 0), .int a1]) (n := 2) (Nat.le_of_ble_eq_true rfl)
  rw [lg_entry_eq]
  generalize (lg_sl ([.ref (Γ.2.2 0), .int a1]) ++ List.replicate (2 - (lg_sl ([.ref (Γ.2.2 0), .int a1])).length) Slot.unset).toArray = ls at hl ⊢
  have hl : lv_has ls 2 [(0, .ref (Γ.2.2 0)), (1, .int a1)] := hl
  unfold w_X10_type at hw
  refine lv_iload_n hx hb dX10_type_0 rfl (lv_at hl 1 rfl) ?_
  refine lv_iconst (v := 0) hx hb dX10_type_1 (by decide) ?_
  refine lv_bipush (v := 127) hx hb dX10_type_2 (by decide) ?_
  refine cR_Sip (rest := []) ⟨hx, hb, hml, hown, hts⟩ (c_X10_in l Γ hI a1 0 127 σ _ hw) (va_cwS 3 hts gX10_type_X10_in rfl rfl rfl (by decide +kernel) ⟨Nat.le_of_ble_eq_true rfl, Nat.le_of_ble_eq_true rfl⟩) hK hN hP rfl hl.1 rfl (Nat.le_of_ble_eq_true rfl) dX10_type_4 ⟨Nat.le_refl _, Nat.le_refl _⟩ (fun r1 H locs hw hP => ?_)
  refine lv_if_ne (tgt := 15) hx hb dX10_type_7 (by decide) (fun h => ?_) (fun h => ?_)
  · replace hw := hw.1 h
    refine lv_aload_n hx hb dX10_type_15 rfl (lv_at hl 0 rfl) ?_
    refine gR_10_22 hx hb hts i10 hown hK hP hR_0 (hts _ q_X10_type_1) dX10_type_16 ?_
    refine lv_bipush (v := 120) hx hb dX10_type_19 (by decide) ?_
    refine lv_icmp_ne (tgt := 29) hx hb dX10_type_21 (by decide) (fun h => ?_) (fun h => ?_)
    · replace hw := hw.1 h
      refine lv_aload_n hx hb dX10_type_29 rfl (lv_at hl 0 rfl) ?_
      refine gR_10_21 hx hb hts i10 hown hK hP hR_0 (hts _ q_X10_type_2) dX10_type_30 ?_
      refine lv_aload_n hx hb dX10_type_33 rfl (lv_at hl 0 rfl) ?_
      refine gR_10_22 hx hb hts i10 hown hK hP hR_0 (hts _ q_X10_type_1) dX10_type_34 ?_
      refine lv_iload_n hx hb dX10_type_37 rfl (lv_at hl 1 rfl) ?_
      refine aR_st hx hb hK hI hP hR_15 mR_15 hw.1 dX10_type_38 (fun H locs hP => ?_)
      replace hw := hw.2
      obtain ⟨s2, hs2⟩ : ∃ u, u = ft_sA σ 15 (upd (σ.2.1 15) (Int32.toNatClampNeg (σ.1 0 22)) a1) := ⟨_, rfl⟩
      rw [← hs2] at hP
      replace hw := hw s2 hs2
      refine lv_aload_n hx hb dX10_type_39 rfl (lv_at hl 0 rfl) ?_
      refine lv_dup hx hb dX10_type_40 rfl ?_
      refine gR_10_22 hx hb hts i10 hown hK hP hR_0 (hts _ q_X10_type_1) dX10_type_41 ?_
      refine lv_iconst (v := 1) hx hb dX10_type_44 (by decide) ?_
      refine lv_iadd hx hb dX10_type_45 ?_
      refine pR_10_22 hx hb hts i10 hown hK hI hP hR_0 (hts _ q_X10_type_1) dX10_type_46 (fun H locs hP => ?_)
      obtain ⟨s3, hs3⟩ : ∃ u, u = ft_sF s2 0 22 ((s2.1 0 22) + 1) := ⟨_, rfl⟩
      rw [← hs3] at hP
      replace hw := hw s3 hs3
      refine lv_aload_n hx hb dX10_type_49 rfl (lv_at hl 0 rfl) ?_
      refine gR_10_22 hx hb hts i10 hown hK hP hR_0 (hts _ q_X10_type_1) dX10_type_50 ?_
      exact W.iret hx hb hr (cR_ri hP hw) hP.2.2.2 dX10_type_53
    · replace hw := hw.2 h
      refine lv_aload_n hx hb dX10_type_24 rfl (lv_at hl 0 rfl) ?_
      refine cR_Vi (rest := []) ⟨hx, hb, hml, hown, hts⟩ (c_X10_full l Γ hI  σ _ hw) (cwV 0 hts gX10_type_X10_full rfl rfl rfl (by decide +kernel) ⟨Nat.le_of_ble_eq_true rfl, Nat.le_of_ble_eq_true rfl⟩) hK hN hP (cR_lt hR_0 (by decide)) (cR_E10 hR_0) rfl rfl rfl hl.1 rfl (Nat.le_of_ble_eq_true rfl) dX10_type_25 ⟨Nat.le_refl _, Nat.le_refl _⟩ (fun r4 s5 H locs hw hP => ?_)
      exact W.iret hx hb hr (cR_ri hP hw) hP.2.2.2 dX10_type_28
  · replace hw := hw.2 h
    refine lv_aload_n hx hb dX10_type_10 rfl (lv_at hl 0 rfl) ?_
    refine cR_Vi (rest := []) ⟨hx, hb, hml, hown, hts⟩ (c_X10_bad l Γ hI  σ _ hw) (cwV 0 hts gX10_type_X10_bad rfl rfl rfl (by decide +kernel) ⟨Nat.le_of_ble_eq_true rfl, Nat.le_of_ble_eq_true rfl⟩) hK hN hP (cR_lt hR_0 (by decide)) (cR_E10 hR_0) rfl rfl rfl hl.1 rfl (Nat.le_of_ble_eq_true rfl) dX10_type_11 ⟨Nat.le_refl _, Nat.le_refl _⟩ (fun r6 s7 H locs hw hP => ?_)
    exact W.iret hx hb hr (cR_ri hP hw) hP.2.2.2 dX10_type_14
theorem q_X10_clear_1 : (Cond.fieldLink RX10 233 "FaultTwinsModel" "size" "I") ∈ wsX10_clear := List.mem_of_getElem? (i := 1) (by decide +kernel)
set_option maxHeartbeats 4000000 in
set_option maxRecDepth 100000 in
theorem c_X10_clear (l : Launch) (Γ : ft_G) (hI : cR_I Γ)  (σ : ft_St) (Φ : Int32 → ft_St → Prop) (hw : w_X10_clear  σ Φ) : cR_Mi l yX10_clear wsX10_clear ({ frames := 0, cells := 0, slots := 0, locals := 0 } : Room) Γ σ [.ref (Γ.2.2 0)] Φ := by
  refine Met.ofW (cc := cX10_clear) (maxL := 2) (ret := (some .int)) (by decide) rfl ?_
  intro p e s m args below meth c s₁ B hml hv
  obtain ⟨rfl, hP, hK, hN⟩ := hv
  have hx := B.exec
  have hb := B.bytes
  have hr := B.returns
  have hts := atoms_spec (ws := wsX10_clear) B.pre
  have hown : s.vm.findClass RX10 = some m.cls := findClass_of_methodNamed B.named
  have hlocks := B.notSynchronized
  have i10 : ∀ w ∈ wsX100, w ∈ wsX10_clear := fun w h => List.mem_cons_of_mem _ (List.mem_append_right _ h)
  have hP : cR_P Γ s σ s.heap [] := ⟨hP, va_S.rf⟩
  have hl := lv_entry ([.ref (Γ.2.2 0)]) (n := 2) (Nat.le_of_ble_eq_true rfl)
  rw [lg_entry_eq]
  generalize (lg_sl ([.ref (Γ.2.2 0)]) ++ List.replicate (2 - (lg_sl ([.ref (Γ.2.2 0)])).length) Slot.unset).toArray = ls at hl ⊢
  have hl : lv_has ls 2 [(0, .ref (Γ.2.2 0))] := hl
  unfold w_X10_clear at hw
  refine lv_aload_n hx hb dX10_clear_0 rfl (lv_at hl 0 rfl) ?_
  refine gR_10_22 hx hb hts i10 hown hK hP hR_0 (hts _ q_X10_clear_1) dX10_clear_1 ?_
  refine lv_istore_n (lv' := [(1, .int (σ.1 0 22)), (0, .ref (Γ.2.2 0))]) hx hb dX10_clear_4 rfl hl (by decide) rfl (fun ls hl => ?_)
  refine lv_aload_n hx hb dX10_clear_5 rfl (lv_at hl 1 rfl) ?_
  refine lv_iconst (v := 0) hx hb dX10_clear_6 (by decide) ?_
  refine pR_10_22 hx hb hts i10 hown hK hI hP hR_0 (hts _ q_X10_clear_1) dX10_clear_7 (fun H locs hP => ?_)
  obtain ⟨s1, hs1⟩ : ∃ u, u = ft_sF σ 0 22 0 := ⟨_, rfl⟩
  rw [← hs1] at hP
  replace hw := hw s1 hs1
  refine lv_iload_n hx hb dX10_clear_10 rfl (lv_at hl 0 rfl) ?_
  exact W.iret hx hb hr (cR_ri hP hw) hP.2.2.2 dX10_clear_11
theorem q_X10_here_1 : (Cond.fieldLink RX10 236 "FaultTwinsModel" "readAt" "I") ∈ wsX10_here := List.mem_of_getElem? (i := 1) (by decide +kernel)
theorem q_X10_here_2 : (Cond.fieldLink RX10 233 "FaultTwinsModel" "size" "I") ∈ wsX10_here := List.mem_of_getElem? (i := 2) (by decide +kernel)
theorem q_X10_here_3 : (Cond.fieldLink RX10 60 "FaultTwinsModel" "text" "[I") ∈ wsX10_here := List.mem_of_getElem? (i := 3) (by decide +kernel)
set_option maxHeartbeats 4000000 in
set_option maxRecDepth 100000 in
theorem c_X10_here (l : Launch) (Γ : ft_G) (hI : cR_I Γ)  (σ : ft_St) (Φ : Int32 → ft_St → Prop) (hw : w_X10_here  σ Φ) : cR_Mi l yX10_here wsX10_here ({ frames := 0, cells := 0, slots := 0, locals := 0 } : Room) Γ σ [.ref (Γ.2.2 0)] Φ := by
  refine Met.ofW (cc := cX10_here) (maxL := 1) (ret := (some .int)) (by decide) rfl ?_
  intro p e s m args below meth c s₁ B hml hv
  obtain ⟨rfl, hP, hK, hN⟩ := hv
  have hx := B.exec
  have hb := B.bytes
  have hr := B.returns
  have hts := atoms_spec (ws := wsX10_here) B.pre
  have hown : s.vm.findClass RX10 = some m.cls := findClass_of_methodNamed B.named
  have hlocks := B.notSynchronized
  have i10 : ∀ w ∈ wsX100, w ∈ wsX10_here := fun w h => List.mem_cons_of_mem _ (List.mem_append_right _ h)
  have hP : cR_P Γ s σ s.heap [] := ⟨hP, va_S.rf⟩
  have hl := lv_entry ([.ref (Γ.2.2 0)]) (n := 1) (Nat.le_of_ble_eq_true rfl)
  rw [lg_entry_eq]
  generalize (lg_sl ([.ref (Γ.2.2 0)]) ++ List.replicate (1 - (lg_sl ([.ref (Γ.2.2 0)])).length) Slot.unset).toArray = ls at hl ⊢
  have hl : lv_has ls 1 [(0, .ref (Γ.2.2 0))] := hl
  unfold w_X10_here at hw
  refine hw (fun (s1 : ft_St) => ∀ (H : Heap) (locs : List Loc) (ls : Array Slot), cR_P Γ s s1 H locs → lv_has ls 1 [(0, .ref (Γ.2.2 0))] → cR_Wi p l e ({ frames := 0, cells := 0, slots := 0, locals := 0 } : Room) s m [.ref (Γ.2.2 0)] below meth c Γ Φ H locs 0 ls []) (fun s1 hw H locs ls hP hl => ?_) _ _ _ hP (lv_sub hl [0] rfl)
  refine lv_aload_n hx hb dX10_here_0 rfl (lv_at hl 0 rfl) ?_
  refine gR_10_23 hx hb hts i10 hown hK hP hR_0 (hts _ q_X10_here_1) dX10_here_1 ?_
  refine lv_aload_n hx hb dX10_here_4 rfl (lv_at hl 0 rfl) ?_
  refine gR_10_22 hx hb hts i10 hown hK hP hR_0 (hts _ q_X10_here_2) dX10_here_5 ?_
  refine ft_cut (hw (∀ (H : Heap) (locs : List Loc) (ls : Array Slot), cR_P Γ s s1 H locs → lv_has ls 1 [(0, .ref (Γ.2.2 0))] → cR_Wi p l e ({ frames := 0, cells := 0, slots := 0, locals := 0 } : Room) s m [.ref (Γ.2.2 0)] below meth c Γ Φ H locs 38 ls []) (fun  hw H locs ls hP hl => ?_)) (fun hw => ?_)
  · refine lv_aload_n hx hb dX10_here_38 rfl (lv_at hl 0 rfl) ?_
    refine gR_10_23 hx hb hts i10 hown hK hP hR_0 (hts _ q_X10_here_1) dX10_here_39 ?_
    refine lv_aload_n hx hb dX10_here_42 rfl (lv_at hl 0 rfl) ?_
    refine gR_10_22 hx hb hts i10 hown hK hP hR_0 (hts _ q_X10_here_2) dX10_here_43 ?_
    refine lv_icmp_ge (tgt := 61) hx hb dX10_here_46 (by decide) (fun h => ?_) (fun h => ?_)
    · replace hw := hw.1 h
      refine lv_iconst (v := (-1)) hx hb dX10_here_61 (by decide) ?_
      exact W.iret hx hb hr (cR_ri hP hw) hP.2.2.2 dX10_here_62
    · replace hw := hw.2 h
      refine lv_aload_n hx hb dX10_here_49 rfl (lv_at hl 0 rfl) ?_
      refine gR_10_21 hx hb hts i10 hown hK hP hR_0 (hts _ q_X10_here_3) dX10_here_50 ?_
      refine lv_aload_n hx hb dX10_here_53 rfl (lv_at hl 0 rfl) ?_
      refine gR_10_23 hx hb hts i10 hown hK hP hR_0 (hts _ q_X10_here_1) dX10_here_54 ?_
      refine aR_ld hx hb hK hP hR_15 mR_15 hw.1 dX10_here_57 ?_
      replace hw := hw.2
      refine lv_goto (tgt := 62) hx hb dX10_here_58 (by decide) ?_
      exact W.iret hx hb hr (cR_ri hP hw) hP.2.2.2 dX10_here_62
  · refine lv_icmp_ge (tgt := 38) hx hb dX10_here_8 (by decide) (fun h => ?_) (fun h => ?_)
    · replace hw := hw.1 h
      exact hw _ _ _ hP (lv_sub hl [0] rfl)
    · replace hw := hw.2 h
      refine lv_aload_n hx hb dX10_here_11 rfl (lv_at hl 0 rfl) ?_
      refine gR_10_21 hx hb hts i10 hown hK hP hR_0 (hts _ q_X10_here_3) dX10_here_12 ?_
      refine lv_aload_n hx hb dX10_here_15 rfl (lv_at hl 0 rfl) ?_
      refine gR_10_23 hx hb hts i10 hown hK hP hR_0 (hts _ q_X10_here_1) dX10_here_16 ?_
      refine aR_ld hx hb hK hP hR_15 mR_15 hw.1 dX10_here_19 ?_
      replace hw := hw.2
      refine lv_bipush (v := 32) hx hb dX10_here_20 (by decide) ?_
      refine lv_icmp_ne (tgt := 38) hx hb dX10_here_22 (by decide) (fun h => ?_) (fun h => ?_)
      · replace hw := hw.1 h
        exact hw _ _ _ hP (lv_sub hl [0] rfl)
      · replace hw := hw.2 h
        refine lv_aload_n hx hb dX10_here_25 rfl (lv_at hl 0 rfl) ?_
        refine lv_dup hx hb dX10_here_26 rfl ?_
        refine gR_10_23 hx hb hts i10 hown hK hP hR_0 (hts _ q_X10_here_1) dX10_here_27 ?_
        refine lv_iconst (v := 1) hx hb dX10_here_30 (by decide) ?_
        refine lv_iadd hx hb dX10_here_31 ?_
        refine pR_10_23 hx hb hts i10 hown hK hI hP hR_0 (hts _ q_X10_here_1) dX10_here_32 (fun H locs hP => ?_)
        obtain ⟨s4, hs4⟩ : ∃ u, u = ft_sF s1 0 23 ((s1.1 0 23) + 1) := ⟨_, rfl⟩
        rw [← hs4] at hP
        replace hw := hw s4 hs4
        refine lv_goto (tgt := 0) hx hb dX10_here_35 (by decide) ?_
        exact hw _ _ _ hP (lv_sub hl [0] rfl)
theorem q_X10_wrong_1 : (Cond.fieldLink RX10 239 "FaultTwinsModel" "faultAt" "I") ∈ wsX10_wrong := List.mem_of_getElem? (i := 1) (by decide +kernel)
set_option maxHeartbeats 4000000 in
set_option maxRecDepth 100000 in
theorem c_X10_wrong (l : Launch) (Γ : ft_G) (hI : cR_I Γ) (a1 : Int32) (σ : ft_St) (Φ : Int32 → ft_St → Prop) (hw : w_X10_wrong a1 σ Φ) : cR_Mi l yX10_wrong wsX10_wrong ({ frames := 0, cells := 0, slots := 0, locals := 0 } : Room) Γ σ [.ref (Γ.2.2 0), .int a1] Φ := by
  refine Met.ofW (cc := cX10_wrong) (maxL := 2) (ret := (some .boolean)) (by decide) rfl ?_
  intro p e s m args below meth c s₁ B hml hv
  obtain ⟨rfl, hP, hK, hN⟩ := hv
  have hx := B.exec
  have hb := B.bytes
  have hr := B.returns
  have hts := atoms_spec (ws := wsX10_wrong) B.pre
  have hown : s.vm.findClass RX10 = some m.cls := findClass_of_methodNamed B.named
  have hlocks := B.notSynchronized
  have i10 : ∀ w ∈ wsX100, w ∈ wsX10_wrong := fun w h => List.mem_cons_of_mem _ (List.mem_append_right _ h)
  have hP : cR_P Γ s σ s.heap [] := ⟨hP, va_S.rf⟩
  have hl := lv_entry ([.ref (Γ.2.2 0), .int a1]) (n := 2) (Nat.le_of_ble_eq_true rfl)
  rw [lg_entry_eq]
  generalize (lg_sl ([.ref (Γ.2.2 0), .int a1]) ++ List.replicate (2 - (lg_sl ([.ref (Γ.2.2 0), .int a1])).length) Slot.unset).toArray = ls at hl ⊢
  have hl : lv_has ls 2 [(0, .ref (Γ.2.2 0)), (1, .int a1)] := hl
  unfold w_X10_wrong at hw
  refine lv_aload_n hx hb dX10_wrong_0 rfl (lv_at hl 0 rfl) ?_
  refine lv_iload_n hx hb dX10_wrong_1 rfl (lv_at hl 1 rfl) ?_
  refine pR_10_24 hx hb hts i10 hown hK hI hP hR_0 (hts _ q_X10_wrong_1) dX10_wrong_2 (fun H locs hP => ?_)
  obtain ⟨s1, hs1⟩ : ∃ u, u = ft_sF σ 0 24 a1 := ⟨_, rfl⟩
  rw [← hs1] at hP
  replace hw := hw s1 hs1
  refine lv_iconst (v := 0) hx hb dX10_wrong_5 (by decide) ?_
  exact W.zret hx hb hr rfl (cR_ri hP hw) hP.2.2.2 dX10_wrong_6
theorem q_X10_ends_1 : (Cond.fieldLink RX10 236 "FaultTwinsModel" "readAt" "I") ∈ wsX10_ends := List.mem_of_getElem? (i := 1) (by decide +kernel)
set_option maxHeartbeats 4000000 in
set_option maxRecDepth 100000 in
theorem c_X10_ends (l : Launch) (Γ : ft_G) (hI : cR_I Γ)  (σ : ft_St) (Φ : Int32 → ft_St → Prop) (hw : w_X10_ends  σ Φ) : cR_Mi l yX10_ends wsX10_ends ({ frames := 1, cells := 0, slots := 0, locals := 21 } : Room) Γ σ [.ref (Γ.2.2 0)] Φ := by
  refine Met.ofW (cc := cX10_ends) (maxL := 1) (ret := (some .boolean)) (by decide) rfl ?_
  intro p e s m args below meth c s₁ B hml hv
  obtain ⟨rfl, hP, hK, hN⟩ := hv
  have hx := B.exec
  have hb := B.bytes
  have hr := B.returns
  have hts := atoms_spec (ws := wsX10_ends) B.pre
  have hown : s.vm.findClass RX10 = some m.cls := findClass_of_methodNamed B.named
  have hlocks := B.notSynchronized
  have i10 : ∀ w ∈ wsX100, w ∈ wsX10_ends := fun w h => List.mem_cons_of_mem _ (List.mem_append_right _ h)
  have hP : cR_P Γ s σ s.heap [] := ⟨hP, va_S.rf⟩
  have hl := lv_entry ([.ref (Γ.2.2 0)]) (n := 1) (Nat.le_of_ble_eq_true rfl)
  rw [lg_entry_eq]
  generalize (lg_sl ([.ref (Γ.2.2 0)]) ++ List.replicate (1 - (lg_sl ([.ref (Γ.2.2 0)])).length) Slot.unset).toArray = ls at hl ⊢
  have hl : lv_has ls 1 [(0, .ref (Γ.2.2 0))] := hl
  unfold w_X10_ends at hw
  refine lv_aload_n hx hb dX10_ends_0 rfl (lv_at hl 0 rfl) ?_
  refine cR_Vi (rest := []) ⟨hx, hb, hml, hown, hts⟩ (c_X10_here l Γ hI  σ _ hw) (cwV 0 hts gX10_ends_X10_here rfl rfl rfl (by decide +kernel) ⟨Nat.le_of_ble_eq_true rfl, Nat.le_of_ble_eq_true rfl⟩) hK hN hP (cR_lt hR_0 (by decide)) (cR_E10 hR_0) rfl rfl rfl hl.1 rfl (Nat.le_of_ble_eq_true rfl) dX10_ends_1 ⟨Nat.le_refl _, Nat.le_refl _⟩ (fun r1 s2 H locs hw hP => ?_)
  refine lv_bipush (v := 59) hx hb dX10_ends_4 (by decide) ?_
  refine lv_icmp_eq (tgt := 18) hx hb dX10_ends_6 (by decide) (fun h => ?_) (fun h => ?_)
  · replace hw := hw.1 h
    refine lv_aload_n hx hb dX10_ends_18 rfl (lv_at hl 0 rfl) ?_
    refine lv_dup hx hb dX10_ends_19 rfl ?_
    refine gR_10_23 hx hb hts i10 hown hK hP hR_0 (hts _ q_X10_ends_1) dX10_ends_20 ?_
    refine lv_iconst (v := 1) hx hb dX10_ends_23 (by decide) ?_
    refine lv_iadd hx hb dX10_ends_24 ?_
    refine pR_10_23 hx hb hts i10 hown hK hI hP hR_0 (hts _ q_X10_ends_1) dX10_ends_25 (fun H locs hP => ?_)
    obtain ⟨s3, hs3⟩ : ∃ u, u = ft_sF s2 0 23 ((s2.1 0 23) + 1) := ⟨_, rfl⟩
    rw [← hs3] at hP
    replace hw := hw s3 hs3
    refine lv_iconst (v := 1) hx hb dX10_ends_28 (by decide) ?_
    exact W.zret hx hb hr rfl (cR_ri hP hw) hP.2.2.2 dX10_ends_29
  · replace hw := hw.2 h
    refine lv_aload_n hx hb dX10_ends_9 rfl (lv_at hl 0 rfl) ?_
    refine lv_aload_n hx hb dX10_ends_10 rfl (lv_at hl 0 rfl) ?_
    refine gR_10_23 hx hb hts i10 hown hK hP hR_0 (hts _ q_X10_ends_1) dX10_ends_11 ?_
    refine cR_Vi (rest := []) ⟨hx, hb, hml, hown, hts⟩ (c_X10_wrong l Γ hI (s2.1 0 23) s2 _ hw) (cwV 1 hts gX10_ends_X10_wrong rfl rfl rfl (by decide +kernel) ⟨Nat.le_of_ble_eq_true rfl, Nat.le_of_ble_eq_true rfl⟩) hK hN hP (cR_lt hR_0 (by decide)) (cR_E10 hR_0) rfl rfl rfl hl.1 rfl (Nat.le_of_ble_eq_true rfl) dX10_ends_14 ⟨Nat.le_refl _, Nat.le_refl _⟩ (fun r4 s5 H locs hw hP => ?_)
    exact W.zret hx hb hr (ft_bz_n hw.1) (cR_ri hP hw.2) hP.2.2.2 dX10_ends_17
theorem q_X10_readsWay_1 : (Cond.fieldLink RX10 236 "FaultTwinsModel" "readAt" "I") ∈ wsX10_readsWay := List.mem_of_getElem? (i := 1) (by decide +kernel)
theorem q_X10_readsWay_2 : (Cond.fieldLink RX10 70 "FaultTwinsModel" "many" "I") ∈ wsX10_readsWay := List.mem_of_getElem? (i := 2) (by decide +kernel)
theorem q_X10_readsWay_3 : (Cond.fieldLink RX10 60 "FaultTwinsModel" "text" "[I") ∈ wsX10_readsWay := List.mem_of_getElem? (i := 3) (by decide +kernel)
set_option maxHeartbeats 4000000 in
set_option maxRecDepth 100000 in
theorem c_X10_readsWay (l : Launch) (Γ : ft_G) (hI : cR_I Γ)  (σ : ft_St) (Φ : Int32 → ft_St → Prop) (hw : w_X10_readsWay  σ Φ) : cR_Mi l yX10_readsWay wsX10_readsWay ({ frames := 2, cells := 0, slots := 0, locals := 42 } : Room) Γ σ [.ref (Γ.2.2 0)] Φ := by
  refine Met.ofW (cc := cX10_readsWay) (maxL := 5) (ret := (some .boolean)) (by decide) rfl ?_
  intro p e s m args below meth c s₁ B hml hv
  obtain ⟨rfl, hP, hK, hN⟩ := hv
  have hx := B.exec
  have hb := B.bytes
  have hr := B.returns
  have hts := atoms_spec (ws := wsX10_readsWay) B.pre
  have hown : s.vm.findClass RX10 = some m.cls := findClass_of_methodNamed B.named
  have hlocks := B.notSynchronized
  have i10 : ∀ w ∈ wsX100, w ∈ wsX10_readsWay := fun w h => List.mem_cons_of_mem _ (List.mem_append_right _ h)
  have hP : cR_P Γ s σ s.heap [] := ⟨hP, va_S.rf⟩
  have hl := lv_entry ([.ref (Γ.2.2 0)]) (n := 5) (Nat.le_of_ble_eq_true rfl)
  rw [lg_entry_eq]
  generalize (lg_sl ([.ref (Γ.2.2 0)]) ++ List.replicate (5 - (lg_sl ([.ref (Γ.2.2 0)])).length) Slot.unset).toArray = ls at hl ⊢
  have hl : lv_has ls 5 [(0, .ref (Γ.2.2 0))] := hl
  unfold w_X10_readsWay at hw
  refine lv_aload_n hx hb dX10_readsWay_0 rfl (lv_at hl 0 rfl) ?_
  refine gR_10_23 hx hb hts i10 hown hK hP hR_0 (hts _ q_X10_readsWay_1) dX10_readsWay_1 ?_
  refine lv_istore_n (lv' := [(1, .int (σ.1 0 23)), (0, .ref (Γ.2.2 0))]) hx hb dX10_readsWay_4 rfl hl (by decide) rfl (fun ls hl => ?_)
  refine lv_aload_n hx hb dX10_readsWay_5 rfl (lv_at hl 1 rfl) ?_
  refine gR_10_1 hx hb hts i10 hown hK hP hR_0 (hts _ q_X10_readsWay_2) dX10_readsWay_6 ?_
  refine lv_bipush (v := 24) hx hb dX10_readsWay_9 (by decide) ?_
  refine lv_icmp_ne (tgt := 20) hx hb dX10_readsWay_11 (by decide) (fun h => ?_) (fun h => ?_)
  · replace hw := hw.1 h
    refine lv_aload_n hx hb dX10_readsWay_20 rfl (lv_at hl 1 rfl) ?_
    refine gR_10_21 hx hb hts i10 hown hK hP hR_0 (hts _ q_X10_readsWay_3) dX10_readsWay_21 ?_
    refine lv_aload_n hx hb dX10_readsWay_24 rfl (lv_at hl 1 rfl) ?_
    refine gR_10_23 hx hb hts i10 hown hK hP hR_0 (hts _ q_X10_readsWay_1) dX10_readsWay_25 ?_
    refine aR_ld hx hb hK hP hR_15 mR_15 hw.1 dX10_readsWay_28 ?_
    replace hw := hw.2
    refine lv_bipush (v := 48) hx hb dX10_readsWay_29 (by decide) ?_
    refine lv_isub hx hb dX10_readsWay_31 ?_
    refine lv_topi (fun x1 ex1 => ?_)
    replace hw := hw x1 ex1
    refine lv_istore_n (lv' := [(2, .int x1), (1, .int (σ.1 0 23)), (0, .ref (Γ.2.2 0))]) hx hb dX10_readsWay_32 rfl hl (by decide) rfl (fun ls hl => ?_)
    refine lv_aload_n hx hb dX10_readsWay_33 rfl (lv_at hl 2 rfl) ?_
    refine lv_dup hx hb dX10_readsWay_34 rfl ?_
    refine gR_10_23 hx hb hts i10 hown hK hP hR_0 (hts _ q_X10_readsWay_1) dX10_readsWay_35 ?_
    refine lv_iconst (v := 1) hx hb dX10_readsWay_38 (by decide) ?_
    refine lv_iadd hx hb dX10_readsWay_39 ?_
    refine pR_10_23 hx hb hts i10 hown hK hI hP hR_0 (hts _ q_X10_readsWay_1) dX10_readsWay_40 (fun H locs hP => ?_)
    obtain ⟨s2, hs2⟩ : ∃ u, u = ft_sF σ 0 23 ((σ.1 0 23) + 1) := ⟨_, rfl⟩
    rw [← hs2] at hP
    replace hw := hw s2 hs2
    refine lv_aload_n hx hb dX10_readsWay_43 rfl (lv_at hl 2 rfl) ?_
    refine cR_Vi (rest := []) ⟨hx, hb, hml, hown, hts⟩ (c_X10_here l Γ hI  s2 _ hw) (cwV 0 hts gX10_readsWay_X10_here rfl rfl rfl (by decide +kernel) ⟨Nat.le_of_ble_eq_true rfl, Nat.le_of_ble_eq_true rfl⟩) hK hN hP (cR_lt hR_0 (by decide)) (cR_E10 hR_0) rfl rfl rfl hl.1 rfl (Nat.le_of_ble_eq_true rfl) dX10_readsWay_44 ⟨Nat.le_refl _, Nat.le_refl _⟩ (fun r3 s4 H locs hw hP => ?_)
    refine lv_bipush (v := 97) hx hb dX10_readsWay_47 (by decide) ?_
    refine lv_isub hx hb dX10_readsWay_49 ?_
    refine lv_istore_n (lv' := [(3, .int (r3 - 97)), (2, .int x1), (1, .int (σ.1 0 23)), (0, .ref (Γ.2.2 0))]) hx hb dX10_readsWay_50 rfl hl (by decide) rfl (fun ls hl => ?_)
    refine lv_iload_n hx hb dX10_readsWay_51 rfl (lv_at hl 0 rfl) ?_
    refine cR_Sip (rest := []) ⟨hx, hb, hml, hown, hts⟩ (c_X10_isDeed l Γ hI (r3 - 97) s4 _ hw) (va_cwS 1 hts gX10_readsWay_X10_isDeed rfl rfl rfl (by decide +kernel) ⟨Nat.le_of_ble_eq_true rfl, Nat.le_of_ble_eq_true rfl⟩) hK hN hP rfl hl.1 rfl (Nat.le_of_ble_eq_true rfl) dX10_readsWay_52 ⟨Nat.le_refl _, Nat.le_refl _⟩ (fun r5 H locs hw hP => ?_)
    refine lv_if_ne (tgt := 67) hx hb dX10_readsWay_55 (by decide) (fun h => ?_) (fun h => ?_)
    · replace hw := hw.1 h
      refine lv_aload_n hx hb dX10_readsWay_67 rfl (lv_at hl 3 rfl) ?_
      refine lv_dup hx hb dX10_readsWay_68 rfl ?_
      refine gR_10_23 hx hb hts i10 hown hK hP hR_0 (hts _ q_X10_readsWay_1) dX10_readsWay_69 ?_
      refine lv_iconst (v := 1) hx hb dX10_readsWay_72 (by decide) ?_
      refine lv_iadd hx hb dX10_readsWay_73 ?_
      refine pR_10_23 hx hb hts i10 hown hK hI hP hR_0 (hts _ q_X10_readsWay_1) dX10_readsWay_74 (fun H locs hP => ?_)
      obtain ⟨s6, hs6⟩ : ∃ u, u = ft_sF s4 0 23 ((s4.1 0 23) + 1) := ⟨_, rfl⟩
      rw [← hs6] at hP
      replace hw := hw s6 hs6
      refine lv_aload_n hx hb dX10_readsWay_77 rfl (lv_at hl 3 rfl) ?_
      refine cR_Vi (rest := []) ⟨hx, hb, hml, hown, hts⟩ (c_X10_here l Γ hI  s6 _ hw) (cwV 0 hts gX10_readsWay_X10_here rfl rfl rfl (by decide +kernel) ⟨Nat.le_of_ble_eq_true rfl, Nat.le_of_ble_eq_true rfl⟩) hK hN hP (cR_lt hR_0 (by decide)) (cR_E10 hR_0) rfl rfl rfl hl.1 rfl (Nat.le_of_ble_eq_true rfl) dX10_readsWay_78 ⟨Nat.le_refl _, Nat.le_refl _⟩ (fun r7 s8 H locs hw hP => ?_)
      refine lv_bipush (v := 48) hx hb dX10_readsWay_81 (by decide) ?_
      refine lv_isub hx hb dX10_readsWay_83 ?_
      refine lv_istore (lv' := [(4, .int (r7 - 48)), (3, .int (r3 - 97)), (2, .int x1), (1, .int (σ.1 0 23)), (0, .ref (Γ.2.2 0))]) hx hb dX10_readsWay_84 hl (by decide) rfl (fun ls hl => ?_)
      refine lv_iload hx hb dX10_readsWay_86 (lv_at hl 0 rfl) ?_
      refine cR_Sip (rest := []) ⟨hx, hb, hml, hown, hts⟩ (c_X10_isPlace l Γ hI (r7 - 48) s8 _ hw) (va_cwS 1 hts gX10_readsWay_X10_isPlace rfl rfl rfl (by decide +kernel) ⟨Nat.le_of_ble_eq_true rfl, Nat.le_of_ble_eq_true rfl⟩) hK hN hP rfl hl.1 rfl (Nat.le_of_ble_eq_true rfl) dX10_readsWay_88 ⟨Nat.le_refl _, Nat.le_refl _⟩ (fun r9 H locs hw hP => ?_)
      refine lv_if_ne (tgt := 103) hx hb dX10_readsWay_91 (by decide) (fun h => ?_) (fun h => ?_)
      · replace hw := hw.1 h
        refine lv_aload_n hx hb dX10_readsWay_103 rfl (lv_at hl 4 rfl) ?_
        refine lv_dup hx hb dX10_readsWay_104 rfl ?_
        refine gR_10_23 hx hb hts i10 hown hK hP hR_0 (hts _ q_X10_readsWay_1) dX10_readsWay_105 ?_
        refine lv_iconst (v := 1) hx hb dX10_readsWay_108 (by decide) ?_
        refine lv_iadd hx hb dX10_readsWay_109 ?_
        refine pR_10_23 hx hb hts i10 hown hK hI hP hR_0 (hts _ q_X10_readsWay_1) dX10_readsWay_110 (fun H locs hP => ?_)
        obtain ⟨s10, hs10⟩ : ∃ u, u = ft_sF s8 0 23 ((s8.1 0 23) + 1) := ⟨_, rfl⟩
        rw [← hs10] at hP
        replace hw := hw s10 hs10
        refine lv_aload_n hx hb dX10_readsWay_113 rfl (lv_at hl 4 rfl) ?_
        refine lv_iload_n hx hb dX10_readsWay_114 rfl (lv_at hl 2 rfl) ?_
        refine lv_iload_n hx hb dX10_readsWay_115 rfl (lv_at hl 1 rfl) ?_
        refine lv_iload hx hb dX10_readsWay_116 (lv_at hl 0 rfl) ?_
        refine cR_Vip (rest := []) ⟨hx, hb, hml, hown, hts⟩ (c_X10_isThere l Γ hI x1 (r3 - 97) (r7 - 48) s10 _ hw) (cwV 3 hts gX10_readsWay_X10_isThere rfl rfl rfl (by decide +kernel) ⟨Nat.le_of_ble_eq_true rfl, Nat.le_of_ble_eq_true rfl⟩) hK hN hP (cR_lt hR_0 (by decide)) (cR_E10 hR_0) rfl rfl rfl hl.1 rfl (Nat.le_of_ble_eq_true rfl) dX10_readsWay_118 ⟨Nat.le_refl _, Nat.le_refl _⟩ (fun r11 H locs hw hP => ?_)
        refine lv_if_eq (tgt := 130) hx hb dX10_readsWay_121 (by decide) (fun h => ?_) (fun h => ?_)
        · replace hw := hw.1 h
          refine lv_aload_n hx hb dX10_readsWay_130 rfl (lv_at hl 4 rfl) ?_
          refine lv_iload_n hx hb dX10_readsWay_131 rfl (lv_at hl 2 rfl) ?_
          refine lv_iload_n hx hb dX10_readsWay_132 rfl (lv_at hl 1 rfl) ?_
          refine lv_iload hx hb dX10_readsWay_133 (lv_at hl 0 rfl) ?_
          refine cR_Vv (rest := []) ⟨hx, hb, hml, hown, hts⟩ (c_X10_comesWay l Γ hI x1 (r3 - 97) (r7 - 48) s10 _ hw) (cwV 3 hts gX10_readsWay_X10_comesWay rfl rfl rfl (by decide +kernel) ⟨Nat.le_of_ble_eq_true rfl, Nat.le_of_ble_eq_true rfl⟩) hK hN hP (cR_lt hR_0 (by decide)) (cR_E10 hR_0) rfl rfl rfl hl.1 rfl (Nat.le_of_ble_eq_true rfl) dX10_readsWay_135 ⟨Nat.le_refl _, Nat.le_refl _⟩ (fun s12 H locs hw hP => ?_)
          refine lv_aload_n hx hb dX10_readsWay_138 rfl (lv_at hl 4 rfl) ?_
          refine cR_Vi (rest := []) ⟨hx, hb, hml, hown, hts⟩ (c_X10_ends l Γ hI  s12 _ hw) (cwV 0 hts gX10_readsWay_X10_ends rfl rfl rfl (by decide +kernel) ⟨Nat.le_of_ble_eq_true rfl, Nat.le_of_ble_eq_true rfl⟩) hK hN hP (cR_lt hR_0 (by decide)) (cR_E10 hR_0) rfl rfl rfl hl.1 rfl (Nat.le_of_ble_eq_true rfl) dX10_readsWay_139 ⟨Nat.le_refl _, Nat.le_refl _⟩ (fun r13 s14 H locs hw hP => ?_)
          exact W.zret hx hb hr (ft_bz_n hw.1) (cR_ri hP hw.2) hP.2.2.2 dX10_readsWay_142
        · replace hw := hw.2 h
          refine lv_aload_n hx hb dX10_readsWay_124 rfl (lv_at hl 4 rfl) ?_
          refine lv_iload_n hx hb dX10_readsWay_125 rfl (lv_at hl 3 rfl) ?_
          refine cR_Vi (rest := []) ⟨hx, hb, hml, hown, hts⟩ (c_X10_wrong l Γ hI (σ.1 0 23) s10 _ hw) (cwV 1 hts gX10_readsWay_X10_wrong rfl rfl rfl (by decide +kernel) ⟨Nat.le_of_ble_eq_true rfl, Nat.le_of_ble_eq_true rfl⟩) hK hN hP (cR_lt hR_0 (by decide)) (cR_E10 hR_0) rfl rfl rfl hl.1 rfl (Nat.le_of_ble_eq_true rfl) dX10_readsWay_126 ⟨Nat.le_refl _, Nat.le_refl _⟩ (fun r15 s16 H locs hw hP => ?_)
          exact W.zret hx hb hr (ft_bz_n hw.1) (cR_ri hP hw.2) hP.2.2.2 dX10_readsWay_129
      · replace hw := hw.2 h
        refine lv_aload_n hx hb dX10_readsWay_94 rfl (lv_at hl 4 rfl) ?_
        refine lv_aload_n hx hb dX10_readsWay_95 rfl (lv_at hl 4 rfl) ?_
        refine gR_10_23 hx hb hts i10 hown hK hP hR_0 (hts _ q_X10_readsWay_1) dX10_readsWay_96 ?_
        refine cR_Vi (rest := []) ⟨hx, hb, hml, hown, hts⟩ (c_X10_wrong l Γ hI (s8.1 0 23) s8 _ hw) (cwV 1 hts gX10_readsWay_X10_wrong rfl rfl rfl (by decide +kernel) ⟨Nat.le_of_ble_eq_true rfl, Nat.le_of_ble_eq_true rfl⟩) hK hN hP (cR_lt hR_0 (by decide)) (cR_E10 hR_0) rfl rfl rfl hl.1 rfl (Nat.le_of_ble_eq_true rfl) dX10_readsWay_99 ⟨Nat.le_refl _, Nat.le_refl _⟩ (fun r17 s18 H locs hw hP => ?_)
        exact W.zret hx hb hr (ft_bz_n hw.1) (cR_ri hP hw.2) hP.2.2.2 dX10_readsWay_102
    · replace hw := hw.2 h
      refine lv_aload_n hx hb dX10_readsWay_58 rfl (lv_at hl 3 rfl) ?_
      refine lv_aload_n hx hb dX10_readsWay_59 rfl (lv_at hl 3 rfl) ?_
      refine gR_10_23 hx hb hts i10 hown hK hP hR_0 (hts _ q_X10_readsWay_1) dX10_readsWay_60 ?_
      refine cR_Vi (rest := []) ⟨hx, hb, hml, hown, hts⟩ (c_X10_wrong l Γ hI (s4.1 0 23) s4 _ hw) (cwV 1 hts gX10_readsWay_X10_wrong rfl rfl rfl (by decide +kernel) ⟨Nat.le_of_ble_eq_true rfl, Nat.le_of_ble_eq_true rfl⟩) hK hN hP (cR_lt hR_0 (by decide)) (cR_E10 hR_0) rfl rfl rfl hl.1 rfl (Nat.le_of_ble_eq_true rfl) dX10_readsWay_63 ⟨Nat.le_refl _, Nat.le_refl _⟩ (fun r19 s20 H locs hw hP => ?_)
      exact W.zret hx hb hr (ft_bz_n hw.1) (cR_ri hP hw.2) hP.2.2.2 dX10_readsWay_66
  · replace hw := hw.2 h
    refine lv_aload_n hx hb dX10_readsWay_14 rfl (lv_at hl 1 rfl) ?_
    refine lv_iload_n hx hb dX10_readsWay_15 rfl (lv_at hl 0 rfl) ?_
    refine cR_Vi (rest := []) ⟨hx, hb, hml, hown, hts⟩ (c_X10_wrong l Γ hI (σ.1 0 23) σ _ hw) (cwV 1 hts gX10_readsWay_X10_wrong rfl rfl rfl (by decide +kernel) ⟨Nat.le_of_ble_eq_true rfl, Nat.le_of_ble_eq_true rfl⟩) hK hN hP (cR_lt hR_0 (by decide)) (cR_E10 hR_0) rfl rfl rfl hl.1 rfl (Nat.le_of_ble_eq_true rfl) dX10_readsWay_16 ⟨Nat.le_refl _, Nat.le_refl _⟩ (fun r21 s22 H locs hw hP => ?_)
    exact W.zret hx hb hr (ft_bz_n hw.1) (cR_ri hP hw.2) hP.2.2.2 dX10_readsWay_19
theorem q_X10_readsDeeds_1 : (Cond.fieldLink RX10 236 "FaultTwinsModel" "readAt" "I") ∈ wsX10_readsDeeds := List.mem_of_getElem? (i := 1) (by decide +kernel)
theorem q_X10_readsDeeds_2 : (Cond.fieldLink RX10 60 "FaultTwinsModel" "text" "[I") ∈ wsX10_readsDeeds := List.mem_of_getElem? (i := 2) (by decide +kernel)
theorem q_X10_readsDeeds_3 : (Cond.fieldLink RX10 73 "FaultTwinsModel" "faults" "I") ∈ wsX10_readsDeeds := List.mem_of_getElem? (i := 3) (by decide +kernel)
theorem q_X10_readsDeeds_4 : (Cond.fieldLink RX10 22 "FaultTwinsModel" "seen" "I") ∈ wsX10_readsDeeds := List.mem_of_getElem? (i := 4) (by decide +kernel)
set_option maxHeartbeats 4000000 in
set_option maxRecDepth 100000 in
theorem c_X10_readsDeeds (l : Launch) (Γ : ft_G) (hI : cR_I Γ) (a1 : Int32) (σ : ft_St) (Φ : Int32 → ft_St → Prop) (hw : w_X10_readsDeeds a1 σ Φ) : cR_Mi l yX10_readsDeeds wsX10_readsDeeds ({ frames := 2, cells := 0, slots := 0, locals := 42 } : Room) Γ σ [.ref (Γ.2.2 0), .int a1] Φ := by
  refine Met.ofW (cc := cX10_readsDeeds) (maxL := 3) (ret := (some .boolean)) (by decide) rfl ?_
  intro p e s m args below meth c s₁ B hml hv
  obtain ⟨rfl, hP, hK, hN⟩ := hv
  have hx := B.exec
  have hb := B.bytes
  have hr := B.returns
  have hts := atoms_spec (ws := wsX10_readsDeeds) B.pre
  have hown : s.vm.findClass RX10 = some m.cls := findClass_of_methodNamed B.named
  have hlocks := B.notSynchronized
  have i10 : ∀ w ∈ wsX100, w ∈ wsX10_readsDeeds := fun w h => List.mem_cons_of_mem _ (List.mem_append_right _ h)
  have hP : cR_P Γ s σ s.heap [] := ⟨hP, va_S.rf⟩
  have hl := lv_entry ([.ref (Γ.2.2 0), .int a1]) (n := 3) (Nat.le_of_ble_eq_true rfl)
  rw [lg_entry_eq]
  generalize (lg_sl ([.ref (Γ.2.2 0), .int a1]) ++ List.replicate (3 - (lg_sl ([.ref (Γ.2.2 0), .int a1])).length) Slot.unset).toArray = ls at hl ⊢
  have hl : lv_has ls 3 [(0, .ref (Γ.2.2 0)), (1, .int a1)] := hl
  unfold w_X10_readsDeeds at hw
  refine lv_aload_n hx hb dX10_readsDeeds_0 rfl (lv_at hl 0 rfl) ?_
  refine lv_dup hx hb dX10_readsDeeds_1 rfl ?_
  refine gR_10_23 hx hb hts i10 hown hK hP hR_0 (hts _ q_X10_readsDeeds_1) dX10_readsDeeds_2 ?_
  refine lv_iconst (v := 1) hx hb dX10_readsDeeds_5 (by decide) ?_
  refine lv_iadd hx hb dX10_readsDeeds_6 ?_
  refine pR_10_23 hx hb hts i10 hown hK hI hP hR_0 (hts _ q_X10_readsDeeds_1) dX10_readsDeeds_7 (fun H locs hP => ?_)
  obtain ⟨s1, hs1⟩ : ∃ u, u = ft_sF σ 0 23 ((σ.1 0 23) + 1) := ⟨_, rfl⟩
  rw [← hs1] at hP
  replace hw := hw s1 hs1
  refine lv_iconst (v := 0) hx hb dX10_readsDeeds_10 (by decide) ?_
  refine lv_istore_n (lv' := [(2, .int 0), (0, .ref (Γ.2.2 0)), (1, .int a1)]) hx hb dX10_readsDeeds_11 rfl hl (by decide) rfl (fun ls hl => ?_)
  refine hw (fun (x2 : Int32) (s3 : ft_St) => ∀ (H : Heap) (locs : List Loc) (ls : Array Slot), cR_P Γ s s3 H locs → lv_has ls 3 [(0, .ref (Γ.2.2 0)), (1, .int a1), (2, .int x2)] → cR_Wi p l e ({ frames := 2, cells := 0, slots := 0, locals := 42 } : Room) s m [.ref (Γ.2.2 0), .int a1] below meth c Γ Φ H locs 12 ls []) (fun x2 s3 hw H locs ls hP hl => ?_) _ _ _ hP (lv_sub hl [1, 2, 0] rfl)
  refine lv_aload_n hx hb dX10_readsDeeds_12 rfl (lv_at hl 0 rfl) ?_
  refine cR_Vi (rest := []) ⟨hx, hb, hml, hown, hts⟩ (c_X10_here l Γ hI  s3 _ hw) (cwV 0 hts gX10_readsDeeds_X10_here rfl rfl rfl (by decide +kernel) ⟨Nat.le_of_ble_eq_true rfl, Nat.le_of_ble_eq_true rfl⟩) hK hN hP (cR_lt hR_0 (by decide)) (cR_E10 hR_0) rfl rfl rfl hl.1 rfl (Nat.le_of_ble_eq_true rfl) dX10_readsDeeds_13 ⟨Nat.le_refl _, Nat.le_refl _⟩ (fun r5 s6 H locs hw hP => ?_)
  refine lv_bipush (v := 97) hx hb dX10_readsDeeds_16 (by decide) ?_
  refine lv_isub hx hb dX10_readsDeeds_18 ?_
  refine cR_Sip (rest := []) ⟨hx, hb, hml, hown, hts⟩ (c_X10_isDeed l Γ hI (r5 - 97) s6 _ hw) (va_cwS 1 hts gX10_readsDeeds_X10_isDeed rfl rfl rfl (by decide +kernel) ⟨Nat.le_of_ble_eq_true rfl, Nat.le_of_ble_eq_true rfl⟩) hK hN hP rfl hl.1 rfl (Nat.le_of_ble_eq_true rfl) dX10_readsDeeds_19 ⟨Nat.le_refl _, Nat.le_refl _⟩ (fun r7 H locs hw hP => ?_)
  refine lv_if_eq (tgt := 55) hx hb dX10_readsDeeds_22 (by decide) (fun h => ?_) (fun h => ?_)
  · replace hw := hw.1 h
    refine lv_aload_n hx hb dX10_readsDeeds_55 rfl (lv_at hl 0 rfl) ?_
    refine lv_iload_n hx hb dX10_readsDeeds_56 rfl (lv_at hl 1 rfl) ?_
    refine lv_bipush (v := 33) hx hb dX10_readsDeeds_57 (by decide) ?_
    refine ft_cut (hw (fun (x8 : Int32) => ∀ (H : Heap) (locs : List Loc) (ls : Array Slot), cR_P Γ s s6 H locs → lv_has ls 3 [(0, .ref (Γ.2.2 0)), (1, .int a1), (2, .int x2)] → cR_Wi p l e ({ frames := 2, cells := 0, slots := 0, locals := 42 } : Room) s m [.ref (Γ.2.2 0), .int a1] below meth c Γ Φ H locs 70 ls [.int x8, .ref (Γ.2.2 0)]) (fun x8 hw H locs ls hP hl => ?_)) (fun hw => ?_)
    · refine pR_10_6 hx hb hts i10 hown hK hI hP hR_0 (hts _ q_X10_readsDeeds_3) dX10_readsDeeds_70 (fun H locs hP => ?_)
      obtain ⟨s10, hs10⟩ : ∃ u, u = ft_sF s6 0 6 x8 := ⟨_, rfl⟩
      rw [← hs10] at hP
      replace hw := hw s10 hs10
      refine lv_aload_n hx hb dX10_readsDeeds_73 rfl (lv_at hl 0 rfl) ?_
      refine lv_iload_n hx hb dX10_readsDeeds_74 rfl (lv_at hl 1 rfl) ?_
      refine lv_bipush (v := 63) hx hb dX10_readsDeeds_75 (by decide) ?_
      refine ft_cut (hw (fun (x11 : Int32) => ∀ (H : Heap) (locs : List Loc) (ls : Array Slot), cR_P Γ s s10 H locs → lv_has ls 3 [(0, .ref (Γ.2.2 0))] → cR_Wi p l e ({ frames := 2, cells := 0, slots := 0, locals := 42 } : Room) s m [.ref (Γ.2.2 0), .int a1] below meth c Γ Φ H locs 94 ls [.int x11, .ref (Γ.2.2 0)]) (fun x11 hw H locs ls hP hl => ?_)) (fun hw => ?_)
      · refine pR_10_5 hx hb hts i10 hown hK hI hP hR_0 (hts _ q_X10_readsDeeds_4) dX10_readsDeeds_94 (fun H locs hP => ?_)
        obtain ⟨s13, hs13⟩ : ∃ u, u = ft_sF s10 0 5 x11 := ⟨_, rfl⟩
        rw [← hs13] at hP
        replace hw := hw s13 hs13
        refine lv_aload_n hx hb dX10_readsDeeds_97 rfl (lv_at hl 0 rfl) ?_
        refine cR_Vi (rest := []) ⟨hx, hb, hml, hown, hts⟩ (c_X10_ends l Γ hI  s13 _ hw) (cwV 0 hts gX10_readsDeeds_X10_ends rfl rfl rfl (by decide +kernel) ⟨Nat.le_of_ble_eq_true rfl, Nat.le_of_ble_eq_true rfl⟩) hK hN hP (cR_lt hR_0 (by decide)) (cR_E10 hR_0) rfl rfl rfl hl.1 rfl (Nat.le_of_ble_eq_true rfl) dX10_readsDeeds_98 ⟨Nat.le_refl _, Nat.le_refl _⟩ (fun r14 s15 H locs hw hP => ?_)
        exact W.zret hx hb hr (ft_bz_n hw.1) (cR_ri hP hw.2) hP.2.2.2 dX10_readsDeeds_101
      · refine lv_icmp_ne (tgt := 90) hx hb dX10_readsDeeds_77 (by decide) (fun h => ?_) (fun h => ?_)
        · replace hw := hw.1 h
          refine lv_aload_n hx hb dX10_readsDeeds_90 rfl (lv_at hl 0 rfl) ?_
          refine gR_10_5 hx hb hts i10 hown hK hP hR_0 (hts _ q_X10_readsDeeds_4) dX10_readsDeeds_91 ?_
          exact hw _ _ _ hP (lv_sub hl [0] rfl)
        · replace hw := hw.2 h
          refine lv_sipush (v := 255) hx hb dX10_readsDeeds_80 (by decide) ?_
          refine lv_iload_n hx hb dX10_readsDeeds_83 rfl (lv_at hl 2 rfl) ?_
          refine lv_iconst (v := (-1)) hx hb dX10_readsDeeds_84 (by decide) ?_
          refine lv_ixor hx hb dX10_readsDeeds_85 ?_
          refine lv_iand hx hb dX10_readsDeeds_86 ?_
          refine lv_goto (tgt := 94) hx hb dX10_readsDeeds_87 (by decide) ?_
          exact hw _ _ _ hP (lv_sub hl [0] rfl)
    · refine lv_icmp_ne (tgt := 66) hx hb dX10_readsDeeds_59 (by decide) (fun h => ?_) (fun h => ?_)
      · replace hw := hw.1 h
        refine lv_aload_n hx hb dX10_readsDeeds_66 rfl (lv_at hl 0 rfl) ?_
        refine gR_10_6 hx hb hts i10 hown hK hP hR_0 (hts _ q_X10_readsDeeds_3) dX10_readsDeeds_67 ?_
        exact hw _ _ _ hP (lv_sub hl [0, 1, 2] rfl)
      · replace hw := hw.2 h
        refine lv_iload_n hx hb dX10_readsDeeds_62 rfl (lv_at hl 2 rfl) ?_
        refine lv_goto (tgt := 70) hx hb dX10_readsDeeds_63 (by decide) ?_
        exact hw _ _ _ hP (lv_sub hl [0, 1, 2] rfl)
  · replace hw := hw.2 h
    refine lv_iload_n hx hb dX10_readsDeeds_25 rfl (lv_at hl 2 rfl) ?_
    refine lv_iconst (v := 1) hx hb dX10_readsDeeds_26 (by decide) ?_
    refine lv_aload_n hx hb dX10_readsDeeds_27 rfl (lv_at hl 0 rfl) ?_
    refine gR_10_21 hx hb hts i10 hown hK hP hR_0 (hts _ q_X10_readsDeeds_2) dX10_readsDeeds_28 ?_
    refine lv_aload_n hx hb dX10_readsDeeds_31 rfl (lv_at hl 0 rfl) ?_
    refine gR_10_23 hx hb hts i10 hown hK hP hR_0 (hts _ q_X10_readsDeeds_1) dX10_readsDeeds_32 ?_
    refine aR_ld hx hb hK hP hR_15 mR_15 hw.1 dX10_readsDeeds_35 ?_
    replace hw := hw.2
    refine lv_bipush (v := 97) hx hb dX10_readsDeeds_36 (by decide) ?_
    refine lv_isub hx hb dX10_readsDeeds_38 ?_
    refine lv_ishl hx hb dX10_readsDeeds_39 ?_
    refine lv_ior hx hb dX10_readsDeeds_40 ?_
    refine lv_topi (fun x16 ex16 => ?_)
    replace hw := hw x16 ex16
    refine lv_istore_n (lv' := [(2, .int x16), (0, .ref (Γ.2.2 0)), (1, .int a1)]) hx hb dX10_readsDeeds_41 rfl hl (by decide) rfl (fun ls hl => ?_)
    refine lv_aload_n hx hb dX10_readsDeeds_42 rfl (lv_at hl 1 rfl) ?_
    refine lv_dup hx hb dX10_readsDeeds_43 rfl ?_
    refine gR_10_23 hx hb hts i10 hown hK hP hR_0 (hts _ q_X10_readsDeeds_1) dX10_readsDeeds_44 ?_
    refine lv_iconst (v := 1) hx hb dX10_readsDeeds_47 (by decide) ?_
    refine lv_iadd hx hb dX10_readsDeeds_48 ?_
    refine pR_10_23 hx hb hts i10 hown hK hI hP hR_0 (hts _ q_X10_readsDeeds_1) dX10_readsDeeds_49 (fun H locs hP => ?_)
    obtain ⟨s17, hs17⟩ : ∃ u, u = ft_sF s6 0 23 ((s6.1 0 23) + 1) := ⟨_, rfl⟩
    rw [← hs17] at hP
    replace hw := hw s17 hs17
    refine lv_goto (tgt := 12) hx hb dX10_readsDeeds_52 (by decide) ?_
    exact hw _ _ _ hP (lv_sub hl [1, 2, 0] rfl)
theorem q_X10_readsOrder_1 : (Cond.fieldLink RX10 236 "FaultTwinsModel" "readAt" "I") ∈ wsX10_readsOrder := List.mem_of_getElem? (i := 1) (by decide +kernel)
set_option maxHeartbeats 4000000 in
set_option maxRecDepth 100000 in
theorem c_X10_readsOrder (l : Launch) (Γ : ft_G) (hI : cR_I Γ)  (σ : ft_St) (Φ : Int32 → ft_St → Prop) (hw : w_X10_readsOrder  σ Φ) : cR_Mi l yX10_readsOrder wsX10_readsOrder ({ frames := 3, cells := 0, slots := 0, locals := 66 } : Room) Γ σ [.ref (Γ.2.2 0)] Φ := by
  refine Met.ofW (cc := cX10_readsOrder) (maxL := 2) (ret := (some .boolean)) (by decide) rfl ?_
  intro p e s m args below meth c s₁ B hml hv
  obtain ⟨rfl, hP, hK, hN⟩ := hv
  have hx := B.exec
  have hb := B.bytes
  have hr := B.returns
  have hts := atoms_spec (ws := wsX10_readsOrder) B.pre
  have hown : s.vm.findClass RX10 = some m.cls := findClass_of_methodNamed B.named
  have hlocks := B.notSynchronized
  have i10 : ∀ w ∈ wsX100, w ∈ wsX10_readsOrder := fun w h => List.mem_cons_of_mem _ (List.mem_append_right _ h)
  have hP : cR_P Γ s σ s.heap [] := ⟨hP, va_S.rf⟩
  have hl := lv_entry ([.ref (Γ.2.2 0)]) (n := 2) (Nat.le_of_ble_eq_true rfl)
  rw [lg_entry_eq]
  generalize (lg_sl ([.ref (Γ.2.2 0)]) ++ List.replicate (2 - (lg_sl ([.ref (Γ.2.2 0)])).length) Slot.unset).toArray = ls at hl ⊢
  have hl : lv_has ls 2 [(0, .ref (Γ.2.2 0))] := hl
  unfold w_X10_readsOrder at hw
  refine lv_aload_n hx hb dX10_readsOrder_0 rfl (lv_at hl 0 rfl) ?_
  refine cR_Vi (rest := []) ⟨hx, hb, hml, hown, hts⟩ (c_X10_here l Γ hI  σ _ hw) (cwV 0 hts gX10_readsOrder_X10_here rfl rfl rfl (by decide +kernel) ⟨Nat.le_of_ble_eq_true rfl, Nat.le_of_ble_eq_true rfl⟩) hK hN hP (cR_lt hR_0 (by decide)) (cR_E10 hR_0) rfl rfl rfl hl.1 rfl (Nat.le_of_ble_eq_true rfl) dX10_readsOrder_1 ⟨Nat.le_refl _, Nat.le_refl _⟩ (fun r1 s2 H locs hw hP => ?_)
  refine lv_istore_n (lv' := [(1, .int r1), (0, .ref (Γ.2.2 0))]) hx hb dX10_readsOrder_4 rfl hl (by decide) rfl (fun ls hl => ?_)
  refine lv_iload_n hx hb dX10_readsOrder_5 rfl (lv_at hl 0 rfl) ?_
  refine lv_bipush (v := 33) hx hb dX10_readsOrder_6 (by decide) ?_
  refine ft_cut (hw (∀ (H : Heap) (locs : List Loc) (ls : Array Slot), cR_P Γ s s2 H locs → lv_has ls 2 [(0, .ref (Γ.2.2 0)), (1, .int r1)] → cR_Wi p l e ({ frames := 3, cells := 0, slots := 0, locals := 66 } : Room) s m [.ref (Γ.2.2 0)] below meth c Γ Φ H locs 17 ls []) (fun  hw H locs ls hP hl => ?_)) (fun hw => ?_)
  · refine lv_aload_n hx hb dX10_readsOrder_17 rfl (lv_at hl 0 rfl) ?_
    refine lv_iload_n hx hb dX10_readsOrder_18 rfl (lv_at hl 1 rfl) ?_
    refine cR_Vi (rest := []) ⟨hx, hb, hml, hown, hts⟩ (c_X10_readsDeeds l Γ hI r1 s2 _ hw) (cwV 1 hts gX10_readsOrder_X10_readsDeeds rfl rfl rfl (by decide +kernel) ⟨Nat.le_of_ble_eq_true rfl, Nat.le_of_ble_eq_true rfl⟩) hK hN hP (cR_lt hR_0 (by decide)) (cR_E10 hR_0) rfl rfl rfl hl.1 rfl (Nat.le_of_ble_eq_true rfl) dX10_readsOrder_19 ⟨Nat.le_refl _, Nat.le_refl _⟩ (fun r4 s5 H locs hw hP => ?_)
    exact W.zret hx hb hr (ft_bz_n hw.1) (cR_ri hP hw.2) hP.2.2.2 dX10_readsOrder_22
  · refine lv_icmp_eq (tgt := 17) hx hb dX10_readsOrder_8 (by decide) (fun h => ?_) (fun h => ?_)
    · replace hw := hw.1 h
      exact hw _ _ _ hP (lv_sub hl [1, 0] rfl)
    · replace hw := hw.2 h
      refine lv_iload_n hx hb dX10_readsOrder_11 rfl (lv_at hl 0 rfl) ?_
      refine lv_bipush (v := 63) hx hb dX10_readsOrder_12 (by decide) ?_
      refine lv_icmp_ne (tgt := 23) hx hb dX10_readsOrder_14 (by decide) (fun h => ?_) (fun h => ?_)
      · replace hw := hw.1 h
        refine lv_iload_n hx hb dX10_readsOrder_23 rfl (lv_at hl 0 rfl) ?_
        refine lv_bipush (v := 48) hx hb dX10_readsOrder_24 (by decide) ?_
        refine lv_isub hx hb dX10_readsOrder_26 ?_
        refine cR_Sip (rest := []) ⟨hx, hb, hml, hown, hts⟩ (c_X10_isPlace l Γ hI (r1 - 48) s2 _ hw) (va_cwS 1 hts gX10_readsOrder_X10_isPlace rfl rfl rfl (by decide +kernel) ⟨Nat.le_of_ble_eq_true rfl, Nat.le_of_ble_eq_true rfl⟩) hK hN hP rfl hl.1 rfl (Nat.le_of_ble_eq_true rfl) dX10_readsOrder_27 ⟨Nat.le_refl _, Nat.le_refl _⟩ (fun r6 H locs hw hP => ?_)
        refine lv_if_eq (tgt := 40) hx hb dX10_readsOrder_30 (by decide) (fun h => ?_) (fun h => ?_)
        · replace hw := hw.1 h
          refine lv_aload_n hx hb dX10_readsOrder_40 rfl (lv_at hl 1 rfl) ?_
          refine lv_aload_n hx hb dX10_readsOrder_41 rfl (lv_at hl 1 rfl) ?_
          refine gR_10_23 hx hb hts i10 hown hK hP hR_0 (hts _ q_X10_readsOrder_1) dX10_readsOrder_42 ?_
          refine cR_Vi (rest := []) ⟨hx, hb, hml, hown, hts⟩ (c_X10_wrong l Γ hI (s2.1 0 23) s2 _ hw) (cwV 1 hts gX10_readsOrder_X10_wrong rfl rfl rfl (by decide +kernel) ⟨Nat.le_of_ble_eq_true rfl, Nat.le_of_ble_eq_true rfl⟩) hK hN hP (cR_lt hR_0 (by decide)) (cR_E10 hR_0) rfl rfl rfl hl.1 rfl (Nat.le_of_ble_eq_true rfl) dX10_readsOrder_45 ⟨Nat.le_refl _, Nat.le_refl _⟩ (fun r7 s8 H locs hw hP => ?_)
          exact W.zret hx hb hr (ft_bz_n hw.1) (cR_ri hP hw.2) hP.2.2.2 dX10_readsOrder_48
        · replace hw := hw.2 h
          refine lv_aload_n hx hb dX10_readsOrder_33 rfl (lv_at hl 1 rfl) ?_
          refine cR_Vi (rest := []) ⟨hx, hb, hml, hown, hts⟩ (c_X10_readsWay l Γ hI  s2 _ hw) (cwV 0 hts gX10_readsOrder_X10_readsWay rfl rfl rfl (by decide +kernel) ⟨Nat.le_of_ble_eq_true rfl, Nat.le_of_ble_eq_true rfl⟩) hK hN hP (cR_lt hR_0 (by decide)) (cR_E10 hR_0) rfl rfl rfl hl.1 rfl (Nat.le_of_ble_eq_true rfl) dX10_readsOrder_34 ⟨Nat.le_refl _, Nat.le_refl _⟩ (fun r9 s10 H locs hw hP => ?_)
          refine lv_goto (tgt := 48) hx hb dX10_readsOrder_37 (by decide) ?_
          exact W.zret hx hb hr (ft_bz_n hw.1) (cR_ri hP hw.2) hP.2.2.2 dX10_readsOrder_48
      · replace hw := hw.2 h
        exact hw _ _ _ hP (lv_sub hl [1, 0] rfl)
theorem q_X10_reads_1 : (Cond.fieldLink RX10 236 "FaultTwinsModel" "readAt" "I") ∈ wsX10_reads := List.mem_of_getElem? (i := 1) (by decide +kernel)
theorem q_X10_reads_2 : (Cond.fieldLink RX10 233 "FaultTwinsModel" "size" "I") ∈ wsX10_reads := List.mem_of_getElem? (i := 2) (by decide +kernel)
theorem q_X10_reads_3 : (Cond.fieldLink RX10 70 "FaultTwinsModel" "many" "I") ∈ wsX10_reads := List.mem_of_getElem? (i := 3) (by decide +kernel)
theorem q_X10_reads_4 : (Cond.fieldLink RX10 22 "FaultTwinsModel" "seen" "I") ∈ wsX10_reads := List.mem_of_getElem? (i := 4) (by decide +kernel)
theorem q_X10_reads_5 : (Cond.fieldLink RX10 73 "FaultTwinsModel" "faults" "I") ∈ wsX10_reads := List.mem_of_getElem? (i := 5) (by decide +kernel)
theorem q_X10_reads_6 : (Cond.fieldLink RX10 239 "FaultTwinsModel" "faultAt" "I") ∈ wsX10_reads := List.mem_of_getElem? (i := 6) (by decide +kernel)
set_option maxHeartbeats 4000000 in
set_option maxRecDepth 100000 in
theorem c_X10_reads (l : Launch) (Γ : ft_G) (hI : cR_I Γ)  (σ : ft_St) (Φ : Int32 → ft_St → Prop) (hw : w_X10_reads  σ Φ) : cR_Mi l yX10_reads wsX10_reads ({ frames := 4, cells := 0, slots := 0, locals := 91 } : Room) Γ σ [.ref (Γ.2.2 0)] Φ := by
  refine Met.ofW (cc := cX10_reads) (maxL := 9) (ret := (some .int)) (by decide) rfl ?_
  intro p e s m args below meth c s₁ B hml hv
  obtain ⟨rfl, hP, hK, hN⟩ := hv
  have hx := B.exec
  have hb := B.bytes
  have hr := B.returns
  have hts := atoms_spec (ws := wsX10_reads) B.pre
  have hown : s.vm.findClass RX10 = some m.cls := findClass_of_methodNamed B.named
  have hlocks := B.notSynchronized
  have i10 : ∀ w ∈ wsX100, w ∈ wsX10_reads := fun w h => List.mem_cons_of_mem _ (List.mem_append_right _ h)
  have hP : cR_P Γ s σ s.heap [] := ⟨hP, va_S.rf⟩
  have hl := lv_entry ([.ref (Γ.2.2 0)]) (n := 9) (Nat.le_of_ble_eq_true rfl)
  rw [lg_entry_eq]
  generalize (lg_sl ([.ref (Γ.2.2 0)]) ++ List.replicate (9 - (lg_sl ([.ref (Γ.2.2 0)])).length) Slot.unset).toArray = ls at hl ⊢
  have hl : lv_has ls 9 [(0, .ref (Γ.2.2 0))] := hl
  unfold w_X10_reads at hw
  refine lv_aload_n hx hb dX10_reads_0 rfl (lv_at hl 0 rfl) ?_
  refine lv_iconst (v := 0) hx hb dX10_reads_1 (by decide) ?_
  refine pR_10_23 hx hb hts i10 hown hK hI hP hR_0 (hts _ q_X10_reads_1) dX10_reads_2 (fun H locs hP => ?_)
  obtain ⟨s1, hs1⟩ : ∃ u, u = ft_sF σ 0 23 0 := ⟨_, rfl⟩
  rw [← hs1] at hP
  replace hw := hw s1 hs1
  refine lv_aload_n hx hb dX10_reads_5 rfl (lv_at hl 0 rfl) ?_
  refine cR_Vi (rest := []) ⟨hx, hb, hml, hown, hts⟩ (c_X10_here l Γ hI  s1 _ hw) (cwV 0 hts gX10_reads_X10_here rfl rfl rfl (by decide +kernel) ⟨Nat.le_of_ble_eq_true rfl, Nat.le_of_ble_eq_true rfl⟩) hK hN hP (cR_lt hR_0 (by decide)) (cR_E10 hR_0) rfl rfl rfl hl.1 rfl (Nat.le_of_ble_eq_true rfl) dX10_reads_6 ⟨Nat.le_refl _, Nat.le_refl _⟩ (fun r2 s3 H locs hw hP => ?_)
  refine lv_iconst (v := (-1)) hx hb dX10_reads_9 (by decide) ?_
  refine lv_icmp_ne (tgt := 21) hx hb dX10_reads_10 (by decide) (fun h => ?_) (fun h => ?_)
  · replace hw := hw.1 h
    refine lv_aload_n hx hb dX10_reads_21 rfl (lv_at hl 0 rfl) ?_
    refine gR_10_1 hx hb hts i10 hown hK hP hR_0 (hts _ q_X10_reads_3) dX10_reads_22 ?_
    refine lv_istore_n (lv' := [(1, .int (s3.1 0 1)), (0, .ref (Γ.2.2 0))]) hx hb dX10_reads_25 rfl hl (by decide) rfl (fun ls hl => ?_)
    refine lv_aload_n hx hb dX10_reads_26 rfl (lv_at hl 1 rfl) ?_
    refine gR_10_5 hx hb hts i10 hown hK hP hR_0 (hts _ q_X10_reads_4) dX10_reads_27 ?_
    refine lv_istore_n (lv' := [(2, .int (s3.1 0 5)), (1, .int (s3.1 0 1)), (0, .ref (Γ.2.2 0))]) hx hb dX10_reads_30 rfl hl (by decide) rfl (fun ls hl => ?_)
    refine lv_aload_n hx hb dX10_reads_31 rfl (lv_at hl 2 rfl) ?_
    refine gR_10_6 hx hb hts i10 hown hK hP hR_0 (hts _ q_X10_reads_5) dX10_reads_32 ?_
    refine lv_istore_n (lv' := [(3, .int (s3.1 0 6)), (2, .int (s3.1 0 5)), (1, .int (s3.1 0 1)), (0, .ref (Γ.2.2 0))]) hx hb dX10_reads_35 rfl hl (by decide) rfl (fun ls hl => ?_)
    refine lv_iconst (v := 0) hx hb dX10_reads_36 (by decide) ?_
    refine lv_istore (lv' := [(4, .int 0), (3, .int (s3.1 0 6)), (2, .int (s3.1 0 5)), (1, .int (s3.1 0 1)), (0, .ref (Γ.2.2 0))]) hx hb dX10_reads_37 hl (by decide) rfl (fun ls hl => ?_)
    refine lv_iconst (v := 1) hx hb dX10_reads_39 (by decide) ?_
    refine lv_istore (lv' := [(5, .int 1), (4, .int 0), (3, .int (s3.1 0 6)), (2, .int (s3.1 0 5)), (1, .int (s3.1 0 1)), (0, .ref (Γ.2.2 0))]) hx hb dX10_reads_40 hl (by decide) rfl (fun ls hl => ?_)
    refine hw (fun (x4 : Int32) (x5 : Int32) (s6 : ft_St) => ∀ (H : Heap) (locs : List Loc) (ls : Array Slot), cR_P Γ s s6 H locs → lv_has ls 9 [(0, .ref (Γ.2.2 0)), (1, .int (s3.1 0 1)), (2, .int (s3.1 0 5)), (3, .int (s3.1 0 6)), (4, .int x4), (5, .int x5)] → cR_Wi p l e ({ frames := 4, cells := 0, slots := 0, locals := 91 } : Room) s m [.ref (Γ.2.2 0)] below meth c Γ Φ H locs 42 ls []) (fun x4 x5 s6 hw H locs ls hP hl => ?_) _ _ _ hP (lv_sub hl [5, 4, 3, 2, 1, 0] rfl)
    refine lv_iload hx hb dX10_reads_42 (lv_at hl 5 rfl) ?_
    refine ft_cut (hw (fun (s8 : ft_St) => ∀ (H : Heap) (locs : List Loc) (ls : Array Slot), cR_P Γ s s8 H locs → lv_has ls 9 [(0, .ref (Γ.2.2 0)), (1, .int (s3.1 0 1)), (2, .int (s3.1 0 5)), (3, .int (s3.1 0 6)), (4, .int x4), (5, .int x5)] → cR_Wi p l e ({ frames := 4, cells := 0, slots := 0, locals := 91 } : Room) s m [.ref (Γ.2.2 0)] below meth c Γ Φ H locs 67 ls []) (fun s8 hw H locs ls hP hl => ?_)) (fun hw => ?_)
    · refine lv_iload hx hb dX10_reads_67 (lv_at hl 5 rfl) ?_
      refine lv_if_ne (tgt := 95) hx hb dX10_reads_69 (by decide) (fun h => ?_) (fun h => ?_)
      · replace hw := hw.1 h
        refine lv_aload_n hx hb dX10_reads_95 rfl (lv_at hl 0 rfl) ?_
        refine gR_10_1 hx hb hts i10 hown hK hP hR_0 (hts _ q_X10_reads_3) dX10_reads_96 ?_
        refine lv_istore (lv' := [(6, .int (s8.1 0 1)), (0, .ref (Γ.2.2 0)), (1, .int (s3.1 0 1)), (2, .int (s3.1 0 5)), (3, .int (s3.1 0 6)), (4, .int x4), (5, .int x5)]) hx hb dX10_reads_99 hl (by decide) rfl (fun ls hl => ?_)
        refine lv_aload_n hx hb dX10_reads_101 rfl (lv_at hl 1 rfl) ?_
        refine gR_10_5 hx hb hts i10 hown hK hP hR_0 (hts _ q_X10_reads_4) dX10_reads_102 ?_
        refine lv_istore (lv' := [(7, .int (s8.1 0 5)), (6, .int (s8.1 0 1)), (0, .ref (Γ.2.2 0)), (1, .int (s3.1 0 1)), (2, .int (s3.1 0 5)), (3, .int (s3.1 0 6)), (4, .int x4), (5, .int x5)]) hx hb dX10_reads_105 hl (by decide) rfl (fun ls hl => ?_)
        refine lv_aload_n hx hb dX10_reads_107 rfl (lv_at hl 2 rfl) ?_
        refine gR_10_6 hx hb hts i10 hown hK hP hR_0 (hts _ q_X10_reads_5) dX10_reads_108 ?_
        refine lv_istore (lv' := [(8, .int (s8.1 0 6)), (7, .int (s8.1 0 5)), (6, .int (s8.1 0 1)), (0, .ref (Γ.2.2 0)), (1, .int (s3.1 0 1)), (2, .int (s3.1 0 5)), (3, .int (s3.1 0 6)), (4, .int x4), (5, .int x5)]) hx hb dX10_reads_111 hl (by decide) rfl (fun ls hl => ?_)
        refine lv_aload_n hx hb dX10_reads_113 rfl (lv_at hl 3 rfl) ?_
        refine lv_iload_n hx hb dX10_reads_114 rfl (lv_at hl 4 rfl) ?_
        refine pR_10_1 hx hb hts i10 hown hK hI hP hR_0 (hts _ q_X10_reads_3) dX10_reads_115 (fun H locs hP => ?_)
        obtain ⟨s10, hs10⟩ : ∃ u, u = ft_sF s8 0 1 (s3.1 0 1) := ⟨_, rfl⟩
        rw [← hs10] at hP
        replace hw := hw s10 hs10
        refine lv_aload_n hx hb dX10_reads_118 rfl (lv_at hl 3 rfl) ?_
        refine lv_iload_n hx hb dX10_reads_119 rfl (lv_at hl 5 rfl) ?_
        refine pR_10_5 hx hb hts i10 hown hK hI hP hR_0 (hts _ q_X10_reads_4) dX10_reads_120 (fun H locs hP => ?_)
        obtain ⟨s11, hs11⟩ : ∃ u, u = ft_sF s10 0 5 (s3.1 0 5) := ⟨_, rfl⟩
        rw [← hs11] at hP
        replace hw := hw s11 hs11
        refine lv_aload_n hx hb dX10_reads_123 rfl (lv_at hl 3 rfl) ?_
        refine lv_iload_n hx hb dX10_reads_124 rfl (lv_at hl 6 rfl) ?_
        refine pR_10_6 hx hb hts i10 hown hK hI hP hR_0 (hts _ q_X10_reads_5) dX10_reads_125 (fun H locs hP => ?_)
        obtain ⟨s12, hs12⟩ : ∃ u, u = ft_sF s11 0 6 (s3.1 0 6) := ⟨_, rfl⟩
        rw [← hs12] at hP
        replace hw := hw s12 hs12
        refine lv_aload_n hx hb dX10_reads_128 rfl (lv_at hl 3 rfl) ?_
        refine cR_Vv (rest := []) ⟨hx, hb, hml, hown, hts⟩ (c_X10_leavesState l Γ hI  s12 _ hw) (cwV 0 hts gX10_reads_X10_leavesState rfl rfl rfl (by decide +kernel) ⟨Nat.le_of_ble_eq_true rfl, Nat.le_of_ble_eq_true rfl⟩) hK hN hP (cR_lt hR_0 (by decide)) (cR_E10 hR_0) rfl rfl rfl hl.1 rfl (Nat.le_of_ble_eq_true rfl) dX10_reads_129 ⟨Nat.le_refl _, Nat.le_refl _⟩ (fun s13 H locs hw hP => ?_)
        refine lv_aload_n hx hb dX10_reads_132 rfl (lv_at hl 3 rfl) ?_
        refine lv_iload hx hb dX10_reads_133 (lv_at hl 2 rfl) ?_
        refine pR_10_1 hx hb hts i10 hown hK hI hP hR_0 (hts _ q_X10_reads_3) dX10_reads_135 (fun H locs hP => ?_)
        obtain ⟨s14, hs14⟩ : ∃ u, u = ft_sF s13 0 1 (s8.1 0 1) := ⟨_, rfl⟩
        rw [← hs14] at hP
        replace hw := hw s14 hs14
        refine lv_aload_n hx hb dX10_reads_138 rfl (lv_at hl 3 rfl) ?_
        refine lv_iload hx hb dX10_reads_139 (lv_at hl 1 rfl) ?_
        refine pR_10_5 hx hb hts i10 hown hK hI hP hR_0 (hts _ q_X10_reads_4) dX10_reads_141 (fun H locs hP => ?_)
        obtain ⟨s15, hs15⟩ : ∃ u, u = ft_sF s14 0 5 (s8.1 0 5) := ⟨_, rfl⟩
        rw [← hs15] at hP
        replace hw := hw s15 hs15
        refine lv_aload_n hx hb dX10_reads_144 rfl (lv_at hl 3 rfl) ?_
        refine lv_iload hx hb dX10_reads_145 (lv_at hl 0 rfl) ?_
        refine pR_10_6 hx hb hts i10 hown hK hI hP hR_0 (hts _ q_X10_reads_5) dX10_reads_147 (fun H locs hP => ?_)
        obtain ⟨s16, hs16⟩ : ∃ u, u = ft_sF s15 0 6 (s8.1 0 6) := ⟨_, rfl⟩
        rw [← hs16] at hP
        replace hw := hw s16 hs16
        refine lv_aload_n hx hb dX10_reads_150 rfl (lv_at hl 3 rfl) ?_
        refine cR_Vv (rest := []) ⟨hx, hb, hml, hown, hts⟩ (c_X10_begins l Γ hI  s16 _ hw) (cwV 0 hts gX10_reads_X10_begins rfl rfl rfl (by decide +kernel) ⟨Nat.le_of_ble_eq_true rfl, Nat.le_of_ble_eq_true rfl⟩) hK hN hP (cR_lt hR_0 (by decide)) (cR_E10 hR_0) rfl rfl rfl hl.1 rfl (Nat.le_of_ble_eq_true rfl) dX10_reads_151 ⟨Nat.le_refl _, Nat.le_refl _⟩ (fun s17 H locs hw hP => ?_)
        refine lv_iload hx hb dX10_reads_154 (lv_at hl 7 rfl) ?_
        exact W.iret hx hb hr (cR_ri hP hw) hP.2.2.2 dX10_reads_156
      · replace hw := hw.2 h
        refine lv_aload_n hx hb dX10_reads_72 rfl (lv_at hl 0 rfl) ?_
        refine lv_iload_n hx hb dX10_reads_73 rfl (lv_at hl 1 rfl) ?_
        refine pR_10_1 hx hb hts i10 hown hK hI hP hR_0 (hts _ q_X10_reads_3) dX10_reads_74 (fun H locs hP => ?_)
        obtain ⟨s18, hs18⟩ : ∃ u, u = ft_sF s8 0 1 (s3.1 0 1) := ⟨_, rfl⟩
        rw [← hs18] at hP
        replace hw := hw s18 hs18
        refine lv_aload_n hx hb dX10_reads_77 rfl (lv_at hl 0 rfl) ?_
        refine lv_iload_n hx hb dX10_reads_78 rfl (lv_at hl 2 rfl) ?_
        refine pR_10_5 hx hb hts i10 hown hK hI hP hR_0 (hts _ q_X10_reads_4) dX10_reads_79 (fun H locs hP => ?_)
        obtain ⟨s19, hs19⟩ : ∃ u, u = ft_sF s18 0 5 (s3.1 0 5) := ⟨_, rfl⟩
        rw [← hs19] at hP
        replace hw := hw s19 hs19
        refine lv_aload_n hx hb dX10_reads_82 rfl (lv_at hl 0 rfl) ?_
        refine lv_iload_n hx hb dX10_reads_83 rfl (lv_at hl 3 rfl) ?_
        refine pR_10_6 hx hb hts i10 hown hK hI hP hR_0 (hts _ q_X10_reads_5) dX10_reads_84 (fun H locs hP => ?_)
        obtain ⟨s20, hs20⟩ : ∃ u, u = ft_sF s19 0 6 (s3.1 0 6) := ⟨_, rfl⟩
        rw [← hs20] at hP
        replace hw := hw s20 hs20
        refine lv_bipush (v := (-10)) hx hb dX10_reads_87 (by decide) ?_
        refine lv_aload_n hx hb dX10_reads_89 rfl (lv_at hl 0 rfl) ?_
        refine gR_10_24 hx hb hts i10 hown hK hP hR_0 (hts _ q_X10_reads_6) dX10_reads_90 ?_
        refine lv_isub hx hb dX10_reads_93 ?_
        exact W.iret hx hb hr (cR_ri hP hw) hP.2.2.2 dX10_reads_94
    · refine lv_if_eq (tgt := 67) hx hb dX10_reads_44 (by decide) (fun h => ?_) (fun h => ?_)
      · replace hw := hw.1 h
        exact hw _ _ _ hP (lv_sub hl [0, 1, 2, 3, 4, 5] rfl)
      · replace hw := hw.2 h
        refine lv_aload_n hx hb dX10_reads_47 rfl (lv_at hl 0 rfl) ?_
        refine cR_Vi (rest := []) ⟨hx, hb, hml, hown, hts⟩ (c_X10_here l Γ hI  s6 _ hw) (cwV 0 hts gX10_reads_X10_here rfl rfl rfl (by decide +kernel) ⟨Nat.le_of_ble_eq_true rfl, Nat.le_of_ble_eq_true rfl⟩) hK hN hP (cR_lt hR_0 (by decide)) (cR_E10 hR_0) rfl rfl rfl hl.1 rfl (Nat.le_of_ble_eq_true rfl) dX10_reads_48 ⟨Nat.le_refl _, Nat.le_refl _⟩ (fun r21 s22 H locs hw hP => ?_)
        refine lv_iconst (v := (-1)) hx hb dX10_reads_51 (by decide) ?_
        refine lv_icmp_eq (tgt := 67) hx hb dX10_reads_52 (by decide) (fun h => ?_) (fun h => ?_)
        · replace hw := hw.1 h
          exact hw _ _ _ hP (lv_sub hl [0, 1, 2, 3, 4, 5] rfl)
        · replace hw := hw.2 h
          refine lv_aload_n hx hb dX10_reads_55 rfl (lv_at hl 0 rfl) ?_
          refine cR_Vi (rest := []) ⟨hx, hb, hml, hown, hts⟩ (c_X10_readsOrder l Γ hI  s22 _ hw) (cwV 0 hts gX10_reads_X10_readsOrder rfl rfl rfl (by decide +kernel) ⟨Nat.le_of_ble_eq_true rfl, Nat.le_of_ble_eq_true rfl⟩) hK hN hP (cR_lt hR_0 (by decide)) (cR_E10 hR_0) rfl rfl rfl hl.1 rfl (Nat.le_of_ble_eq_true rfl) dX10_reads_56 ⟨Nat.le_refl _, Nat.le_refl _⟩ (fun r23 s24 H locs hw hP => ?_)
          refine lv_istore (lv' := [(5, .int r23), (0, .ref (Γ.2.2 0)), (1, .int (s3.1 0 1)), (2, .int (s3.1 0 5)), (3, .int (s3.1 0 6)), (4, .int x4)]) hx hb dX10_reads_59 hl (by decide) rfl (fun ls hl => ?_)
          refine lv_iinc (v := x4 + 1) (lv' := [(4, .int (x4 + 1)), (5, .int r23), (0, .ref (Γ.2.2 0)), (1, .int (s3.1 0 1)), (2, .int (s3.1 0 5)), (3, .int (s3.1 0 6))]) hx hb dX10_reads_61 hl (k := 5) rfl (congrArg (fun z => x4 + z) (by decide)) (by decide) rfl (fun ls hl => ?_)
          refine lv_goto (tgt := 42) hx hb dX10_reads_64 (by decide) ?_
          exact hw _ _ _ hP (lv_sub hl [2, 3, 4, 5, 0, 1] rfl)
  · replace hw := hw.2 h
    refine lv_bipush (v := (-10)) hx hb dX10_reads_13 (by decide) ?_
    refine lv_aload_n hx hb dX10_reads_15 rfl (lv_at hl 0 rfl) ?_
    refine gR_10_22 hx hb hts i10 hown hK hP hR_0 (hts _ q_X10_reads_2) dX10_reads_16 ?_
    refine lv_isub hx hb dX10_reads_19 ?_
    exact W.iret hx hb hr (cR_ri hP hw) hP.2.2.2 dX10_reads_20
theorem q_X10_toldBy_1 : (Cond.fieldLink RX10 7 "FaultTwinsModel" "refused" "[I") ∈ wsX10_toldBy := List.mem_of_getElem? (i := 1) (by decide +kernel)
theorem q_X10_toldBy_2 : (Cond.fieldLink RX10 233 "FaultTwinsModel" "size" "I") ∈ wsX10_toldBy := List.mem_of_getElem? (i := 2) (by decide +kernel)
theorem q_X10_toldBy_3 : (Cond.fieldLink RX10 70 "FaultTwinsModel" "many" "I") ∈ wsX10_toldBy := List.mem_of_getElem? (i := 3) (by decide +kernel)
theorem q_X10_toldBy_4 : (Cond.fieldLink RX10 22 "FaultTwinsModel" "seen" "I") ∈ wsX10_toldBy := List.mem_of_getElem? (i := 4) (by decide +kernel)
theorem q_X10_toldBy_5 : (Cond.fieldLink RX10 73 "FaultTwinsModel" "faults" "I") ∈ wsX10_toldBy := List.mem_of_getElem? (i := 5) (by decide +kernel)
theorem q_X10_toldBy_6 : (Cond.fieldLink RX10 67 "FaultTwinsModel" "states" "I") ∈ wsX10_toldBy := List.mem_of_getElem? (i := 6) (by decide +kernel)
set_option maxHeartbeats 4000000 in
set_option maxRecDepth 100000 in
theorem c_X10_toldBy (l : Launch) (Γ : ft_G) (hI : cR_I Γ) (a1 : Int32) (σ : ft_St) (Φ : Int32 → Prop) (hw : w_X10_toldBy a1 σ Φ) : cR_Mip l yX10_toldBy wsX10_toldBy ({ frames := 0, cells := 0, slots := 0, locals := 0 } : Room) Γ σ [.ref (Γ.2.2 0), .int a1] Φ := by
  refine Met.ofW (cc := cX10_toldBy) (maxL := 2) (ret := (some .int)) (by decide) rfl ?_
  intro p e s m args below meth c s₁ B hml hv
  obtain ⟨rfl, hP, hK, hN⟩ := hv
  have hx := B.exec
  have hb := B.bytes
  have hr := B.returns
  have hts := atoms_spec (ws := wsX10_toldBy) B.pre
  have hown : s.vm.findClass RX10 = some m.cls := findClass_of_methodNamed B.named
  have hlocks := B.notSynchronized
  have i10 : ∀ w ∈ wsX100, w ∈ wsX10_toldBy := fun w h => List.mem_cons_of_mem _ (List.mem_append_right _ h)
  have hP : cR_P Γ s σ s.heap [] := ⟨hP, va_S.rf⟩
  have hl := lv_entry ([.ref (Γ.2.2 0), .int a1]) (n := 2) (Nat.le_of_ble_eq_true rfl)
  rw [lg_entry_eq]
  generalize (lg_sl ([.ref (Γ.2.2 0), .int a1]) ++ List.replicate (2 - (lg_sl ([.ref (Γ.2.2 0), .int a1])).length) Slot.unset).toArray = ls at hl ⊢
  have hl : lv_has ls 2 [(0, .ref (Γ.2.2 0)), (1, .int a1)] := hl
  unfold w_X10_toldBy at hw
  refine lv_iload_n hx hb dX10_toldBy_0 rfl (lv_at hl 1 rfl) ?_
  refine lv_iconst (v := 3) hx hb dX10_toldBy_1 (by decide) ?_
  refine lv_icmp_ge (tgt := 14) hx hb dX10_toldBy_2 (by decide) (fun h => ?_) (fun h => ?_)
  · replace hw := hw.1 h
    refine lv_iload_n hx hb dX10_toldBy_14 rfl (lv_at hl 1 rfl) ?_
    refine lv_iconst (v := 3) hx hb dX10_toldBy_15 (by decide) ?_
    refine lv_icmp_ne (tgt := 26) hx hb dX10_toldBy_16 (by decide) (fun h => ?_) (fun h => ?_)
    · replace hw := hw.1 h
      refine lv_iload_n hx hb dX10_toldBy_26 rfl (lv_at hl 1 rfl) ?_
      refine lv_iconst (v := 4) hx hb dX10_toldBy_27 (by decide) ?_
      refine lv_icmp_ne (tgt := 38) hx hb dX10_toldBy_28 (by decide) (fun h => ?_) (fun h => ?_)
      · replace hw := hw.1 h
        refine lv_iload_n hx hb dX10_toldBy_38 rfl (lv_at hl 1 rfl) ?_
        refine lv_iconst (v := 5) hx hb dX10_toldBy_39 (by decide) ?_
        refine lv_icmp_ne (tgt := 50) hx hb dX10_toldBy_40 (by decide) (fun h => ?_) (fun h => ?_)
        · replace hw := hw.1 h
          refine lv_iload_n hx hb dX10_toldBy_50 rfl (lv_at hl 1 rfl) ?_
          refine lv_bipush (v := 6) hx hb dX10_toldBy_51 (by decide) ?_
          refine lv_icmp_ne (tgt := 63) hx hb dX10_toldBy_53 (by decide) (fun h => ?_) (fun h => ?_)
          · replace hw := hw.1 h
            refine lv_aload_n hx hb dX10_toldBy_63 rfl (lv_at hl 0 rfl) ?_
            refine gR_10_10 hx hb hts i10 hown hK hP hR_0 (hts _ q_X10_toldBy_6) dX10_toldBy_64 ?_
            exact W.iret hx hb hr (cR_ri hP ⟨rfl, hw⟩) hP.2.2.2 dX10_toldBy_67
          · replace hw := hw.2 h
            refine lv_aload_n hx hb dX10_toldBy_56 rfl (lv_at hl 0 rfl) ?_
            refine gR_10_6 hx hb hts i10 hown hK hP hR_0 (hts _ q_X10_toldBy_5) dX10_toldBy_57 ?_
            refine lv_goto (tgt := 67) hx hb dX10_toldBy_60 (by decide) ?_
            exact W.iret hx hb hr (cR_ri hP ⟨rfl, hw⟩) hP.2.2.2 dX10_toldBy_67
        · replace hw := hw.2 h
          refine lv_aload_n hx hb dX10_toldBy_43 rfl (lv_at hl 0 rfl) ?_
          refine gR_10_5 hx hb hts i10 hown hK hP hR_0 (hts _ q_X10_toldBy_4) dX10_toldBy_44 ?_
          refine lv_goto (tgt := 67) hx hb dX10_toldBy_47 (by decide) ?_
          exact W.iret hx hb hr (cR_ri hP ⟨rfl, hw⟩) hP.2.2.2 dX10_toldBy_67
      · replace hw := hw.2 h
        refine lv_aload_n hx hb dX10_toldBy_31 rfl (lv_at hl 0 rfl) ?_
        refine gR_10_1 hx hb hts i10 hown hK hP hR_0 (hts _ q_X10_toldBy_3) dX10_toldBy_32 ?_
        refine lv_goto (tgt := 67) hx hb dX10_toldBy_35 (by decide) ?_
        exact W.iret hx hb hr (cR_ri hP ⟨rfl, hw⟩) hP.2.2.2 dX10_toldBy_67
    · replace hw := hw.2 h
      refine lv_aload_n hx hb dX10_toldBy_19 rfl (lv_at hl 0 rfl) ?_
      refine gR_10_22 hx hb hts i10 hown hK hP hR_0 (hts _ q_X10_toldBy_2) dX10_toldBy_20 ?_
      refine lv_goto (tgt := 67) hx hb dX10_toldBy_23 (by decide) ?_
      exact W.iret hx hb hr (cR_ri hP ⟨rfl, hw⟩) hP.2.2.2 dX10_toldBy_67
  · replace hw := hw.2 h
    refine lv_aload_n hx hb dX10_toldBy_5 rfl (lv_at hl 0 rfl) ?_
    refine gR_10_0 hx hb hts i10 hown hK hP hR_0 (hts _ q_X10_toldBy_1) dX10_toldBy_6 ?_
    refine lv_iload_n hx hb dX10_toldBy_9 rfl (lv_at hl 1 rfl) ?_
    refine aR_ld hx hb hK hP hR_1 mR_1 hw.1 dX10_toldBy_10 ?_
    replace hw := hw.2
    refine lv_goto (tgt := 67) hx hb dX10_toldBy_11 (by decide) ?_
    exact W.iret hx hb hr (cR_ri hP ⟨rfl, hw⟩) hP.2.2.2 dX10_toldBy_67
set_option maxHeartbeats 4000000 in
set_option maxRecDepth 100000 in
theorem c_X10_told (l : Launch) (Γ : ft_G) (hI : cR_I Γ) (a1 : Int32) (σ : ft_St) (Φ : Int32 → ft_St → Prop) (hw : w_X10_told a1 σ Φ) : cR_Mi l yX10_told wsX10_told ({ frames := 1, cells := 0, slots := 0, locals := 22 } : Room) Γ σ [.ref (Γ.2.2 0), .int a1] Φ := by
  refine Met.ofW (cc := cX10_told) (maxL := 2) (ret := (some .int)) (by decide) rfl ?_
  intro p e s m args below meth c s₁ B hml hv
  obtain ⟨rfl, hP, hK, hN⟩ := hv
  have hx := B.exec
  have hb := B.bytes
  have hr := B.returns
  have hts := atoms_spec (ws := wsX10_told) B.pre
  have hown : s.vm.findClass RX10 = some m.cls := findClass_of_methodNamed B.named
  have hlocks := B.notSynchronized
  have hP : cR_P Γ s σ s.heap [] := ⟨hP, va_S.rf⟩
  have hl := lv_entry ([.ref (Γ.2.2 0), .int a1]) (n := 2) (Nat.le_of_ble_eq_true rfl)
  rw [lg_entry_eq]
  generalize (lg_sl ([.ref (Γ.2.2 0), .int a1]) ++ List.replicate (2 - (lg_sl ([.ref (Γ.2.2 0), .int a1])).length) Slot.unset).toArray = ls at hl ⊢
  have hl : lv_has ls 2 [(0, .ref (Γ.2.2 0)), (1, .int a1)] := hl
  unfold w_X10_told at hw
  refine lv_iload_n hx hb dX10_told_0 rfl (lv_at hl 1 rfl) ?_
  refine lv_iconst (v := 0) hx hb dX10_told_1 (by decide) ?_
  refine lv_bipush (v := 7) hx hb dX10_told_2 (by decide) ?_
  refine cR_Sip (rest := []) ⟨hx, hb, hml, hown, hts⟩ (c_X10_in l Γ hI a1 0 7 σ _ hw) (va_cwS 3 hts gX10_told_X10_in rfl rfl rfl (by decide +kernel) ⟨Nat.le_of_ble_eq_true rfl, Nat.le_of_ble_eq_true rfl⟩) hK hN hP rfl hl.1 rfl (Nat.le_of_ble_eq_true rfl) dX10_told_4 ⟨Nat.le_refl _, Nat.le_refl _⟩ (fun r1 H locs hw hP => ?_)
  refine lv_if_eq (tgt := 18) hx hb dX10_told_7 (by decide) (fun h => ?_) (fun h => ?_)
  · replace hw := hw.1 h
    refine lv_aload_n hx hb dX10_told_18 rfl (lv_at hl 0 rfl) ?_
    refine cR_Vi (rest := []) ⟨hx, hb, hml, hown, hts⟩ (c_X10_bad l Γ hI  σ _ hw) (cwV 0 hts gX10_told_X10_bad rfl rfl rfl (by decide +kernel) ⟨Nat.le_of_ble_eq_true rfl, Nat.le_of_ble_eq_true rfl⟩) hK hN hP (cR_lt hR_0 (by decide)) (cR_E10 hR_0) rfl rfl rfl hl.1 rfl (Nat.le_of_ble_eq_true rfl) dX10_told_19 ⟨Nat.le_refl _, Nat.le_refl _⟩ (fun r2 s3 H locs hw hP => ?_)
    exact W.iret hx hb hr (cR_ri hP hw) hP.2.2.2 dX10_told_22
  · replace hw := hw.2 h
    refine lv_aload_n hx hb dX10_told_10 rfl (lv_at hl 0 rfl) ?_
    refine lv_iload_n hx hb dX10_told_11 rfl (lv_at hl 1 rfl) ?_
    refine cR_Vip (rest := []) ⟨hx, hb, hml, hown, hts⟩ (c_X10_toldBy l Γ hI a1 σ _ hw) (cwV 1 hts gX10_told_X10_toldBy rfl rfl rfl (by decide +kernel) ⟨Nat.le_of_ble_eq_true rfl, Nat.le_of_ble_eq_true rfl⟩) hK hN hP (cR_lt hR_0 (by decide)) (cR_E10 hR_0) rfl rfl rfl hl.1 rfl (Nat.le_of_ble_eq_true rfl) dX10_told_12 ⟨Nat.le_refl _, Nat.le_refl _⟩ (fun r4 H locs hw hP => ?_)
    refine lv_goto (tgt := 22) hx hb dX10_told_15 (by decide) ?_
    exact W.iret hx hb hr (cR_ri hP hw) hP.2.2.2 dX10_told_22
theorem q_X10_digest_1 : (Cond.constantLong RX10 263 (2203)) ∈ wsX10_digest := List.mem_of_getElem? (i := 1) (by decide +kernel)
theorem q_X10_digest_2 : (Cond.constantLong RX10 265 (31)) ∈ wsX10_digest := List.mem_of_getElem? (i := 2) (by decide +kernel)
theorem q_X10_digest_3 : (Cond.fieldLink RX10 70 "FaultTwinsModel" "many" "I") ∈ wsX10_digest := List.mem_of_getElem? (i := 3) (by decide +kernel)
theorem q_X10_digest_4 : (Cond.fieldLink RX10 13 "FaultTwinsModel" "from" "[I") ∈ wsX10_digest := List.mem_of_getElem? (i := 4) (by decide +kernel)
theorem q_X10_digest_5 : (Cond.fieldLink RX10 16 "FaultTwinsModel" "by" "[I") ∈ wsX10_digest := List.mem_of_getElem? (i := 5) (by decide +kernel)
theorem q_X10_digest_6 : (Cond.fieldLink RX10 19 "FaultTwinsModel" "to" "[I") ∈ wsX10_digest := List.mem_of_getElem? (i := 6) (by decide +kernel)
set_option maxHeartbeats 4000000 in
set_option maxRecDepth 100000 in
theorem c_X10_digest (l : Launch) (Γ : ft_G) (hI : cR_I Γ)  (σ : ft_St) (Φ : Int64 → ft_St → Prop) (hw : w_X10_digest  σ Φ) : cR_Ml l yX10_digest wsX10_digest ({ frames := 6, cells := 0, slots := 0, locals := 137 } : Room) Γ σ [.ref (Γ.2.2 0)] Φ := by
  refine Met.ofW (cc := cX10_digest) (maxL := 4) (ret := (some .long)) (by decide) rfl ?_
  intro p e s m args below meth c s₁ B hml hv
  obtain ⟨rfl, hP, hK, hN⟩ := hv
  have hx := B.exec
  have hb := B.bytes
  have hr := B.returns
  have hts := atoms_spec (ws := wsX10_digest) B.pre
  have hown : s.vm.findClass RX10 = some m.cls := findClass_of_methodNamed B.named
  have hlocks := B.notSynchronized
  have i10 : ∀ w ∈ wsX100, w ∈ wsX10_digest := fun w h => List.mem_cons_of_mem _ (List.mem_append_right _ h)
  have hP : cR_P Γ s σ s.heap [] := ⟨hP, va_S.rf⟩
  have hl := lv_entry ([.ref (Γ.2.2 0)]) (n := 4) (Nat.le_of_ble_eq_true rfl)
  rw [lg_entry_eq]
  generalize (lg_sl ([.ref (Γ.2.2 0)]) ++ List.replicate (4 - (lg_sl ([.ref (Γ.2.2 0)])).length) Slot.unset).toArray = ls at hl ⊢
  have hl : lv_has ls 4 [(0, .ref (Γ.2.2 0))] := hl
  unfold w_X10_digest at hw
  refine lv_ldc2 hx hb hown (hts _ q_X10_digest_1) dX10_digest_0 ?_
  refine lv_lstore_n (lv' := [(1, .long 2203), (0, .ref (Γ.2.2 0))]) hx hb dX10_digest_3 rfl hl (by decide) rfl (fun ls hl => ?_)
  refine lv_iconst (v := 0) hx hb dX10_digest_4 (by decide) ?_
  refine lv_istore_n (lv' := [(3, .int 0), (1, .long 2203), (0, .ref (Γ.2.2 0))]) hx hb dX10_digest_5 rfl hl (by decide) rfl (fun ls hl => ?_)
  refine hw (fun (y1 : Int64) (x2 : Int32) => ∀ (H : Heap) (locs : List Loc) (ls : Array Slot), cR_P Γ s σ H locs → lv_has ls 4 [(0, .ref (Γ.2.2 0)), (1, .long y1), (3, .int x2)] → cR_Wl p l e ({ frames := 6, cells := 0, slots := 0, locals := 137 } : Room) s m [.ref (Γ.2.2 0)] below meth c Γ Φ H locs 6 ls []) (fun y1 x2 hw H locs ls hP hl => ?_) _ _ _ hP (lv_sub hl [2, 1, 0] rfl)
  refine lv_iload_n hx hb dX10_digest_6 rfl (lv_at hl 2 rfl) ?_
  refine lv_bipush (v := 8) hx hb dX10_digest_7 (by decide) ?_
  refine lv_icmp_ge (tgt := 31) hx hb dX10_digest_9 (by decide) (fun h => ?_) (fun h => ?_)
  · replace hw := hw.1 h
    refine lv_iconst (v := 0) hx hb dX10_digest_31 (by decide) ?_
    refine lv_istore_n (lv' := [(3, .int 0), (0, .ref (Γ.2.2 0)), (1, .long y1)]) hx hb dX10_digest_32 rfl hl (by decide) rfl (fun ls hl => ?_)
    refine hw (fun (y4 : Int64) (x5 : Int32) => ∀ (H : Heap) (locs : List Loc) (ls : Array Slot), cR_P Γ s σ H locs → lv_has ls 4 [(0, .ref (Γ.2.2 0)), (1, .long y4), (3, .int x5)] → cR_Wl p l e ({ frames := 6, cells := 0, slots := 0, locals := 137 } : Room) s m [.ref (Γ.2.2 0)] below meth c Γ Φ H locs 33 ls []) (fun y4 x5 hw H locs ls hP hl => ?_) _ _ _ hP (lv_sub hl [1, 2, 0] rfl)
    refine lv_iload_n hx hb dX10_digest_33 rfl (lv_at hl 2 rfl) ?_
    refine lv_aload_n hx hb dX10_digest_34 rfl (lv_at hl 0 rfl) ?_
    refine gR_10_1 hx hb hts i10 hown hK hP hR_0 (hts _ q_X10_digest_3) dX10_digest_35 ?_
    refine lv_icmp_ge (tgt := 89) hx hb dX10_digest_38 (by decide) (fun h => ?_) (fun h => ?_)
    · replace hw := hw.1 h
      refine lv_iconst (v := 0) hx hb dX10_digest_89 (by decide) ?_
      refine lv_istore_n (lv' := [(3, .int 0), (0, .ref (Γ.2.2 0)), (1, .long y4)]) hx hb dX10_digest_90 rfl hl (by decide) rfl (fun ls hl => ?_)
      refine hw (fun (y7 : Int64) (x8 : Int32) => ∀ (H : Heap) (locs : List Loc) (ls : Array Slot), cR_P Γ s σ H locs → lv_has ls 4 [(0, .ref (Γ.2.2 0)), (1, .long y7), (3, .int x8)] → cR_Wl p l e ({ frames := 6, cells := 0, slots := 0, locals := 137 } : Room) s m [.ref (Γ.2.2 0)] below meth c Γ Φ H locs 91 ls []) (fun y7 x8 hw H locs ls hP hl => ?_) _ _ _ hP (lv_sub hl [1, 2, 0] rfl)
      refine lv_iload_n hx hb dX10_digest_91 rfl (lv_at hl 2 rfl) ?_
      refine lv_iconst (v := 4) hx hb dX10_digest_92 (by decide) ?_
      refine lv_icmp_ge (tgt := 115) hx hb dX10_digest_93 (by decide) (fun h => ?_) (fun h => ?_)
      · replace hw := hw.1 h
        refine lv_ldc2 hx hb hown (hts _ q_X10_digest_2) dX10_digest_115 ?_
        refine lv_lload_n hx hb dX10_digest_118 rfl (lv_at hl 1 rfl) ?_
        refine lv_lmul hx hb dX10_digest_119 ?_
        refine lv_aload_n hx hb dX10_digest_120 rfl (lv_at hl 0 rfl) ?_
        refine lv_iconst (v := 0) hx hb dX10_digest_121 (by decide) ?_
        refine cR_Vi (rest := [.long (31 * y7)]) ⟨hx, hb, hml, hown, hts⟩ (c_X10_allBy l Γ hI 0 σ _ hw) (cwV 1 hts gX10_digest_X10_allBy rfl rfl rfl (by decide +kernel) ⟨Nat.le_of_ble_eq_true rfl, Nat.le_of_ble_eq_true rfl⟩) hK hN hP (cR_lt hR_0 (by decide)) (cR_E10 hR_0) rfl rfl rfl hl.1 rfl (Nat.le_of_ble_eq_true rfl) dX10_digest_122 ⟨Nat.le_refl _, Nat.le_refl _⟩ (fun r10 s11 H locs hw hP => ?_)
        refine lv_i2l hx hb dX10_digest_125 rfl ?_
        refine lv_ladd hx hb dX10_digest_126 ?_
        refine lv_topl (fun y12 ey12 => ?_)
        replace hw := hw y12 ey12
        refine lv_lstore_n (lv' := [(1, .long y12), (0, .ref (Γ.2.2 0)), (3, .int x8)]) hx hb dX10_digest_127 rfl hl (by decide) rfl (fun ls hl => ?_)
        refine lv_ldc2 hx hb hown (hts _ q_X10_digest_2) dX10_digest_128 ?_
        refine lv_lload_n hx hb dX10_digest_131 rfl (lv_at hl 0 rfl) ?_
        refine lv_lmul hx hb dX10_digest_132 ?_
        refine lv_aload_n hx hb dX10_digest_133 rfl (lv_at hl 1 rfl) ?_
        refine lv_iconst (v := 4) hx hb dX10_digest_134 (by decide) ?_
        refine cR_Vi (rest := [.long (31 * y12)]) ⟨hx, hb, hml, hown, hts⟩ (c_X10_allBy l Γ hI 4 s11 _ hw) (cwV 1 hts gX10_digest_X10_allBy rfl rfl rfl (by decide +kernel) ⟨Nat.le_of_ble_eq_true rfl, Nat.le_of_ble_eq_true rfl⟩) hK hN hP (cR_lt hR_0 (by decide)) (cR_E10 hR_0) rfl rfl rfl hl.1 rfl (Nat.le_of_ble_eq_true rfl) dX10_digest_135 ⟨Nat.le_refl _, Nat.le_refl _⟩ (fun r13 s14 H locs hw hP => ?_)
        refine lv_i2l hx hb dX10_digest_138 rfl ?_
        refine lv_ladd hx hb dX10_digest_139 ?_
        refine lv_topl (fun y15 ey15 => ?_)
        replace hw := hw y15 ey15
        refine lv_lstore_n (lv' := [(1, .long y15), (0, .ref (Γ.2.2 0)), (3, .int x8)]) hx hb dX10_digest_140 rfl hl (by decide) rfl (fun ls hl => ?_)
        refine lv_ldc2 hx hb hown (hts _ q_X10_digest_2) dX10_digest_141 ?_
        refine lv_lload_n hx hb dX10_digest_144 rfl (lv_at hl 0 rfl) ?_
        refine lv_lmul hx hb dX10_digest_145 ?_
        refine lv_aload_n hx hb dX10_digest_146 rfl (lv_at hl 1 rfl) ?_
        refine lv_iconst (v := 5) hx hb dX10_digest_147 (by decide) ?_
        refine cR_Vi (rest := [.long (31 * y15)]) ⟨hx, hb, hml, hown, hts⟩ (c_X10_allBy l Γ hI 5 s14 _ hw) (cwV 1 hts gX10_digest_X10_allBy rfl rfl rfl (by decide +kernel) ⟨Nat.le_of_ble_eq_true rfl, Nat.le_of_ble_eq_true rfl⟩) hK hN hP (cR_lt hR_0 (by decide)) (cR_E10 hR_0) rfl rfl rfl hl.1 rfl (Nat.le_of_ble_eq_true rfl) dX10_digest_148 ⟨Nat.le_refl _, Nat.le_refl _⟩ (fun r16 s17 H locs hw hP => ?_)
        refine lv_i2l hx hb dX10_digest_151 rfl ?_
        refine lv_ladd hx hb dX10_digest_152 ?_
        refine lv_topl (fun y18 ey18 => ?_)
        replace hw := hw y18 ey18
        refine lv_lstore_n (lv' := [(1, .long y18), (0, .ref (Γ.2.2 0)), (3, .int x8)]) hx hb dX10_digest_153 rfl hl (by decide) rfl (fun ls hl => ?_)
        refine lv_ldc2 hx hb hown (hts _ q_X10_digest_2) dX10_digest_154 ?_
        refine lv_lload_n hx hb dX10_digest_157 rfl (lv_at hl 0 rfl) ?_
        refine lv_lmul hx hb dX10_digest_158 ?_
        refine lv_aload_n hx hb dX10_digest_159 rfl (lv_at hl 1 rfl) ?_
        refine lv_iconst (v := 0) hx hb dX10_digest_160 (by decide) ?_
        refine cR_Vi (rest := [.long (31 * y18)]) ⟨hx, hb, hml, hown, hts⟩ (c_X10_apartBy l Γ hI 0 s17 _ hw) (cwV 1 hts gX10_digest_X10_apartBy rfl rfl rfl (by decide +kernel) ⟨Nat.le_of_ble_eq_true rfl, Nat.le_of_ble_eq_true rfl⟩) hK hN hP (cR_lt hR_0 (by decide)) (cR_E10 hR_0) rfl rfl rfl hl.1 rfl (Nat.le_of_ble_eq_true rfl) dX10_digest_161 ⟨Nat.le_refl _, Nat.le_refl _⟩ (fun r19 s20 H locs hw hP => ?_)
        refine lv_i2l hx hb dX10_digest_164 rfl ?_
        refine lv_ladd hx hb dX10_digest_165 ?_
        refine lv_topl (fun y21 ey21 => ?_)
        replace hw := hw y21 ey21
        refine lv_lstore_n (lv' := [(1, .long y21), (0, .ref (Γ.2.2 0)), (3, .int x8)]) hx hb dX10_digest_166 rfl hl (by decide) rfl (fun ls hl => ?_)
        refine lv_ldc2 hx hb hown (hts _ q_X10_digest_2) dX10_digest_167 ?_
        refine lv_lload_n hx hb dX10_digest_170 rfl (lv_at hl 0 rfl) ?_
        refine lv_lmul hx hb dX10_digest_171 ?_
        refine lv_aload_n hx hb dX10_digest_172 rfl (lv_at hl 1 rfl) ?_
        refine lv_iconst (v := 1) hx hb dX10_digest_173 (by decide) ?_
        refine cR_Vi (rest := [.long (31 * y21)]) ⟨hx, hb, hml, hown, hts⟩ (c_X10_apartBy l Γ hI 1 s20 _ hw) (cwV 1 hts gX10_digest_X10_apartBy rfl rfl rfl (by decide +kernel) ⟨Nat.le_of_ble_eq_true rfl, Nat.le_of_ble_eq_true rfl⟩) hK hN hP (cR_lt hR_0 (by decide)) (cR_E10 hR_0) rfl rfl rfl hl.1 rfl (Nat.le_of_ble_eq_true rfl) dX10_digest_174 ⟨Nat.le_refl _, Nat.le_refl _⟩ (fun r22 s23 H locs hw hP => ?_)
        refine lv_i2l hx hb dX10_digest_177 rfl ?_
        refine lv_ladd hx hb dX10_digest_178 ?_
        exact W.lret hx hb hr (cR_rl hP hw) hP.2.2.2 dX10_digest_179
      · replace hw := hw.2 h
        refine lv_ldc2 hx hb hown (hts _ q_X10_digest_2) dX10_digest_96 ?_
        refine lv_lload_n hx hb dX10_digest_99 rfl (lv_at hl 1 rfl) ?_
        refine lv_lmul hx hb dX10_digest_100 ?_
        refine lv_aload_n hx hb dX10_digest_101 rfl (lv_at hl 0 rfl) ?_
        refine lv_iload_n hx hb dX10_digest_102 rfl (lv_at hl 2 rfl) ?_
        refine cR_Vip (rest := [.long (31 * y7)]) ⟨hx, hb, hml, hown, hts⟩ (c_X10_knownBy l Γ hI x8 σ _ hw) (cwV 1 hts gX10_digest_X10_knownBy rfl rfl rfl (by decide +kernel) ⟨Nat.le_of_ble_eq_true rfl, Nat.le_of_ble_eq_true rfl⟩) hK hN hP (cR_lt hR_0 (by decide)) (cR_E10 hR_0) rfl rfl rfl hl.1 rfl (Nat.le_of_ble_eq_true rfl) dX10_digest_103 ⟨Nat.le_refl _, Nat.le_refl _⟩ (fun r24 H locs hw hP => ?_)
        refine lv_i2l hx hb dX10_digest_106 rfl ?_
        refine lv_ladd hx hb dX10_digest_107 ?_
        refine lv_topl (fun y25 ey25 => ?_)
        replace hw := hw y25 ey25
        refine lv_lstore_n (lv' := [(1, .long y25), (0, .ref (Γ.2.2 0)), (3, .int x8)]) hx hb dX10_digest_108 rfl hl (by decide) rfl (fun ls hl => ?_)
        refine lv_iinc (v := x8 + 1) (lv' := [(3, .int (x8 + 1)), (1, .long y25), (0, .ref (Γ.2.2 0))]) hx hb dX10_digest_109 hl (k := 2) rfl (congrArg (fun z => x8 + z) (by decide)) (by decide) rfl (fun ls hl => ?_)
        refine lv_goto (tgt := 91) hx hb dX10_digest_112 (by decide) ?_
        exact hw _ _ _ hP (lv_sub hl [2, 1, 0] rfl)
    · replace hw := hw.2 h
      refine lv_ldc2 hx hb hown (hts _ q_X10_digest_2) dX10_digest_41 ?_
      refine lv_lload_n hx hb dX10_digest_44 rfl (lv_at hl 1 rfl) ?_
      refine lv_lmul hx hb dX10_digest_45 ?_
      refine lv_aload_n hx hb dX10_digest_46 rfl (lv_at hl 0 rfl) ?_
      refine gR_10_2 hx hb hts i10 hown hK hP hR_0 (hts _ q_X10_digest_4) dX10_digest_47 ?_
      refine lv_iload_n hx hb dX10_digest_50 rfl (lv_at hl 2 rfl) ?_
      refine aR_ld hx hb hK hP hR_2 mR_2 hw.1 dX10_digest_51 ?_
      replace hw := hw.2
      refine lv_i2l hx hb dX10_digest_52 rfl ?_
      refine lv_ladd hx hb dX10_digest_53 ?_
      refine lv_topl (fun y26 ey26 => ?_)
      replace hw := hw y26 ey26
      refine lv_lstore_n (lv' := [(1, .long y26), (0, .ref (Γ.2.2 0)), (3, .int x5)]) hx hb dX10_digest_54 rfl hl (by decide) rfl (fun ls hl => ?_)
      refine lv_ldc2 hx hb hown (hts _ q_X10_digest_2) dX10_digest_55 ?_
      refine lv_lload_n hx hb dX10_digest_58 rfl (lv_at hl 0 rfl) ?_
      refine lv_lmul hx hb dX10_digest_59 ?_
      refine lv_aload_n hx hb dX10_digest_60 rfl (lv_at hl 1 rfl) ?_
      refine gR_10_3 hx hb hts i10 hown hK hP hR_0 (hts _ q_X10_digest_5) dX10_digest_61 ?_
      refine lv_iload_n hx hb dX10_digest_64 rfl (lv_at hl 2 rfl) ?_
      refine aR_ld hx hb hK hP hR_3 mR_3 hw.1 dX10_digest_65 ?_
      replace hw := hw.2
      refine lv_i2l hx hb dX10_digest_66 rfl ?_
      refine lv_ladd hx hb dX10_digest_67 ?_
      refine lv_topl (fun y27 ey27 => ?_)
      replace hw := hw y27 ey27
      refine lv_lstore_n (lv' := [(1, .long y27), (0, .ref (Γ.2.2 0)), (3, .int x5)]) hx hb dX10_digest_68 rfl hl (by decide) rfl (fun ls hl => ?_)
      refine lv_ldc2 hx hb hown (hts _ q_X10_digest_2) dX10_digest_69 ?_
      refine lv_lload_n hx hb dX10_digest_72 rfl (lv_at hl 0 rfl) ?_
      refine lv_lmul hx hb dX10_digest_73 ?_
      refine lv_aload_n hx hb dX10_digest_74 rfl (lv_at hl 1 rfl) ?_
      refine gR_10_4 hx hb hts i10 hown hK hP hR_0 (hts _ q_X10_digest_6) dX10_digest_75 ?_
      refine lv_iload_n hx hb dX10_digest_78 rfl (lv_at hl 2 rfl) ?_
      refine aR_ld hx hb hK hP hR_4 mR_4 hw.1 dX10_digest_79 ?_
      replace hw := hw.2
      refine lv_i2l hx hb dX10_digest_80 rfl ?_
      refine lv_ladd hx hb dX10_digest_81 ?_
      refine lv_topl (fun y28 ey28 => ?_)
      replace hw := hw y28 ey28
      refine lv_lstore_n (lv' := [(1, .long y28), (0, .ref (Γ.2.2 0)), (3, .int x5)]) hx hb dX10_digest_82 rfl hl (by decide) rfl (fun ls hl => ?_)
      refine lv_iinc (v := x5 + 1) (lv' := [(3, .int (x5 + 1)), (1, .long y28), (0, .ref (Γ.2.2 0))]) hx hb dX10_digest_83 hl (k := 2) rfl (congrArg (fun z => x5 + z) (by decide)) (by decide) rfl (fun ls hl => ?_)
      refine lv_goto (tgt := 33) hx hb dX10_digest_86 (by decide) ?_
      exact hw _ _ _ hP (lv_sub hl [2, 1, 0] rfl)
  · replace hw := hw.2 h
    refine lv_ldc2 hx hb hown (hts _ q_X10_digest_2) dX10_digest_12 ?_
    refine lv_lload_n hx hb dX10_digest_15 rfl (lv_at hl 1 rfl) ?_
    refine lv_lmul hx hb dX10_digest_16 ?_
    refine lv_aload_n hx hb dX10_digest_17 rfl (lv_at hl 0 rfl) ?_
    refine lv_iload_n hx hb dX10_digest_18 rfl (lv_at hl 2 rfl) ?_
    refine cR_Vip (rest := [.long (31 * y1)]) ⟨hx, hb, hml, hown, hts⟩ (c_X10_toldBy l Γ hI x2 σ _ hw) (cwV 1 hts gX10_digest_X10_toldBy rfl rfl rfl (by decide +kernel) ⟨Nat.le_of_ble_eq_true rfl, Nat.le_of_ble_eq_true rfl⟩) hK hN hP (cR_lt hR_0 (by decide)) (cR_E10 hR_0) rfl rfl rfl hl.1 rfl (Nat.le_of_ble_eq_true rfl) dX10_digest_19 ⟨Nat.le_refl _, Nat.le_refl _⟩ (fun r29 H locs hw hP => ?_)
    refine lv_i2l hx hb dX10_digest_22 rfl ?_
    refine lv_ladd hx hb dX10_digest_23 ?_
    refine lv_topl (fun y30 ey30 => ?_)
    replace hw := hw y30 ey30
    refine lv_lstore_n (lv' := [(1, .long y30), (0, .ref (Γ.2.2 0)), (3, .int x2)]) hx hb dX10_digest_24 rfl hl (by decide) rfl (fun ls hl => ?_)
    refine lv_iinc (v := x2 + 1) (lv' := [(3, .int (x2 + 1)), (1, .long y30), (0, .ref (Γ.2.2 0))]) hx hb dX10_digest_25 hl (k := 2) rfl (congrArg (fun z => x2 + z) (by decide)) (by decide) rfl (fun ls hl => ?_)
    refine lv_goto (tgt := 6) hx hb dX10_digest_28 (by decide) ?_
    exact hw _ _ _ hP (lv_sub hl [2, 1, 0] rfl)
