theorem q_X6_countFrom_1 : (Cond.fieldLink RX6 18 "FaultTwins$Twins" "pairs" "[I") ∈ wsX6_countFrom := List.mem_of_getElem? (i := 1) (by decide +kernel)
set_option maxHeartbeats 4000000 in
set_option maxRecDepth 100000 in
theorem c_X6_countFrom (l : Launch) (Γ : ft_G) (hI : cC_I Γ) (k : Nat) (hk : cC_K k = 6) (a1 : Int32) (σ : ft_St) (Φ : Int32 → Prop) (hw : w_X6_countFrom k a1 σ Φ) : cC_Mip l yX6_countFrom wsX6_countFrom ({ frames := 2, cells := 0, slots := 0, locals := 43 } : Room) Γ σ [.ref (Γ.2.2 k), .int a1] Φ := by
  refine Met.ofW (cc := cX6_countFrom) (maxL := 2) (ret := (some .int)) (by decide) rfl ?_
  intro p e s m args below meth c s₁ B hml hv
  obtain ⟨rfl, hP, hK, hN⟩ := hv
  have hx := B.exec
  have hb := B.bytes
  have hr := B.returns
  have hts := atoms_spec (ws := wsX6_countFrom) B.pre
  have hown : s.vm.findClass RX6 = some m.cls := findClass_of_methodNamed B.named
  have hlocks := B.notSynchronized
  have i6 : ∀ w ∈ wsX60, w ∈ wsX6_countFrom := fun w h => List.mem_cons_of_mem _ (List.mem_append_right _ h)
  have hP : cC_P Γ s σ s.heap [] := ⟨hP, va_S.rf⟩
  have hl := lv_entry ([.ref (Γ.2.2 k), .int a1]) (n := 2) (Nat.le_of_ble_eq_true rfl)
  rw [lg_entry_eq]
  generalize (lg_sl ([.ref (Γ.2.2 k), .int a1]) ++ List.replicate (2 - (lg_sl ([.ref (Γ.2.2 k), .int a1])).length) Slot.unset).toArray = ls at hl ⊢
  have hl : lv_has ls 2 [(0, .ref (Γ.2.2 k)), (1, .int a1)] := hl
  unfold w_X6_countFrom at hw
  refine lv_aload_n hx hb dX6_countFrom_0 rfl (lv_at hl 0 rfl) ?_
  refine gC_6_3 hx hb hts i6 hown hK hP hk (hts _ q_X6_countFrom_1) dX6_countFrom_1 ?_
  refine lv_iload_n hx hb dX6_countFrom_4 rfl (lv_at hl 1 rfl) ?_
  refine cC_Sip (rest := []) ⟨hx, hb, hml, hown, hts⟩ (c_X6_countOf l Γ hI (k + 3) (tC_6_3 hk) a1 σ _ hw) (va_cwS 2 hts gX6_countFrom_X6_countOf rfl rfl rfl (by decide +kernel) ⟨Nat.le_of_ble_eq_true rfl, Nat.le_of_ble_eq_true rfl⟩) hK hN hP rfl hl.1 rfl (Nat.le_of_ble_eq_true rfl) dX6_countFrom_5 ⟨Nat.le_refl _, Nat.le_refl _⟩ (fun r1 H locs hw hP => ?_)
  exact W.iret hx hb hr (cC_ri hP ⟨rfl, hw⟩) hP.2.2.2 dX6_countFrom_8
theorem q_X7_growUnseen_1 : (Cond.fieldLink RX7 36 "FaultTwins$Machine" "ways" "I") ∈ wsX7_growUnseen := List.mem_of_getElem? (i := 1) (by decide +kernel)
theorem q_X7_growUnseen_2 : (Cond.fieldLink RX7 42 "FaultTwins$Machine" "by" "[I") ∈ wsX7_growUnseen := List.mem_of_getElem? (i := 2) (by decide +kernel)
theorem q_X7_growUnseen_3 : (Cond.fieldLink RX7 49 "FaultTwins$Machine" "from" "[I") ∈ wsX7_growUnseen := List.mem_of_getElem? (i := 3) (by decide +kernel)
theorem q_X7_growUnseen_4 : (Cond.fieldLink RX7 9 "FaultTwins$View" "unseen" "[I") ∈ wsX7_growUnseen := List.mem_of_getElem? (i := 4) (by decide +kernel)
set_option maxHeartbeats 4000000 in
set_option maxRecDepth 100000 in
theorem c_X7_growUnseen (l : Launch) (Γ : ft_G) (hI : cC_I Γ) (k : Nat) (hk : cC_K k = 7) (k1 : Nat) (hk1 : cC_K k1 = 1) (σ : ft_St) (Φ : Int32 → ft_St → Prop) (hw : w_X7_growUnseen k k1 σ Φ) : cC_Mi l yX7_growUnseen wsX7_growUnseen ({ frames := 1, cells := 0, slots := 0, locals := 23 } : Room) Γ σ [.ref (Γ.2.2 k), .ref (Γ.2.2 k1)] Φ := by
  refine Met.ofW (cc := cX7_growUnseen) (maxL := 6) (ret := (some .boolean)) (by decide) rfl ?_
  intro p e s m args below meth c s₁ B hml hv
  obtain ⟨rfl, hP, hK, hN⟩ := hv
  have hx := B.exec
  have hb := B.bytes
  have hr := B.returns
  have hts := atoms_spec (ws := wsX7_growUnseen) B.pre
  have hown : s.vm.findClass RX7 = some m.cls := findClass_of_methodNamed B.named
  have hlocks := B.notSynchronized
  have i1 : ∀ w ∈ wsX10, w ∈ wsX7_growUnseen := fun w h => List.mem_cons_of_mem _ (List.mem_append_left _ (List.mem_append_right _ h))
  have i7 : ∀ w ∈ wsX70, w ∈ wsX7_growUnseen := fun w h => List.mem_cons_of_mem _ (List.mem_append_right _ h)
  have hP : cC_P Γ s σ s.heap [] := ⟨hP, va_S.rf⟩
  have hl := lv_entry ([.ref (Γ.2.2 k), .ref (Γ.2.2 k1)]) (n := 6) (Nat.le_of_ble_eq_true rfl)
  rw [lg_entry_eq]
  generalize (lg_sl ([.ref (Γ.2.2 k), .ref (Γ.2.2 k1)]) ++ List.replicate (6 - (lg_sl ([.ref (Γ.2.2 k), .ref (Γ.2.2 k1)])).length) Slot.unset).toArray = ls at hl ⊢
  have hl : lv_has ls 6 [(0, .ref (Γ.2.2 k)), (1, .ref (Γ.2.2 k1))] := hl
  unfold w_X7_growUnseen at hw
  refine lv_iconst (v := 0) hx hb dX7_growUnseen_0 (by decide) ?_
  refine lv_istore_n (lv' := [(2, .int 0), (0, .ref (Γ.2.2 k)), (1, .ref (Γ.2.2 k1))]) hx hb dX7_growUnseen_1 rfl hl (by decide) rfl (fun ls hl => ?_)
  refine lv_iconst (v := 0) hx hb dX7_growUnseen_2 (by decide) ?_
  refine lv_istore_n (lv' := [(3, .int 0), (2, .int 0), (0, .ref (Γ.2.2 k)), (1, .ref (Γ.2.2 k1))]) hx hb dX7_growUnseen_3 rfl hl (by decide) rfl (fun ls hl => ?_)
  refine hw (fun (x1 : Int32) (x2 : Int32) (s3 : ft_St) => ∀ (H : Heap) (locs : List Loc) (ls : Array Slot), cC_P Γ s s3 H locs → lv_has ls 6 [(0, .ref (Γ.2.2 k)), (1, .ref (Γ.2.2 k1)), (2, .int x1), (3, .int x2)] → cC_Wi p l e ({ frames := 1, cells := 0, slots := 0, locals := 23 } : Room) s m [.ref (Γ.2.2 k), .ref (Γ.2.2 k1)] below meth c Γ Φ H locs 4 ls []) (fun x1 x2 s3 hw H locs ls hP hl => ?_) _ _ _ hP (lv_sub hl [2, 3, 1, 0] rfl)
  refine lv_iload_n hx hb dX7_growUnseen_4 rfl (lv_at hl 3 rfl) ?_
  refine lv_aload_n hx hb dX7_growUnseen_5 rfl (lv_at hl 1 rfl) ?_
  refine gC_1_3 hx hb hts i1 hown hK hP hk1 (hts _ q_X7_growUnseen_1) dX7_growUnseen_6 ?_
  refine lv_icmp_ge (tgt := 105) hx hb dX7_growUnseen_9 (by decide) (fun h => ?_) (fun h => ?_)
  · replace hw := hw.1 h
    refine lv_iload_n hx hb dX7_growUnseen_105 rfl (lv_at hl 2 rfl) ?_
    exact W.zret hx hb hr (ft_bz_n hw.1) (cC_ri hP hw.2) hP.2.2.2 dX7_growUnseen_106
  · replace hw := hw.2 h
    refine lv_aload_n hx hb dX7_growUnseen_12 rfl (lv_at hl 1 rfl) ?_
    refine lv_aload_n hx hb dX7_growUnseen_13 rfl (lv_at hl 1 rfl) ?_
    refine gC_1_1 hx hb hts i1 hown hK hP hk1 (hts _ q_X7_growUnseen_2) dX7_growUnseen_14 ?_
    refine lv_iload_n hx hb dX7_growUnseen_17 rfl (lv_at hl 3 rfl) ?_
    refine aC_ld hx hb hK hP (tC_1_1 hk1) (nC_1_1 hk1) hw.1 dX7_growUnseen_18 ?_
    replace hw := hw.2
    refine cC_Vip (rest := []) ⟨hx, hb, hml, hown, hts⟩ (c_X1_isSeen l Γ hI k1 hk1 (s3.2.1 (k1 + 2) (Int32.toNatClampNeg x2)) s3 _ hw) (cwV 1 hts gX7_growUnseen_X1_isSeen rfl rfl rfl (by decide +kernel) ⟨Nat.le_of_ble_eq_true rfl, Nat.le_of_ble_eq_true rfl⟩) hK hN hP (cC_lt hk1 (by decide)) (cC_E1 hk1) rfl rfl rfl hl.1 rfl (Nat.le_of_ble_eq_true rfl) dX7_growUnseen_19 ⟨Nat.le_refl _, Nat.le_refl _⟩ (fun r5 H locs hw hP => ?_)
    refine lv_if_ne (tgt := 99) hx hb dX7_growUnseen_22 (by decide) (fun h => ?_) (fun h => ?_)
    · replace hw := hw.1 h
      refine lv_iinc (v := x2 + 1) (lv' := [(3, .int (x2 + 1)), (0, .ref (Γ.2.2 k)), (1, .ref (Γ.2.2 k1)), (2, .int x1)]) hx hb dX7_growUnseen_99 hl (k := 3) rfl (congrArg (fun z => x2 + z) (by decide)) (by decide) rfl (fun ls hl => ?_)
      refine lv_goto (tgt := 4) hx hb dX7_growUnseen_102 (by decide) ?_
      exact hw _ _ _ hP (lv_sub hl [1, 2, 3, 0] rfl)
    · replace hw := hw.2 h
      refine lv_aload_n hx hb dX7_growUnseen_25 rfl (lv_at hl 1 rfl) ?_
      refine gC_1_0 hx hb hts i1 hown hK hP hk1 (hts _ q_X7_growUnseen_3) dX7_growUnseen_26 ?_
      refine lv_iload_n hx hb dX7_growUnseen_29 rfl (lv_at hl 3 rfl) ?_
      refine aC_ld hx hb hK hP (tC_1_0 hk1) (nC_1_0 hk1) hw.1 dX7_growUnseen_30 ?_
      replace hw := hw.2
      refine lv_topi (fun x6 ex6 => ?_)
      replace hw := hw x6 ex6
      refine lv_istore (lv' := [(4, .int x6), (0, .ref (Γ.2.2 k)), (1, .ref (Γ.2.2 k1)), (2, .int x1), (3, .int x2)]) hx hb dX7_growUnseen_31 hl (by decide) rfl (fun ls hl => ?_)
      refine hw (fun (x7 : Int32) (x8 : Int32) (s9 : ft_St) => ∀ (H : Heap) (locs : List Loc) (ls : Array Slot), cC_P Γ s s9 H locs → lv_has ls 6 [(0, .ref (Γ.2.2 k)), (1, .ref (Γ.2.2 k1)), (2, .int x7), (3, .int x2), (4, .int x8)] → cC_Wi p l e ({ frames := 1, cells := 0, slots := 0, locals := 23 } : Room) s m [.ref (Γ.2.2 k), .ref (Γ.2.2 k1)] below meth c Γ Φ H locs 33 ls []) (fun x7 x8 s9 hw H locs ls hP hl => ?_) _ _ _ hP (lv_sub hl [1, 2, 3, 4, 0] rfl)
      refine lv_iload hx hb dX7_growUnseen_33 (lv_at hl 4 rfl) ?_
      refine lv_bipush (v := 20) hx hb dX7_growUnseen_35 (by decide) ?_
      refine lv_icmp_ge (tgt := 99) hx hb dX7_growUnseen_37 (by decide) (fun h => ?_) (fun h => ?_)
      · replace hw := hw.1 h
        refine lv_iinc (v := x2 + 1) (lv' := [(3, .int (x2 + 1)), (0, .ref (Γ.2.2 k)), (1, .ref (Γ.2.2 k1)), (2, .int x7), (4, .int x8)]) hx hb dX7_growUnseen_99 hl (k := 3) rfl (congrArg (fun z => x2 + z) (by decide)) (by decide) rfl (fun ls hl => ?_)
        refine lv_goto (tgt := 4) hx hb dX7_growUnseen_102 (by decide) ?_
        exact hw _ _ _ hP (lv_sub hl [1, 2, 3, 0] rfl)
      · replace hw := hw.2 h
        refine lv_aload_n hx hb dX7_growUnseen_40 rfl (lv_at hl 0 rfl) ?_
        refine gC_7_0 hx hb hts i7 hown hK hP hk (hts _ q_X7_growUnseen_4) dX7_growUnseen_41 ?_
        refine lv_iload hx hb dX7_growUnseen_44 (lv_at hl 4 rfl) ?_
        refine aC_ld hx hb hK hP (tC_7_0 hk) (nC_7_0 hk) hw.1 dX7_growUnseen_46 ?_
        replace hw := hw.2
        refine lv_aload_n hx hb dX7_growUnseen_47 rfl (lv_at hl 0 rfl) ?_
        refine gC_7_0 hx hb hts i7 hown hK hP hk (hts _ q_X7_growUnseen_4) dX7_growUnseen_48 ?_
        refine lv_aload_n hx hb dX7_growUnseen_51 rfl (lv_at hl 1 rfl) ?_
        refine lv_iload_n hx hb dX7_growUnseen_52 rfl (lv_at hl 3 rfl) ?_
        refine lv_iload hx hb dX7_growUnseen_53 (lv_at hl 4 rfl) ?_
        refine cC_Vip (rest := [.ref (Γ.2.2 (k + 1)), .int (s9.2.1 (k + 1) (Int32.toNatClampNeg x8))]) ⟨hx, hb, hml, hown, hts⟩ (c_X1_markBehind l Γ hI k1 hk1 x2 x8 s9 _ hw) (cwV 2 hts gX7_growUnseen_X1_markBehind rfl rfl rfl (by decide +kernel) ⟨Nat.le_of_ble_eq_true rfl, Nat.le_of_ble_eq_true rfl⟩) hK hN hP (cC_lt hk1 (by decide)) (cC_E1 hk1) rfl rfl rfl hl.1 rfl (Nat.le_of_ble_eq_true rfl) dX7_growUnseen_55 ⟨Nat.le_refl _, Nat.le_refl _⟩ (fun r11 H locs hw hP => ?_)
        refine aC_ld hx hb hK hP (tC_7_0 hk) (nC_7_0 hk) hw.1 dX7_growUnseen_58 ?_
        replace hw := hw.2
        refine lv_ior hx hb dX7_growUnseen_59 ?_
        refine lv_topi (fun x12 ex12 => ?_)
        replace hw := hw x12 ex12
        refine lv_istore (lv' := [(5, .int x12), (0, .ref (Γ.2.2 k)), (1, .ref (Γ.2.2 k1)), (2, .int x7), (3, .int x2), (4, .int x8)]) hx hb dX7_growUnseen_60 hl (by decide) rfl (fun ls hl => ?_)
        refine lv_iload_n hx hb dX7_growUnseen_62 rfl (lv_at hl 3 rfl) ?_
        refine ft_cut (hw (fun (x13 : Int32) => ∀ (H : Heap) (locs : List Loc) (ls : Array Slot), cC_P Γ s s9 H locs → lv_has ls 6 [(0, .ref (Γ.2.2 k)), (1, .ref (Γ.2.2 k1)), (3, .int x2), (4, .int x8), (5, .int x12)] → cC_Wi p l e ({ frames := 1, cells := 0, slots := 0, locals := 23 } : Room) s m [.ref (Γ.2.2 k), .ref (Γ.2.2 k1)] below meth c Γ Φ H locs 83 ls [.int x13]) (fun x13 hw H locs ls hP hl => ?_)) (fun hw => ?_)
        · refine lv_istore_n (lv' := [(2, .int x13), (0, .ref (Γ.2.2 k)), (1, .ref (Γ.2.2 k1)), (3, .int x2), (4, .int x8), (5, .int x12)]) hx hb dX7_growUnseen_83 rfl hl (by decide) rfl (fun ls hl => ?_)
          refine lv_aload_n hx hb dX7_growUnseen_84 rfl (lv_at hl 1 rfl) ?_
          refine gC_7_0 hx hb hts i7 hown hK hP hk (hts _ q_X7_growUnseen_4) dX7_growUnseen_85 ?_
          refine lv_iload hx hb dX7_growUnseen_88 (lv_at hl 4 rfl) ?_
          refine lv_iload hx hb dX7_growUnseen_90 (lv_at hl 5 rfl) ?_
          refine aC_st hx hb hK hI hP (tC_7_0 hk) (nC_7_0 hk) hw.1 dX7_growUnseen_92 (fun H locs hP => ?_)
          replace hw := hw.2
          obtain ⟨s15, hs15⟩ : ∃ u, u = ft_sA s9 (k + 1) (upd (s9.2.1 (k + 1)) (Int32.toNatClampNeg x8) x12) := ⟨_, rfl⟩
          rw [← hs15] at hP
          replace hw := hw s15 hs15
          refine lv_iinc (v := x8 + 10) (lv' := [(4, .int (x8 + 10)), (2, .int x13), (0, .ref (Γ.2.2 k)), (1, .ref (Γ.2.2 k1)), (3, .int x2), (5, .int x12)]) hx hb dX7_growUnseen_93 hl (k := 4) rfl (congrArg (fun z => x8 + z) (by decide)) (by decide) rfl (fun ls hl => ?_)
          refine lv_goto (tgt := 33) hx hb dX7_growUnseen_96 (by decide) ?_
          exact hw _ _ _ hP (lv_sub hl [2, 3, 1, 4, 0] rfl)
        · refine ft_cut (hw (∀ (H : Heap) (locs : List Loc) (ls : Array Slot), cC_P Γ s s9 H locs → lv_has ls 6 [(0, .ref (Γ.2.2 k)), (1, .ref (Γ.2.2 k1)), (3, .int x2), (4, .int x8), (5, .int x12)] → cC_Wi p l e ({ frames := 1, cells := 0, slots := 0, locals := 23 } : Room) s m [.ref (Γ.2.2 k), .ref (Γ.2.2 k1)] below meth c Γ Φ H locs 78 ls []) (fun  hw H locs ls hP hl => ?_)) (fun hw => ?_)
          · refine lv_iconst (v := 1) hx hb dX7_growUnseen_78 (by decide) ?_
            refine lv_goto (tgt := 83) hx hb dX7_growUnseen_79 (by decide) ?_
            exact hw _ _ _ hP (lv_sub hl [0, 1, 2, 3, 4] rfl)
          · refine lv_if_ne (tgt := 78) hx hb dX7_growUnseen_63 (by decide) (fun h => ?_) (fun h => ?_)
            · replace hw := hw.1 h
              exact hw _ _ _ hP (lv_sub hl [1, 2, 4, 5, 0] rfl)
            · replace hw := hw.2 h
              refine lv_iload hx hb dX7_growUnseen_66 (lv_at hl 0 rfl) ?_
              refine lv_aload_n hx hb dX7_growUnseen_68 rfl (lv_at hl 1 rfl) ?_
              refine gC_7_0 hx hb hts i7 hown hK hP hk (hts _ q_X7_growUnseen_4) dX7_growUnseen_69 ?_
              refine lv_iload hx hb dX7_growUnseen_72 (lv_at hl 5 rfl) ?_
              refine aC_ld hx hb hK hP (tC_7_0 hk) (nC_7_0 hk) hw.1 dX7_growUnseen_74 ?_
              replace hw := hw.2
              refine lv_icmp_eq (tgt := 82) hx hb dX7_growUnseen_75 (by decide) (fun h => ?_) (fun h => ?_)
              · replace hw := hw.1 h
                refine lv_iconst (v := 0) hx hb dX7_growUnseen_82 (by decide) ?_
                exact hw _ _ _ hP (lv_sub hl [1, 2, 4, 5, 0] rfl)
              · replace hw := hw.2 h
                exact hw _ _ _ hP (lv_sub hl [1, 2, 4, 5, 0] rfl)
theorem q_X7_findUnseen_1 : (Cond.fieldLink RX7 9 "FaultTwins$View" "unseen" "[I") ∈ wsX7_findUnseen := List.mem_of_getElem? (i := 1) (by decide +kernel)
set_option maxHeartbeats 4000000 in
set_option maxRecDepth 100000 in
theorem c_X7_findUnseen (l : Launch) (Γ : ft_G) (hI : cC_I Γ) (k : Nat) (hk : cC_K k = 7) (k1 : Nat) (hk1 : cC_K k1 = 1) (σ : ft_St) (Φ : ft_St → Prop) (hw : w_X7_findUnseen k k1 σ Φ) : cC_Mv l yX7_findUnseen wsX7_findUnseen ({ frames := 2, cells := 0, slots := 0, locals := 48 } : Room) Γ σ [.ref (Γ.2.2 k), .ref (Γ.2.2 k1)] Φ := by
  refine Met.ofW (cc := cX7_findUnseen) (maxL := 4) (ret := none) (by decide) rfl ?_
  intro p e s m args below meth c s₁ B hml hv
  obtain ⟨rfl, hP, hK, hN⟩ := hv
  have hx := B.exec
  have hb := B.bytes
  have hr := B.returns
  have hts := atoms_spec (ws := wsX7_findUnseen) B.pre
  have hown : s.vm.findClass RX7 = some m.cls := findClass_of_methodNamed B.named
  have hlocks := B.notSynchronized
  have i7 : ∀ w ∈ wsX70, w ∈ wsX7_findUnseen := fun w h => List.mem_cons_of_mem _ (List.mem_append_left _ (List.mem_append_right _ h))
  have hP : cC_P Γ s σ s.heap [] := ⟨hP, va_S.rf⟩
  have hl := lv_entry ([.ref (Γ.2.2 k), .ref (Γ.2.2 k1)]) (n := 4) (Nat.le_of_ble_eq_true rfl)
  rw [lg_entry_eq]
  generalize (lg_sl ([.ref (Γ.2.2 k), .ref (Γ.2.2 k1)]) ++ List.replicate (4 - (lg_sl ([.ref (Γ.2.2 k), .ref (Γ.2.2 k1)])).length) Slot.unset).toArray = ls at hl ⊢
  have hl : lv_has ls 4 [(0, .ref (Γ.2.2 k)), (1, .ref (Γ.2.2 k1))] := hl
  unfold w_X7_findUnseen at hw
  refine lv_iconst (v := 0) hx hb dX7_findUnseen_0 (by decide) ?_
  refine lv_istore_n (lv' := [(2, .int 0), (0, .ref (Γ.2.2 k)), (1, .ref (Γ.2.2 k1))]) hx hb dX7_findUnseen_1 rfl hl (by decide) rfl (fun ls hl => ?_)
  refine hw (fun (x1 : Int32) (s2 : ft_St) => ∀ (H : Heap) (locs : List Loc) (ls : Array Slot), cC_P Γ s s2 H locs → lv_has ls 4 [(0, .ref (Γ.2.2 k)), (1, .ref (Γ.2.2 k1)), (2, .int x1)] → cC_Wv p l e ({ frames := 2, cells := 0, slots := 0, locals := 48 } : Room) s m [.ref (Γ.2.2 k), .ref (Γ.2.2 k1)] below meth c Γ Φ H locs 2 ls []) (fun x1 s2 hw H locs ls hP hl => ?_) _ _ _ hP (lv_sub hl [1, 2, 0] rfl)
  refine lv_iload_n hx hb dX7_findUnseen_2 rfl (lv_at hl 2 rfl) ?_
  refine lv_bipush (v := 20) hx hb dX7_findUnseen_3 (by decide) ?_
  refine lv_icmp_ge (tgt := 23) hx hb dX7_findUnseen_5 (by decide) (fun h => ?_) (fun h => ?_)
  · replace hw := hw.1 h
    refine lv_iconst (v := 1) hx hb dX7_findUnseen_23 (by decide) ?_
    refine lv_istore_n (lv' := [(2, .int 1), (0, .ref (Γ.2.2 k)), (1, .ref (Γ.2.2 k1))]) hx hb dX7_findUnseen_24 rfl hl (by decide) rfl (fun ls hl => ?_)
    refine lv_iconst (v := 0) hx hb dX7_findUnseen_25 (by decide) ?_
    refine lv_istore_n (lv' := [(3, .int 0), (2, .int 1), (0, .ref (Γ.2.2 k)), (1, .ref (Γ.2.2 k1))]) hx hb dX7_findUnseen_26 rfl hl (by decide) rfl (fun ls hl => ?_)
    refine hw (fun (x4 : Int32) (x5 : Int32) (s6 : ft_St) => ∀ (H : Heap) (locs : List Loc) (ls : Array Slot), cC_P Γ s s6 H locs → lv_has ls 4 [(0, .ref (Γ.2.2 k)), (1, .ref (Γ.2.2 k1)), (2, .int x4), (3, .int x5)] → cC_Wv p l e ({ frames := 2, cells := 0, slots := 0, locals := 48 } : Room) s m [.ref (Γ.2.2 k), .ref (Γ.2.2 k1)] below meth c Γ Φ H locs 27 ls []) (fun x4 x5 s6 hw H locs ls hP hl => ?_) _ _ _ hP (lv_sub hl [2, 3, 1, 0] rfl)
    refine lv_iload_n hx hb dX7_findUnseen_27 rfl (lv_at hl 3 rfl) ?_
    refine lv_bipush (v := 20) hx hb dX7_findUnseen_28 (by decide) ?_
    refine lv_icmp_ge (tgt := 49) hx hb dX7_findUnseen_30 (by decide) (fun h => ?_) (fun h => ?_)
    · replace hw := hw.1 h
      exact W.vret hx hb hr (cC_rv hP hw) hP.2.2.2 dX7_findUnseen_49
    · replace hw := hw.2 h
      refine lv_iload_n hx hb dX7_findUnseen_33 rfl (lv_at hl 2 rfl) ?_
      refine lv_if_eq (tgt := 49) hx hb dX7_findUnseen_34 (by decide) (fun h => ?_) (fun h => ?_)
      · replace hw := hw.1 h
        exact W.vret hx hb hr (cC_rv hP hw) hP.2.2.2 dX7_findUnseen_49
      · replace hw := hw.2 h
        refine lv_aload_n hx hb dX7_findUnseen_37 rfl (lv_at hl 0 rfl) ?_
        refine lv_aload_n hx hb dX7_findUnseen_38 rfl (lv_at hl 1 rfl) ?_
        refine cC_Vi (rest := []) ⟨hx, hb, hml, hown, hts⟩ (c_X7_growUnseen l Γ hI k hk k1 hk1 s6 _ hw) (cwV 1 hts gX7_findUnseen_X7_growUnseen rfl rfl rfl (by decide +kernel) ⟨Nat.le_of_ble_eq_true rfl, Nat.le_of_ble_eq_true rfl⟩) hK hN hP (cC_lt hk (by decide)) (cC_E7 hk) rfl rfl rfl hl.1 rfl (Nat.le_of_ble_eq_true rfl) dX7_findUnseen_39 ⟨Nat.le_refl _, Nat.le_refl _⟩ (fun r8 s9 H locs hw hP => ?_)
        refine lv_istore_n (lv' := [(2, .int r8), (0, .ref (Γ.2.2 k)), (1, .ref (Γ.2.2 k1)), (3, .int x5)]) hx hb dX7_findUnseen_42 rfl hl (by decide) rfl (fun ls hl => ?_)
        refine lv_iinc (v := x5 + 1) (lv' := [(3, .int (x5 + 1)), (2, .int r8), (0, .ref (Γ.2.2 k)), (1, .ref (Γ.2.2 k1))]) hx hb dX7_findUnseen_43 hl (k := 3) rfl (congrArg (fun z => x5 + z) (by decide)) (by decide) rfl (fun ls hl => ?_)
        refine lv_goto (tgt := 27) hx hb dX7_findUnseen_46 (by decide) ?_
        exact hw _ _ _ hP (lv_sub hl [2, 3, 1, 0] rfl)
  · replace hw := hw.2 h
    refine lv_aload_n hx hb dX7_findUnseen_8 rfl (lv_at hl 0 rfl) ?_
    refine gC_7_0 hx hb hts i7 hown hK hP hk (hts _ q_X7_findUnseen_1) dX7_findUnseen_9 ?_
    refine lv_iload_n hx hb dX7_findUnseen_12 rfl (lv_at hl 2 rfl) ?_
    refine lv_iconst (v := 1) hx hb dX7_findUnseen_13 (by decide) ?_
    refine lv_iload_n hx hb dX7_findUnseen_14 rfl (lv_at hl 2 rfl) ?_
    refine lv_ishl hx hb dX7_findUnseen_15 ?_
    refine aC_st hx hb hK hI hP (tC_7_0 hk) (nC_7_0 hk) hw.1 dX7_findUnseen_16 (fun H locs hP => ?_)
    replace hw := hw.2
    obtain ⟨s10, hs10⟩ : ∃ u, u = ft_sA s2 (k + 1) (upd (s2.2.1 (k + 1)) (Int32.toNatClampNeg x1) (1 <<< (x1 &&& 31))) := ⟨_, rfl⟩
    rw [← hs10] at hP
    replace hw := hw s10 hs10
    refine lv_iinc (v := x1 + 1) (lv' := [(2, .int (x1 + 1)), (0, .ref (Γ.2.2 k)), (1, .ref (Γ.2.2 k1))]) hx hb dX7_findUnseen_17 hl (k := 2) rfl (congrArg (fun z => x1 + z) (by decide)) (by decide) rfl (fun ls hl => ?_)
    refine lv_goto (tgt := 2) hx hb dX7_findUnseen_20 (by decide) ?_
    exact hw _ _ _ hP (lv_sub hl [1, 2, 0] rfl)
theorem q_X7_findBehind_1 : (Cond.fieldLink RX7 15 "FaultTwins$View" "behind" "[I") ∈ wsX7_findBehind := List.mem_of_getElem? (i := 1) (by decide +kernel)
theorem q_X7_findBehind_2 : (Cond.fieldLink RX7 36 "FaultTwins$Machine" "ways" "I") ∈ wsX7_findBehind := List.mem_of_getElem? (i := 2) (by decide +kernel)
theorem q_X7_findBehind_3 : (Cond.fieldLink RX7 42 "FaultTwins$Machine" "by" "[I") ∈ wsX7_findBehind := List.mem_of_getElem? (i := 3) (by decide +kernel)
theorem q_X7_findBehind_4 : (Cond.fieldLink RX7 49 "FaultTwins$Machine" "from" "[I") ∈ wsX7_findBehind := List.mem_of_getElem? (i := 4) (by decide +kernel)
theorem q_X7_findBehind_5 : (Cond.fieldLink RX7 9 "FaultTwins$View" "unseen" "[I") ∈ wsX7_findBehind := List.mem_of_getElem? (i := 5) (by decide +kernel)
set_option maxHeartbeats 4000000 in
set_option maxRecDepth 100000 in
theorem c_X7_findBehind (l : Launch) (Γ : ft_G) (hI : cC_I Γ) (k : Nat) (hk : cC_K k = 7) (k1 : Nat) (hk1 : cC_K k1 = 1) (σ : ft_St) (Φ : ft_St → Prop) (hw : w_X7_findBehind k k1 σ Φ) : cC_Mv l yX7_findBehind wsX7_findBehind ({ frames := 1, cells := 0, slots := 0, locals := 23 } : Room) Γ σ [.ref (Γ.2.2 k), .ref (Γ.2.2 k1)] Φ := by
  refine Met.ofW (cc := cX7_findBehind) (maxL := 5) (ret := none) (by decide) rfl ?_
  intro p e s m args below meth c s₁ B hml hv
  obtain ⟨rfl, hP, hK, hN⟩ := hv
  have hx := B.exec
  have hb := B.bytes
  have hr := B.returns
  have hts := atoms_spec (ws := wsX7_findBehind) B.pre
  have hown : s.vm.findClass RX7 = some m.cls := findClass_of_methodNamed B.named
  have hlocks := B.notSynchronized
  have i1 : ∀ w ∈ wsX10, w ∈ wsX7_findBehind := fun w h => List.mem_cons_of_mem _ (List.mem_append_right _ h)
  have i7 : ∀ w ∈ wsX70, w ∈ wsX7_findBehind := fun w h => List.mem_cons_of_mem _ (List.mem_append_left _ (List.mem_append_right _ h))
  have hP : cC_P Γ s σ s.heap [] := ⟨hP, va_S.rf⟩
  have hl := lv_entry ([.ref (Γ.2.2 k), .ref (Γ.2.2 k1)]) (n := 5) (Nat.le_of_ble_eq_true rfl)
  rw [lg_entry_eq]
  generalize (lg_sl ([.ref (Γ.2.2 k), .ref (Γ.2.2 k1)]) ++ List.replicate (5 - (lg_sl ([.ref (Γ.2.2 k), .ref (Γ.2.2 k1)])).length) Slot.unset).toArray = ls at hl ⊢
  have hl : lv_has ls 5 [(0, .ref (Γ.2.2 k)), (1, .ref (Γ.2.2 k1))] := hl
  unfold w_X7_findBehind at hw
  refine lv_aload_n hx hb dX7_findBehind_0 rfl (lv_at hl 0 rfl) ?_
  refine gC_7_1 hx hb hts i7 hown hK hP hk (hts _ q_X7_findBehind_1) dX7_findBehind_1 ?_
  refine lv_iconst (v := 0) hx hb dX7_findBehind_4 (by decide) ?_
  refine cC_Sv (rest := []) ⟨hx, hb, hml, hown, hts⟩ (c_J7_fill_53178 l Γ hI (k + 2) (tC_7_1 hk) 0 σ _ hw) (va_cwS 2 hts gX7_findBehind_J7_fill_53178 rfl rfl rfl (by decide +kernel) ⟨Nat.le_of_ble_eq_true rfl, Nat.le_of_ble_eq_true rfl⟩) hK hN hP rfl hl.1 rfl (Nat.le_of_ble_eq_true rfl) dX7_findBehind_5 ⟨Nat.le_refl _, Nat.le_refl _⟩ (fun s1 H locs hw hP => ?_)
  refine lv_iconst (v := 0) hx hb dX7_findBehind_8 (by decide) ?_
  refine lv_istore_n (lv' := [(2, .int 0), (0, .ref (Γ.2.2 k)), (1, .ref (Γ.2.2 k1))]) hx hb dX7_findBehind_9 rfl hl (by decide) rfl (fun ls hl => ?_)
  refine hw (fun (x2 : Int32) (s3 : ft_St) => ∀ (H : Heap) (locs : List Loc) (ls : Array Slot), cC_P Γ s s3 H locs → lv_has ls 5 [(0, .ref (Γ.2.2 k)), (1, .ref (Γ.2.2 k1)), (2, .int x2)] → cC_Wv p l e ({ frames := 1, cells := 0, slots := 0, locals := 23 } : Room) s m [.ref (Γ.2.2 k), .ref (Γ.2.2 k1)] below meth c Γ Φ H locs 10 ls []) (fun x2 s3 hw H locs ls hP hl => ?_) _ _ _ hP (lv_sub hl [1, 2, 0] rfl)
  refine lv_iload_n hx hb dX7_findBehind_10 rfl (lv_at hl 2 rfl) ?_
  refine lv_aload_n hx hb dX7_findBehind_11 rfl (lv_at hl 1 rfl) ?_
  refine gC_1_3 hx hb hts i1 hown hK hP hk1 (hts _ q_X7_findBehind_2) dX7_findBehind_12 ?_
  refine lv_icmp_ge (tgt := 87) hx hb dX7_findBehind_15 (by decide) (fun h => ?_) (fun h => ?_)
  · replace hw := hw.1 h
    exact W.vret hx hb hr (cC_rv hP hw) hP.2.2.2 dX7_findBehind_87
  · replace hw := hw.2 h
    refine lv_aload_n hx hb dX7_findBehind_18 rfl (lv_at hl 1 rfl) ?_
    refine gC_1_1 hx hb hts i1 hown hK hP hk1 (hts _ q_X7_findBehind_3) dX7_findBehind_19 ?_
    refine lv_iload_n hx hb dX7_findBehind_22 rfl (lv_at hl 2 rfl) ?_
    refine aC_ld hx hb hK hP (tC_1_1 hk1) (nC_1_1 hk1) hw.1 dX7_findBehind_23 ?_
    replace hw := hw.2
    refine lv_topi (fun x5 ex5 => ?_)
    replace hw := hw x5 ex5
    refine lv_istore_n (lv' := [(3, .int x5), (0, .ref (Γ.2.2 k)), (1, .ref (Γ.2.2 k1)), (2, .int x2)]) hx hb dX7_findBehind_24 rfl hl (by decide) rfl (fun ls hl => ?_)
    refine lv_aload_n hx hb dX7_findBehind_25 rfl (lv_at hl 2 rfl) ?_
    refine lv_iload_n hx hb dX7_findBehind_26 rfl (lv_at hl 0 rfl) ?_
    refine cC_Vip (rest := []) ⟨hx, hb, hml, hown, hts⟩ (c_X1_isSeen l Γ hI k1 hk1 x5 s3 _ hw) (cwV 1 hts gX7_findBehind_X1_isSeen rfl rfl rfl (by decide +kernel) ⟨Nat.le_of_ble_eq_true rfl, Nat.le_of_ble_eq_true rfl⟩) hK hN hP (cC_lt hk1 (by decide)) (cC_E1 hk1) rfl rfl rfl hl.1 rfl (Nat.le_of_ble_eq_true rfl) dX7_findBehind_27 ⟨Nat.le_refl _, Nat.le_refl _⟩ (fun r6 H locs hw hP => ?_)
    refine lv_if_eq (tgt := 81) hx hb dX7_findBehind_30 (by decide) (fun h => ?_) (fun h => ?_)
    · replace hw := hw.1 h
      refine lv_iinc (v := x2 + 1) (lv' := [(2, .int (x2 + 1)), (3, .int x5), (0, .ref (Γ.2.2 k)), (1, .ref (Γ.2.2 k1))]) hx hb dX7_findBehind_81 hl (k := 3) rfl (congrArg (fun z => x2 + z) (by decide)) (by decide) rfl (fun ls hl => ?_)
      refine lv_goto (tgt := 10) hx hb dX7_findBehind_84 (by decide) ?_
      exact hw _ _ _ hP (lv_sub hl [2, 3, 0] rfl)
    · replace hw := hw.2 h
      refine lv_aload_n hx hb dX7_findBehind_33 rfl (lv_at hl 2 rfl) ?_
      refine gC_1_0 hx hb hts i1 hown hK hP hk1 (hts _ q_X7_findBehind_4) dX7_findBehind_34 ?_
      refine lv_iload_n hx hb dX7_findBehind_37 rfl (lv_at hl 3 rfl) ?_
      refine aC_ld hx hb hK hP (tC_1_0 hk1) (nC_1_0 hk1) hw.1 dX7_findBehind_38 ?_
      replace hw := hw.2
      refine lv_topi (fun x7 ex7 => ?_)
      replace hw := hw x7 ex7
      refine lv_istore (lv' := [(4, .int x7), (3, .int x5), (0, .ref (Γ.2.2 k)), (1, .ref (Γ.2.2 k1)), (2, .int x2)]) hx hb dX7_findBehind_39 hl (by decide) rfl (fun ls hl => ?_)
      refine hw (fun (x8 : Int32) (s9 : ft_St) => ∀ (H : Heap) (locs : List Loc) (ls : Array Slot), cC_P Γ s s9 H locs → lv_has ls 5 [(0, .ref (Γ.2.2 k)), (1, .ref (Γ.2.2 k1)), (2, .int x2), (3, .int x5), (4, .int x8)] → cC_Wv p l e ({ frames := 1, cells := 0, slots := 0, locals := 23 } : Room) s m [.ref (Γ.2.2 k), .ref (Γ.2.2 k1)] below meth c Γ Φ H locs 41 ls []) (fun x8 s9 hw H locs ls hP hl => ?_) _ _ _ hP (lv_sub hl [2, 3, 4, 1, 0] rfl)
      refine lv_iload hx hb dX7_findBehind_41 (lv_at hl 4 rfl) ?_
      refine lv_bipush (v := 20) hx hb dX7_findBehind_43 (by decide) ?_
      refine lv_icmp_ge (tgt := 81) hx hb dX7_findBehind_45 (by decide) (fun h => ?_) (fun h => ?_)
      · replace hw := hw.1 h
        refine lv_iinc (v := x2 + 1) (lv' := [(2, .int (x2 + 1)), (0, .ref (Γ.2.2 k)), (1, .ref (Γ.2.2 k1)), (3, .int x5), (4, .int x8)]) hx hb dX7_findBehind_81 hl (k := 2) rfl (congrArg (fun z => x2 + z) (by decide)) (by decide) rfl (fun ls hl => ?_)
        refine lv_goto (tgt := 10) hx hb dX7_findBehind_84 (by decide) ?_
        exact hw _ _ _ hP (lv_sub hl [1, 2, 0] rfl)
      · replace hw := hw.2 h
        refine lv_aload_n hx hb dX7_findBehind_48 rfl (lv_at hl 0 rfl) ?_
        refine gC_7_1 hx hb hts i7 hown hK hP hk (hts _ q_X7_findBehind_1) dX7_findBehind_49 ?_
        refine lv_iload_n hx hb dX7_findBehind_52 rfl (lv_at hl 3 rfl) ?_
        refine lv_bipush (v := 20) hx hb dX7_findBehind_53 (by decide) ?_
        refine lv_imul hx hb dX7_findBehind_55 ?_
        refine lv_iload hx hb dX7_findBehind_56 (lv_at hl 4 rfl) ?_
        refine lv_iadd hx hb dX7_findBehind_58 ?_
        refine lv_dup2_11 hx hb dX7_findBehind_59 rfl rfl ?_
        refine aC_ld hx hb hK hP (tC_7_1 hk) (nC_7_1 hk) hw.1 dX7_findBehind_60 ?_
        replace hw := hw.2
        refine lv_aload_n hx hb dX7_findBehind_61 rfl (lv_at hl 0 rfl) ?_
        refine gC_7_0 hx hb hts i7 hown hK hP hk (hts _ q_X7_findBehind_5) dX7_findBehind_62 ?_
        refine lv_aload_n hx hb dX7_findBehind_65 rfl (lv_at hl 1 rfl) ?_
        refine lv_iload_n hx hb dX7_findBehind_66 rfl (lv_at hl 2 rfl) ?_
        refine lv_iload hx hb dX7_findBehind_67 (lv_at hl 4 rfl) ?_
        refine cC_Vip (rest := [.ref (Γ.2.2 (k + 1)), .int (s9.2.1 (k + 2) (Int32.toNatClampNeg ((x5 * 20) + x8))), .int ((x5 * 20) + x8), .ref (Γ.2.2 (k + 2))]) ⟨hx, hb, hml, hown, hts⟩ (c_X1_markBehind l Γ hI k1 hk1 x2 x8 s9 _ hw) (cwV 2 hts gX7_findBehind_X1_markBehind rfl rfl rfl (by decide +kernel) ⟨Nat.le_of_ble_eq_true rfl, Nat.le_of_ble_eq_true rfl⟩) hK hN hP (cC_lt hk1 (by decide)) (cC_E1 hk1) rfl rfl rfl hl.1 rfl (Nat.le_of_ble_eq_true rfl) dX7_findBehind_69 ⟨Nat.le_refl _, Nat.le_refl _⟩ (fun r11 H locs hw hP => ?_)
        refine aC_ld hx hb hK hP (tC_7_0 hk) (nC_7_0 hk) hw.1 dX7_findBehind_72 ?_
        replace hw := hw.2
        refine lv_ior hx hb dX7_findBehind_73 ?_
        refine aC_st hx hb hK hI hP (tC_7_1 hk) (nC_7_1 hk) hw.1 dX7_findBehind_74 (fun H locs hP => ?_)
        replace hw := hw.2
        obtain ⟨s12, hs12⟩ : ∃ u, u = ft_sA s9 (k + 2) (upd (s9.2.1 (k + 2)) (Int32.toNatClampNeg ((x5 * 20) + x8)) ((s9.2.1 (k + 2) (Int32.toNatClampNeg ((x5 * 20) + x8))) ||| (s9.2.1 (k + 1) (Int32.toNatClampNeg r11)))) := ⟨_, rfl⟩
        rw [← hs12] at hP
        replace hw := hw s12 hs12
        refine lv_iinc (v := x8 + 10) (lv' := [(4, .int (x8 + 10)), (0, .ref (Γ.2.2 k)), (1, .ref (Γ.2.2 k1)), (2, .int x2), (3, .int x5)]) hx hb dX7_findBehind_75 hl (k := 4) rfl (congrArg (fun z => x8 + z) (by decide)) (by decide) rfl (fun ls hl => ?_)
        refine lv_goto (tgt := 41) hx hb dX7_findBehind_78 (by decide) ?_
        exact hw _ _ _ hP (lv_sub hl [1, 2, 3, 4, 0] rfl)
theorem q_X7_findMarks_1 : (Cond.fieldLink RX7 61 "FaultTwins$View" "marks" "I") ∈ wsX7_findMarks := List.mem_of_getElem? (i := 1) (by decide +kernel)
theorem q_X7_findMarks_2 : (Cond.fieldLink RX7 36 "FaultTwins$Machine" "ways" "I") ∈ wsX7_findMarks := List.mem_of_getElem? (i := 2) (by decide +kernel)
theorem q_X7_findMarks_3 : (Cond.fieldLink RX7 49 "FaultTwins$Machine" "from" "[I") ∈ wsX7_findMarks := List.mem_of_getElem? (i := 3) (by decide +kernel)
set_option maxHeartbeats 4000000 in
set_option maxRecDepth 100000 in
theorem c_X7_findMarks (l : Launch) (Γ : ft_G) (hI : cC_I Γ) (k : Nat) (hk : cC_K k = 7) (k1 : Nat) (hk1 : cC_K k1 = 1) (σ : ft_St) (Φ : ft_St → Prop) (hw : w_X7_findMarks k k1 σ Φ) : cC_Mv l yX7_findMarks wsX7_findMarks ({ frames := 1, cells := 0, slots := 0, locals := 23 } : Room) Γ σ [.ref (Γ.2.2 k), .ref (Γ.2.2 k1)] Φ := by
  refine Met.ofW (cc := cX7_findMarks) (maxL := 7) (ret := none) (by decide) rfl ?_
  intro p e s m args below meth c s₁ B hml hv
  obtain ⟨rfl, hP, hK, hN⟩ := hv
  have hx := B.exec
  have hb := B.bytes
  have hr := B.returns
  have hts := atoms_spec (ws := wsX7_findMarks) B.pre
  have hown : s.vm.findClass RX7 = some m.cls := findClass_of_methodNamed B.named
  have hlocks := B.notSynchronized
  have i1 : ∀ w ∈ wsX10, w ∈ wsX7_findMarks := fun w h => List.mem_cons_of_mem _ (List.mem_append_right _ h)
  have i7 : ∀ w ∈ wsX70, w ∈ wsX7_findMarks := fun w h => List.mem_cons_of_mem _ (List.mem_append_left _ (List.mem_append_right _ h))
  have hP : cC_P Γ s σ s.heap [] := ⟨hP, va_S.rf⟩
  have hl := lv_entry ([.ref (Γ.2.2 k), .ref (Γ.2.2 k1)]) (n := 7) (Nat.le_of_ble_eq_true rfl)
  rw [lg_entry_eq]
  generalize (lg_sl ([.ref (Γ.2.2 k), .ref (Γ.2.2 k1)]) ++ List.replicate (7 - (lg_sl ([.ref (Γ.2.2 k), .ref (Γ.2.2 k1)])).length) Slot.unset).toArray = ls at hl ⊢
  have hl : lv_has ls 7 [(0, .ref (Γ.2.2 k)), (1, .ref (Γ.2.2 k1))] := hl
  unfold w_X7_findMarks at hw
  refine lv_aload_n hx hb dX7_findMarks_0 rfl (lv_at hl 0 rfl) ?_
  refine lv_iconst (v := 1) hx hb dX7_findMarks_1 (by decide) ?_
  refine pC_7_2 hx hb hts i7 hown hK hI hP hk (hts _ q_X7_findMarks_1) dX7_findMarks_2 (fun H locs hP => ?_)
  obtain ⟨s1, hs1⟩ : ∃ u, u = ft_sF σ k 2 1 := ⟨_, rfl⟩
  rw [← hs1] at hP
  replace hw := hw s1 hs1
  refine lv_iconst (v := 1) hx hb dX7_findMarks_5 (by decide) ?_
  refine lv_istore_n (lv' := [(2, .int 1), (0, .ref (Γ.2.2 k)), (1, .ref (Γ.2.2 k1))]) hx hb dX7_findMarks_6 rfl hl (by decide) rfl (fun ls hl => ?_)
  refine lv_iconst (v := 0) hx hb dX7_findMarks_7 (by decide) ?_
  refine lv_istore_n (lv' := [(3, .int 0), (2, .int 1), (0, .ref (Γ.2.2 k)), (1, .ref (Γ.2.2 k1))]) hx hb dX7_findMarks_8 rfl hl (by decide) rfl (fun ls hl => ?_)
  refine hw (fun (x2 : Int32) (x3 : Int32) (s4 : ft_St) => ∀ (H : Heap) (locs : List Loc) (ls : Array Slot), cC_P Γ s s4 H locs → lv_has ls 7 [(0, .ref (Γ.2.2 k)), (1, .ref (Γ.2.2 k1)), (2, .int x2), (3, .int x3)] → cC_Wv p l e ({ frames := 1, cells := 0, slots := 0, locals := 23 } : Room) s m [.ref (Γ.2.2 k), .ref (Γ.2.2 k1)] below meth c Γ Φ H locs 9 ls []) (fun x2 x3 s4 hw H locs ls hP hl => ?_) _ _ _ hP (lv_sub hl [2, 3, 1, 0] rfl)
  refine lv_iload_n hx hb dX7_findMarks_9 rfl (lv_at hl 3 rfl) ?_
  refine lv_bipush (v := 20) hx hb dX7_findMarks_10 (by decide) ?_
  refine lv_icmp_ge (tgt := 118) hx hb dX7_findMarks_12 (by decide) (fun h => ?_) (fun h => ?_)
  · replace hw := hw.1 h
    exact W.vret hx hb hr (cC_rv hP hw) hP.2.2.2 dX7_findMarks_118
  · replace hw := hw.2 h
    refine lv_iload_n hx hb dX7_findMarks_15 rfl (lv_at hl 2 rfl) ?_
    refine lv_if_eq (tgt := 118) hx hb dX7_findMarks_16 (by decide) (fun h => ?_) (fun h => ?_)
    · replace hw := hw.1 h
      exact W.vret hx hb hr (cC_rv hP hw) hP.2.2.2 dX7_findMarks_118
    · replace hw := hw.2 h
      refine lv_aload_n hx hb dX7_findMarks_19 rfl (lv_at hl 0 rfl) ?_
      refine gC_7_2 hx hb hts i7 hown hK hP hk (hts _ q_X7_findMarks_1) dX7_findMarks_20 ?_
      refine lv_istore (lv' := [(4, .int (s4.1 k 2)), (0, .ref (Γ.2.2 k)), (1, .ref (Γ.2.2 k1)), (2, .int x2), (3, .int x3)]) hx hb dX7_findMarks_23 hl (by decide) rfl (fun ls hl => ?_)
      refine lv_iconst (v := 0) hx hb dX7_findMarks_25 (by decide) ?_
      refine lv_istore (lv' := [(5, .int 0), (4, .int (s4.1 k 2)), (0, .ref (Γ.2.2 k)), (1, .ref (Γ.2.2 k1)), (2, .int x2), (3, .int x3)]) hx hb dX7_findMarks_26 hl (by decide) rfl (fun ls hl => ?_)
      refine hw (fun (x6 : Int32) (s7 : ft_St) => ∀ (H : Heap) (locs : List Loc) (ls : Array Slot), cC_P Γ s s7 H locs → lv_has ls 7 [(0, .ref (Γ.2.2 k)), (1, .ref (Γ.2.2 k1)), (3, .int x3), (4, .int (s4.1 k 2)), (5, .int x6)] → cC_Wv p l e ({ frames := 1, cells := 0, slots := 0, locals := 23 } : Room) s m [.ref (Γ.2.2 k), .ref (Γ.2.2 k1)] below meth c Γ Φ H locs 28 ls []) (fun x6 s7 hw H locs ls hP hl => ?_) _ _ _ hP (lv_sub hl [2, 3, 5, 1, 0] rfl)
      refine lv_iload hx hb dX7_findMarks_28 (lv_at hl 4 rfl) ?_
      refine lv_aload_n hx hb dX7_findMarks_30 rfl (lv_at hl 1 rfl) ?_
      refine gC_1_3 hx hb hts i1 hown hK hP hk1 (hts _ q_X7_findMarks_2) dX7_findMarks_31 ?_
      refine lv_icmp_ge (tgt := 97) hx hb dX7_findMarks_34 (by decide) (fun h => ?_) (fun h => ?_)
      · replace hw := hw.1 h
        refine lv_aload_n hx hb dX7_findMarks_97 rfl (lv_at hl 0 rfl) ?_
        refine gC_7_2 hx hb hts i7 hown hK hP hk (hts _ q_X7_findMarks_1) dX7_findMarks_98 ?_
        refine lv_iload hx hb dX7_findMarks_101 (lv_at hl 3 rfl) ?_
        refine lv_icmp_eq (tgt := 110) hx hb dX7_findMarks_103 (by decide) (fun h => ?_) (fun h => ?_)
        · replace hw := hw.1 h
          refine lv_iconst (v := 0) hx hb dX7_findMarks_110 (by decide) ?_
          refine lv_istore_n (lv' := [(2, .int 0), (0, .ref (Γ.2.2 k)), (1, .ref (Γ.2.2 k1)), (3, .int x3), (4, .int (s4.1 k 2)), (5, .int x6)]) hx hb dX7_findMarks_111 rfl hl (by decide) rfl (fun ls hl => ?_)
          refine lv_iinc (v := x3 + 1) (lv' := [(3, .int (x3 + 1)), (2, .int 0), (0, .ref (Γ.2.2 k)), (1, .ref (Γ.2.2 k1)), (4, .int (s4.1 k 2)), (5, .int x6)]) hx hb dX7_findMarks_112 hl (k := 3) rfl (congrArg (fun z => x3 + z) (by decide)) (by decide) rfl (fun ls hl => ?_)
          refine lv_goto (tgt := 9) hx hb dX7_findMarks_115 (by decide) ?_
          exact hw _ _ _ hP (lv_sub hl [2, 3, 1, 0] rfl)
        · replace hw := hw.2 h
          refine lv_iconst (v := 1) hx hb dX7_findMarks_106 (by decide) ?_
          refine lv_goto (tgt := 111) hx hb dX7_findMarks_107 (by decide) ?_
          refine lv_istore_n (lv' := [(2, .int 1), (0, .ref (Γ.2.2 k)), (1, .ref (Γ.2.2 k1)), (3, .int x3), (4, .int (s4.1 k 2)), (5, .int x6)]) hx hb dX7_findMarks_111 rfl hl (by decide) rfl (fun ls hl => ?_)
          refine lv_iinc (v := x3 + 1) (lv' := [(3, .int (x3 + 1)), (2, .int 1), (0, .ref (Γ.2.2 k)), (1, .ref (Γ.2.2 k1)), (4, .int (s4.1 k 2)), (5, .int x6)]) hx hb dX7_findMarks_112 hl (k := 3) rfl (congrArg (fun z => x3 + z) (by decide)) (by decide) rfl (fun ls hl => ?_)
          refine lv_goto (tgt := 9) hx hb dX7_findMarks_115 (by decide) ?_
          exact hw _ _ _ hP (lv_sub hl [2, 3, 1, 0] rfl)
      · replace hw := hw.2 h
        refine lv_aload_n hx hb dX7_findMarks_37 rfl (lv_at hl 1 rfl) ?_
        refine gC_1_0 hx hb hts i1 hown hK hP hk1 (hts _ q_X7_findMarks_3) dX7_findMarks_38 ?_
        refine lv_iload hx hb dX7_findMarks_41 (lv_at hl 4 rfl) ?_
        refine aC_ld hx hb hK hP (tC_1_0 hk1) (nC_1_0 hk1) hw.1 dX7_findMarks_43 ?_
        replace hw := hw.2
        refine lv_topi (fun x9 ex9 => ?_)
        replace hw := hw x9 ex9
        refine lv_istore (lv' := [(6, .int x9), (0, .ref (Γ.2.2 k)), (1, .ref (Γ.2.2 k1)), (3, .int x3), (4, .int (s4.1 k 2)), (5, .int x6)]) hx hb dX7_findMarks_44 hl (by decide) rfl (fun ls hl => ?_)
        refine hw (fun (x10 : Int32) (s11 : ft_St) => ∀ (H : Heap) (locs : List Loc) (ls : Array Slot), cC_P Γ s s11 H locs → lv_has ls 7 [(0, .ref (Γ.2.2 k)), (1, .ref (Γ.2.2 k1)), (3, .int x3), (4, .int (s4.1 k 2)), (5, .int x6), (6, .int x10)] → cC_Wv p l e ({ frames := 1, cells := 0, slots := 0, locals := 23 } : Room) s m [.ref (Γ.2.2 k), .ref (Γ.2.2 k1)] below meth c Γ Φ H locs 46 ls []) (fun x10 s11 hw H locs ls hP hl => ?_) _ _ _ hP (lv_sub hl [1, 2, 3, 4, 5, 0] rfl)
        refine lv_iload hx hb dX7_findMarks_46 (lv_at hl 5 rfl) ?_
        refine lv_bipush (v := 20) hx hb dX7_findMarks_48 (by decide) ?_
        refine lv_icmp_ge (tgt := 91) hx hb dX7_findMarks_50 (by decide) (fun h => ?_) (fun h => ?_)
        · replace hw := hw.1 h
          refine lv_iinc (v := x6 + 1) (lv' := [(5, .int (x6 + 1)), (0, .ref (Γ.2.2 k)), (1, .ref (Γ.2.2 k1)), (3, .int x3), (4, .int (s4.1 k 2)), (6, .int x10)]) hx hb dX7_findMarks_91 hl (k := 4) rfl (congrArg (fun z => x6 + z) (by decide)) (by decide) rfl (fun ls hl => ?_)
          refine lv_goto (tgt := 28) hx hb dX7_findMarks_94 (by decide) ?_
          exact hw _ _ _ hP (lv_sub hl [1, 2, 3, 4, 0] rfl)
        · replace hw := hw.2 h
          refine lv_aload_n hx hb dX7_findMarks_53 rfl (lv_at hl 0 rfl) ?_
          refine gC_7_2 hx hb hts i7 hown hK hP hk (hts _ q_X7_findMarks_1) dX7_findMarks_54 ?_
          refine lv_iload hx hb dX7_findMarks_57 (lv_at hl 5 rfl) ?_
          refine lv_ishr hx hb dX7_findMarks_59 ?_
          refine lv_iconst (v := 1) hx hb dX7_findMarks_60 (by decide) ?_
          refine lv_iand hx hb dX7_findMarks_61 ?_
          refine lv_iconst (v := 1) hx hb dX7_findMarks_62 (by decide) ?_
          refine lv_icmp_ne (tgt := 85) hx hb dX7_findMarks_63 (by decide) (fun h => ?_) (fun h => ?_)
          · replace hw := hw.1 h
            refine lv_iinc (v := x10 + 10) (lv' := [(6, .int (x10 + 10)), (0, .ref (Γ.2.2 k)), (1, .ref (Γ.2.2 k1)), (3, .int x3), (4, .int (s4.1 k 2)), (5, .int x6)]) hx hb dX7_findMarks_85 hl (k := 5) rfl (congrArg (fun z => x10 + z) (by decide)) (by decide) rfl (fun ls hl => ?_)
            refine lv_goto (tgt := 46) hx hb dX7_findMarks_88 (by decide) ?_
            exact hw _ _ _ hP (lv_sub hl [1, 2, 3, 4, 5, 0] rfl)
          · replace hw := hw.2 h
            refine lv_aload_n hx hb dX7_findMarks_66 rfl (lv_at hl 0 rfl) ?_
            refine lv_dup hx hb dX7_findMarks_67 rfl ?_
            refine gC_7_2 hx hb hts i7 hown hK hP hk (hts _ q_X7_findMarks_1) dX7_findMarks_68 ?_
            refine lv_iconst (v := 1) hx hb dX7_findMarks_71 (by decide) ?_
            refine lv_aload_n hx hb dX7_findMarks_72 rfl (lv_at hl 1 rfl) ?_
            refine lv_iload hx hb dX7_findMarks_73 (lv_at hl 4 rfl) ?_
            refine lv_iload hx hb dX7_findMarks_75 (lv_at hl 5 rfl) ?_
            refine cC_Vip (rest := [.int 1, .int (s11.1 k 2), .ref (Γ.2.2 k)]) ⟨hx, hb, hml, hown, hts⟩ (c_X1_markBehind l Γ hI k1 hk1 x6 x10 s11 _ hw) (cwV 2 hts gX7_findMarks_X1_markBehind rfl rfl rfl (by decide +kernel) ⟨Nat.le_of_ble_eq_true rfl, Nat.le_of_ble_eq_true rfl⟩) hK hN hP (cC_lt hk1 (by decide)) (cC_E1 hk1) rfl rfl rfl hl.1 rfl (Nat.le_of_ble_eq_true rfl) dX7_findMarks_77 ⟨Nat.le_refl _, Nat.le_refl _⟩ (fun r13 H locs hw hP => ?_)
            refine lv_ishl hx hb dX7_findMarks_80 ?_
            refine lv_ior hx hb dX7_findMarks_81 ?_
            refine pC_7_2 hx hb hts i7 hown hK hI hP hk (hts _ q_X7_findMarks_1) dX7_findMarks_82 (fun H locs hP => ?_)
            obtain ⟨s14, hs14⟩ : ∃ u, u = ft_sF s11 k 2 ((s11.1 k 2) ||| (1 <<< (r13 &&& 31))) := ⟨_, rfl⟩
            rw [← hs14] at hP
            replace hw := hw s14 hs14
            refine lv_iinc (v := x10 + 10) (lv' := [(6, .int (x10 + 10)), (0, .ref (Γ.2.2 k)), (1, .ref (Γ.2.2 k1)), (3, .int x3), (4, .int (s4.1 k 2)), (5, .int x6)]) hx hb dX7_findMarks_85 hl (k := 5) rfl (congrArg (fun z => x10 + z) (by decide)) (by decide) rfl (fun ls hl => ?_)
            refine lv_goto (tgt := 46) hx hb dX7_findMarks_88 (by decide) ?_
            exact hw _ _ _ hP (lv_sub hl [1, 2, 3, 4, 5, 0] rfl)
set_option maxHeartbeats 4000000 in
set_option maxRecDepth 100000 in
theorem c_X7_look (l : Launch) (Γ : ft_G) (hI : cC_I Γ) (k : Nat) (hk : cC_K k = 7) (k1 : Nat) (hk1 : cC_K k1 = 1) (σ : ft_St) (Φ : ft_St → Prop) (hw : w_X7_look k k1 σ Φ) : cC_Mv l yX7_look wsX7_look ({ frames := 3, cells := 0, slots := 0, locals := 71 } : Room) Γ σ [.ref (Γ.2.2 k), .ref (Γ.2.2 k1)] Φ := by
  refine Met.ofW (cc := cX7_look) (maxL := 2) (ret := none) (by decide) rfl ?_
  intro p e s m args below meth c s₁ B hml hv
  obtain ⟨rfl, hP, hK, hN⟩ := hv
  have hx := B.exec
  have hb := B.bytes
  have hr := B.returns
  have hts := atoms_spec (ws := wsX7_look) B.pre
  have hown : s.vm.findClass RX7 = some m.cls := findClass_of_methodNamed B.named
  have hlocks := B.notSynchronized
  have hP : cC_P Γ s σ s.heap [] := ⟨hP, va_S.rf⟩
  have hl := lv_entry ([.ref (Γ.2.2 k), .ref (Γ.2.2 k1)]) (n := 2) (Nat.le_of_ble_eq_true rfl)
  rw [lg_entry_eq]
  generalize (lg_sl ([.ref (Γ.2.2 k), .ref (Γ.2.2 k1)]) ++ List.replicate (2 - (lg_sl ([.ref (Γ.2.2 k), .ref (Γ.2.2 k1)])).length) Slot.unset).toArray = ls at hl ⊢
  have hl : lv_has ls 2 [(0, .ref (Γ.2.2 k)), (1, .ref (Γ.2.2 k1))] := hl
  unfold w_X7_look at hw
  refine lv_aload_n hx hb dX7_look_0 rfl (lv_at hl 0 rfl) ?_
  refine lv_aload_n hx hb dX7_look_1 rfl (lv_at hl 1 rfl) ?_
  refine cC_Vv (rest := []) ⟨hx, hb, hml, hown, hts⟩ (c_X7_findUnseen l Γ hI k hk k1 hk1 σ _ hw) (cwV 1 hts gX7_look_X7_findUnseen rfl rfl rfl (by decide +kernel) ⟨Nat.le_of_ble_eq_true rfl, Nat.le_of_ble_eq_true rfl⟩) hK hN hP (cC_lt hk (by decide)) (cC_E7 hk) rfl rfl rfl hl.1 rfl (Nat.le_of_ble_eq_true rfl) dX7_look_2 ⟨Nat.le_refl _, Nat.le_refl _⟩ (fun s1 H locs hw hP => ?_)
  refine lv_aload_n hx hb dX7_look_5 rfl (lv_at hl 0 rfl) ?_
  refine lv_aload_n hx hb dX7_look_6 rfl (lv_at hl 1 rfl) ?_
  refine cC_Vv (rest := []) ⟨hx, hb, hml, hown, hts⟩ (c_X7_findBehind l Γ hI k hk k1 hk1 s1 _ hw) (cwV 1 hts gX7_look_X7_findBehind rfl rfl rfl (by decide +kernel) ⟨Nat.le_of_ble_eq_true rfl, Nat.le_of_ble_eq_true rfl⟩) hK hN hP (cC_lt hk (by decide)) (cC_E7 hk) rfl rfl rfl hl.1 rfl (Nat.le_of_ble_eq_true rfl) dX7_look_7 ⟨Nat.le_refl _, Nat.le_refl _⟩ (fun s2 H locs hw hP => ?_)
  refine lv_aload_n hx hb dX7_look_10 rfl (lv_at hl 0 rfl) ?_
  refine lv_aload_n hx hb dX7_look_11 rfl (lv_at hl 1 rfl) ?_
  refine cC_Vv (rest := []) ⟨hx, hb, hml, hown, hts⟩ (c_X7_findMarks l Γ hI k hk k1 hk1 s2 _ hw) (cwV 1 hts gX7_look_X7_findMarks rfl rfl rfl (by decide +kernel) ⟨Nat.le_of_ble_eq_true rfl, Nat.le_of_ble_eq_true rfl⟩) hK hN hP (cC_lt hk (by decide)) (cC_E7 hk) rfl rfl rfl hl.1 rfl (Nat.le_of_ble_eq_true rfl) dX7_look_12 ⟨Nat.le_refl _, Nat.le_refl _⟩ (fun s3 H locs hw hP => ?_)
  exact W.vret hx hb hr (cC_rv hP hw) hP.2.2.2 dX7_look_15
set_option maxHeartbeats 4000000 in
set_option maxRecDepth 100000 in
theorem c_X7_nextSights (l : Launch) (Γ : ft_G) (hI : cC_I Γ) (k : Nat) (hk : cC_K k = 7) (a1 : Int32) (σ : ft_St) (Φ : Int32 → Prop) (hw : w_X7_nextSights k a1 σ Φ) : cC_Mip l yX7_nextSights wsX7_nextSights ({ frames := 1, cells := 0, slots := 0, locals := 24 } : Room) Γ σ [.ref (Γ.2.2 k), .int a1] Φ := by
  refine Met.ofW (cc := cX7_nextSights) (maxL := 4) (ret := (some .int)) (by decide) rfl ?_
  intro p e s m args below meth c s₁ B hml hv
  obtain ⟨rfl, hP, hK, hN⟩ := hv
  have hx := B.exec
  have hb := B.bytes
  have hr := B.returns
  have hts := atoms_spec (ws := wsX7_nextSights) B.pre
  have hown : s.vm.findClass RX7 = some m.cls := findClass_of_methodNamed B.named
  have hlocks := B.notSynchronized
  have hP : cC_P Γ s σ s.heap [] := ⟨hP, va_S.rf⟩
  have hl := lv_entry ([.ref (Γ.2.2 k), .int a1]) (n := 4) (Nat.le_of_ble_eq_true rfl)
  rw [lg_entry_eq]
  generalize (lg_sl ([.ref (Γ.2.2 k), .int a1]) ++ List.replicate (4 - (lg_sl ([.ref (Γ.2.2 k), .int a1])).length) Slot.unset).toArray = ls at hl ⊢
  have hl : lv_has ls 4 [(0, .ref (Γ.2.2 k)), (1, .int a1)] := hl
  unfold w_X7_nextSights at hw
  refine lv_iconst (v := 0) hx hb dX7_nextSights_0 (by decide) ?_
  refine lv_istore_n (lv' := [(2, .int 0), (0, .ref (Γ.2.2 k)), (1, .int a1)]) hx hb dX7_nextSights_1 rfl hl (by decide) rfl (fun ls hl => ?_)
  refine lv_iconst (v := 0) hx hb dX7_nextSights_2 (by decide) ?_
  refine lv_istore_n (lv' := [(3, .int 0), (2, .int 0), (0, .ref (Γ.2.2 k)), (1, .int a1)]) hx hb dX7_nextSights_3 rfl hl (by decide) rfl (fun ls hl => ?_)
  refine hw (fun (x1 : Int32) (x2 : Int32) => ∀ (H : Heap) (locs : List Loc) (ls : Array Slot), cC_P Γ s σ H locs → lv_has ls 4 [(0, .ref (Γ.2.2 k)), (1, .int a1), (2, .int x1), (3, .int x2)] → cC_Wi p l e ({ frames := 1, cells := 0, slots := 0, locals := 24 } : Room) s m [.ref (Γ.2.2 k), .int a1] below meth c Γ (fun r u => u = σ ∧ Φ r) H locs 4 ls []) (fun x1 x2 hw H locs ls hP hl => ?_) _ _ _ hP (lv_sub hl [2, 3, 1, 0] rfl)
  refine lv_iload_n hx hb dX7_nextSights_4 rfl (lv_at hl 3 rfl) ?_
  refine lv_bipush (v := 8) hx hb dX7_nextSights_5 (by decide) ?_
  refine lv_icmp_ge (tgt := 31) hx hb dX7_nextSights_7 (by decide) (fun h => ?_) (fun h => ?_)
  · replace hw := hw.1 h
    refine lv_iload_n hx hb dX7_nextSights_31 rfl (lv_at hl 2 rfl) ?_
    exact W.iret hx hb hr (cC_ri hP ⟨rfl, hw⟩) hP.2.2.2 dX7_nextSights_32
  · replace hw := hw.2 h
    refine lv_aload_n hx hb dX7_nextSights_10 rfl (lv_at hl 0 rfl) ?_
    refine lv_iload_n hx hb dX7_nextSights_11 rfl (lv_at hl 1 rfl) ?_
    refine lv_iload_n hx hb dX7_nextSights_12 rfl (lv_at hl 3 rfl) ?_
    refine cC_Vip (rest := []) ⟨hx, hb, hml, hown, hts⟩ (c_X7_after l Γ hI k hk a1 x2 σ _ hw) (cwV 2 hts gX7_nextSights_X7_after rfl rfl rfl (by decide +kernel) ⟨Nat.le_of_ble_eq_true rfl, Nat.le_of_ble_eq_true rfl⟩) hK hN hP (cC_lt hk (by decide)) (cC_E7 hk) rfl rfl rfl hl.1 rfl (Nat.le_of_ble_eq_true rfl) dX7_nextSights_13 ⟨Nat.le_refl _, Nat.le_refl _⟩ (fun r4 H locs hw hP => ?_)
    refine lv_if_eq (tgt := 25) hx hb dX7_nextSights_16 (by decide) (fun h => ?_) (fun h => ?_)
    · replace hw := hw.1 h
      refine lv_iinc (v := x2 + 1) (lv' := [(3, .int (x2 + 1)), (0, .ref (Γ.2.2 k)), (1, .int a1), (2, .int x1)]) hx hb dX7_nextSights_25 hl (k := 3) rfl (congrArg (fun z => x2 + z) (by decide)) (by decide) rfl (fun ls hl => ?_)
      refine lv_goto (tgt := 4) hx hb dX7_nextSights_28 (by decide) ?_
      exact hw _ _ _ hP (lv_sub hl [1, 2, 3, 0] rfl)
    · replace hw := hw.2 h
      refine lv_iload_n hx hb dX7_nextSights_19 rfl (lv_at hl 2 rfl) ?_
      refine lv_iconst (v := 1) hx hb dX7_nextSights_20 (by decide) ?_
      refine lv_iload_n hx hb dX7_nextSights_21 rfl (lv_at hl 3 rfl) ?_
      refine lv_ishl hx hb dX7_nextSights_22 ?_
      refine lv_ior hx hb dX7_nextSights_23 ?_
      refine lv_istore_n (lv' := [(2, .int (x1 ||| (1 <<< (x2 &&& 31)))), (0, .ref (Γ.2.2 k)), (1, .int a1), (3, .int x2)]) hx hb dX7_nextSights_24 rfl hl (by decide) rfl (fun ls hl => ?_)
      refine lv_iinc (v := x2 + 1) (lv' := [(3, .int (x2 + 1)), (2, .int (x1 ||| (1 <<< (x2 &&& 31)))), (0, .ref (Γ.2.2 k)), (1, .int a1)]) hx hb dX7_nextSights_25 hl (k := 3) rfl (congrArg (fun z => x2 + z) (by decide)) (by decide) rfl (fun ls hl => ?_)
      refine lv_goto (tgt := 4) hx hb dX7_nextSights_28 (by decide) ?_
      exact hw _ _ _ hP (lv_sub hl [2, 3, 1, 0] rfl)
theorem q_X8_begin_1 : (Cond.fieldLink RX8 15 "FaultTwins$Watch" "count" "I") ∈ wsX8_begin := List.mem_of_getElem? (i := 1) (by decide +kernel)
theorem q_X8_begin_2 : (Cond.fieldLink RX8 19 "FaultTwins$Watch" "set" "I") ∈ wsX8_begin := List.mem_of_getElem? (i := 2) (by decide +kernel)
set_option maxHeartbeats 4000000 in
set_option maxRecDepth 100000 in
theorem c_X8_begin (l : Launch) (Γ : ft_G) (hI : cC_I Γ) (k : Nat) (hk : cC_K k = 8) (a1 : Int32) (σ : ft_St) (Φ : ft_St → Prop) (hw : w_X8_begin k a1 σ Φ) : cC_Mv l yX8_begin wsX8_begin ({ frames := 0, cells := 0, slots := 0, locals := 0 } : Room) Γ σ [.ref (Γ.2.2 k), .int a1] Φ := by
  refine Met.ofW (cc := cX8_begin) (maxL := 2) (ret := none) (by decide) rfl ?_
  intro p e s m args below meth c s₁ B hml hv
  obtain ⟨rfl, hP, hK, hN⟩ := hv
  have hx := B.exec
  have hb := B.bytes
  have hr := B.returns
  have hts := atoms_spec (ws := wsX8_begin) B.pre
  have hown : s.vm.findClass RX8 = some m.cls := findClass_of_methodNamed B.named
  have hlocks := B.notSynchronized
  have i8 : ∀ w ∈ wsX80, w ∈ wsX8_begin := fun w h => List.mem_cons_of_mem _ (List.mem_append_right _ h)
  have hP : cC_P Γ s σ s.heap [] := ⟨hP, va_S.rf⟩
  have hl := lv_entry ([.ref (Γ.2.2 k), .int a1]) (n := 2) (Nat.le_of_ble_eq_true rfl)
  rw [lg_entry_eq]
  generalize (lg_sl ([.ref (Γ.2.2 k), .int a1]) ++ List.replicate (2 - (lg_sl ([.ref (Γ.2.2 k), .int a1])).length) Slot.unset).toArray = ls at hl ⊢
  have hl : lv_has ls 2 [(0, .ref (Γ.2.2 k)), (1, .int a1)] := hl
  unfold w_X8_begin at hw
  refine lv_aload_n hx hb dX8_begin_0 rfl (lv_at hl 0 rfl) ?_
  refine lv_iconst (v := 0) hx hb dX8_begin_1 (by decide) ?_
  refine pC_8_1 hx hb hts i8 hown hK hI hP hk (hts _ q_X8_begin_1) dX8_begin_2 (fun H locs hP => ?_)
  obtain ⟨s1, hs1⟩ : ∃ u, u = ft_sF σ k 1 0 := ⟨_, rfl⟩
  rw [← hs1] at hP
  replace hw := hw s1 hs1
  refine lv_aload_n hx hb dX8_begin_5 rfl (lv_at hl 0 rfl) ?_
  refine lv_iload_n hx hb dX8_begin_6 rfl (lv_at hl 1 rfl) ?_
  refine pC_8_2 hx hb hts i8 hown hK hI hP hk (hts _ q_X8_begin_2) dX8_begin_7 (fun H locs hP => ?_)
  obtain ⟨s2, hs2⟩ : ∃ u, u = ft_sF s1 k 2 a1 := ⟨_, rfl⟩
  rw [← hs2] at hP
  replace hw := hw s2 hs2
  exact W.vret hx hb hr (cC_rv hP hw) hP.2.2.2 dX8_begin_10
theorem q_X8_add_1 : (Cond.fieldLink RX8 9 "FaultTwins$Watch" "sights" "[I") ∈ wsX8_add := List.mem_of_getElem? (i := 1) (by decide +kernel)
theorem q_X8_add_2 : (Cond.fieldLink RX8 15 "FaultTwins$Watch" "count" "I") ∈ wsX8_add := List.mem_of_getElem? (i := 2) (by decide +kernel)
theorem q_X8_add_3 : (Cond.methodLink RX8 22 Lib.Math.min.name) ∈ wsX8_add := List.mem_of_getElem? (i := 3) (by decide +kernel)
theorem q_X8_add_4 : (Cond.static Lib.Math.min.name) ∈ wsX8_add := List.mem_of_getElem? (i := 4) (by decide +kernel)
theorem q_X8_add_5 : (Cond.initialized "java/lang/Math") ∈ wsX8_add := List.mem_of_getElem? (i := 5) (by decide +kernel)
theorem q_X8_add_6 : (Cond.code Lib.Math.min.name Lib.Math.min.code 2 (some .int)) ∈ wsX8_add := List.mem_of_getElem? (i := 6) (by decide +kernel)
theorem q_X8_add_7 : (Cond.fieldLink RX8 19 "FaultTwins$Watch" "set" "I") ∈ wsX8_add := List.mem_of_getElem? (i := 7) (by decide +kernel)
set_option maxHeartbeats 4000000 in
set_option maxRecDepth 100000 in
theorem c_X8_add (l : Launch) (Γ : ft_G) (hI : cC_I Γ) (k : Nat) (hk : cC_K k = 8) (a1 : Int32) (a2 : Int32) (σ : ft_St) (Φ : ft_St → Prop) (hw : w_X8_add k a1 a2 σ Φ) : cC_Mv l yX8_add wsX8_add ({ frames := 1, cells := 0, slots := 0, locals := 21 } : Room) Γ σ [.ref (Γ.2.2 k), .int a1, .int a2] Φ := by
  refine Met.ofW (cc := cX8_add) (maxL := 4) (ret := none) (by decide) rfl ?_
  intro p e s m args below meth c s₁ B hml hv
  obtain ⟨rfl, hP, hK, hN⟩ := hv
  have hx := B.exec
  have hb := B.bytes
  have hr := B.returns
  have hts := atoms_spec (ws := wsX8_add) B.pre
  have hown : s.vm.findClass RX8 = some m.cls := findClass_of_methodNamed B.named
  have hlocks := B.notSynchronized
  have i8 : ∀ w ∈ wsX80, w ∈ wsX8_add := fun w h => List.mem_cons_of_mem _ (List.mem_append_right _ h)
  have hP : cC_P Γ s σ s.heap [] := ⟨hP, va_S.rf⟩
  have hl := lv_entry ([.ref (Γ.2.2 k), .int a1, .int a2]) (n := 4) (Nat.le_of_ble_eq_true rfl)
  rw [lg_entry_eq]
  generalize (lg_sl ([.ref (Γ.2.2 k), .int a1, .int a2]) ++ List.replicate (4 - (lg_sl ([.ref (Γ.2.2 k), .int a1, .int a2])).length) Slot.unset).toArray = ls at hl ⊢
  have hl : lv_has ls 4 [(0, .ref (Γ.2.2 k)), (1, .int a1), (2, .int a2)] := hl
  unfold w_X8_add at hw
  refine lv_bipush (v := 7) hx hb dX8_add_0 (by decide) ?_
  refine lv_istore_n (lv' := [(3, .int 7), (0, .ref (Γ.2.2 k)), (1, .int a1), (2, .int a2)]) hx hb dX8_add_2 rfl hl (by decide) rfl (fun ls hl => ?_)
  refine hw (fun (x1 : Int32) (s2 : ft_St) => ∀ (H : Heap) (locs : List Loc) (ls : Array Slot), cC_P Γ s s2 H locs → lv_has ls 4 [(0, .ref (Γ.2.2 k)), (1, .int a1), (2, .int a2), (3, .int x1)] → cC_Wv p l e ({ frames := 1, cells := 0, slots := 0, locals := 21 } : Room) s m [.ref (Γ.2.2 k), .int a1, .int a2] below meth c Γ Φ H locs 3 ls []) (fun x1 s2 hw H locs ls hP hl => ?_) _ _ _ hP (lv_sub hl [1, 2, 3, 0] rfl)
  refine lv_iload_n hx hb dX8_add_3 rfl (lv_at hl 3 rfl) ?_
  refine lv_if_le (tgt := 27) hx hb dX8_add_4 (by decide) (fun h => ?_) (fun h => ?_)
  · replace hw := hw.1 h
    refine lv_aload_n hx hb dX8_add_27 rfl (lv_at hl 0 rfl) ?_
    refine gC_8_0 hx hb hts i8 hown hK hP hk (hts _ q_X8_add_1) dX8_add_28 ?_
    refine lv_iconst (v := 0) hx hb dX8_add_31 (by decide) ?_
    refine lv_iload_n hx hb dX8_add_32 rfl (lv_at hl 1 rfl) ?_
    refine aC_st hx hb hK hI hP (tC_8_0 hk) (nC_8_0 hk) hw.1 dX8_add_33 (fun H locs hP => ?_)
    replace hw := hw.2
    obtain ⟨s4, hs4⟩ : ∃ u, u = ft_sA s2 (k + 1) (upd (s2.2.1 (k + 1)) (Int32.toNatClampNeg 0) a1) := ⟨_, rfl⟩
    rw [← hs4] at hP
    replace hw := hw s4 hs4
    refine lv_aload_n hx hb dX8_add_34 rfl (lv_at hl 0 rfl) ?_
    refine lv_aload_n hx hb dX8_add_35 rfl (lv_at hl 0 rfl) ?_
    refine gC_8_1 hx hb hts i8 hown hK hP hk (hts _ q_X8_add_2) dX8_add_36 ?_
    refine lv_iconst (v := 1) hx hb dX8_add_39 (by decide) ?_
    refine lv_iadd hx hb dX8_add_40 ?_
    refine lv_bipush (v := 8) hx hb dX8_add_41 (by decide) ?_
    refine va_mmin hx hb (by rw [hml]; exact hl.1.symm) hown (hts _ q_X8_add_3) (hts _ q_X8_add_4) (hts _ q_X8_add_5) (hts _ q_X8_add_6) (Nat.le_of_ble_eq_true rfl) (Nat.le_of_ble_eq_true rfl) (Nat.le_refl _) (Nat.le_refl _) dX8_add_43 ?_
    refine pC_8_1 hx hb hts i8 hown hK hI hP hk (hts _ q_X8_add_2) dX8_add_46 (fun H locs hP => ?_)
    obtain ⟨s5, hs5⟩ : ∃ u, u = ft_sF s4 k 1 (if 8 < ((s4.1 k 1) + 1) then 8 else ((s4.1 k 1) + 1)) := ⟨_, rfl⟩
    rw [← hs5] at hP
    replace hw := hw s5 hs5
    refine lv_aload_n hx hb dX8_add_49 rfl (lv_at hl 0 rfl) ?_
    refine lv_iload_n hx hb dX8_add_50 rfl (lv_at hl 2 rfl) ?_
    refine pC_8_2 hx hb hts i8 hown hK hI hP hk (hts _ q_X8_add_7) dX8_add_51 (fun H locs hP => ?_)
    obtain ⟨s6, hs6⟩ : ∃ u, u = ft_sF s5 k 2 a2 := ⟨_, rfl⟩
    rw [← hs6] at hP
    replace hw := hw s6 hs6
    exact W.vret hx hb hr (cC_rv hP hw) hP.2.2.2 dX8_add_54
  · replace hw := hw.2 h
    refine lv_aload_n hx hb dX8_add_7 rfl (lv_at hl 0 rfl) ?_
    refine gC_8_0 hx hb hts i8 hown hK hP hk (hts _ q_X8_add_1) dX8_add_8 ?_
    refine lv_iload_n hx hb dX8_add_11 rfl (lv_at hl 3 rfl) ?_
    refine lv_aload_n hx hb dX8_add_12 rfl (lv_at hl 0 rfl) ?_
    refine gC_8_0 hx hb hts i8 hown hK hP hk (hts _ q_X8_add_1) dX8_add_13 ?_
    refine lv_iload_n hx hb dX8_add_16 rfl (lv_at hl 3 rfl) ?_
    refine lv_iconst (v := 1) hx hb dX8_add_17 (by decide) ?_
    refine lv_isub hx hb dX8_add_18 ?_
    refine aC_ld hx hb hK hP (tC_8_0 hk) (nC_8_0 hk) hw.1 dX8_add_19 ?_
    replace hw := hw.2
    refine aC_st hx hb hK hI hP (tC_8_0 hk) (nC_8_0 hk) hw.1 dX8_add_20 (fun H locs hP => ?_)
    replace hw := hw.2
    obtain ⟨s7, hs7⟩ : ∃ u, u = ft_sA s2 (k + 1) (upd (s2.2.1 (k + 1)) (Int32.toNatClampNeg x1) (s2.2.1 (k + 1) (Int32.toNatClampNeg (x1 - 1)))) := ⟨_, rfl⟩
    rw [← hs7] at hP
    replace hw := hw s7 hs7
    refine lv_iinc (v := x1 + (-1)) (lv' := [(3, .int (x1 + (-1))), (0, .ref (Γ.2.2 k)), (1, .int a1), (2, .int a2)]) hx hb dX8_add_21 hl (k := 3) rfl (congrArg (fun z => x1 + z) (by decide)) (by decide) rfl (fun ls hl => ?_)
    refine lv_goto (tgt := 3) hx hb dX8_add_24 (by decide) ?_
    exact hw _ _ _ hP (lv_sub hl [1, 2, 3, 0] rfl)
set_option maxHeartbeats 4000000 in
set_option maxRecDepth 100000 in
theorem c_X9_isWithin (l : Launch) (Γ : ft_G) (hI : cC_I Γ) (a0 : Int32) (a1 : Int32) (σ : ft_St) (Φ : Int32 → Prop) (hw : w_X9_isWithin a0 a1  Φ) : cC_Mip l yX9_isWithin wsX9_isWithin ({ frames := 0, cells := 0, slots := 0, locals := 0 } : Room) Γ σ [.int a0, .int a1] Φ := by
  refine Met.ofW (cc := cX9_isWithin) (maxL := 2) (ret := (some .boolean)) (by decide) rfl ?_
  intro p e s m args below meth c s₁ B hml hv
  obtain ⟨rfl, hP, hK, hN⟩ := hv
  have hx := B.exec
  have hb := B.bytes
  have hr := B.returns
  have hts := atoms_spec (ws := wsX9_isWithin) B.pre
  have hown : s.vm.findClass RX9 = some m.cls := findClass_of_methodNamed B.named
  have hlocks := B.notSynchronized
  have hP : cC_P Γ s σ s.heap [] := ⟨hP, va_S.rf⟩
  have hl := lv_entry ([.int a0, .int a1]) (n := 2) (Nat.le_of_ble_eq_true rfl)
  rw [lg_entry_eq]
  generalize (lg_sl ([.int a0, .int a1]) ++ List.replicate (2 - (lg_sl ([.int a0, .int a1])).length) Slot.unset).toArray = ls at hl ⊢
  have hl : lv_has ls 2 [(0, .int a0), (1, .int a1)] := hl
  unfold w_X9_isWithin at hw
  refine lv_iload_n hx hb dX9_isWithin_0 rfl (lv_at hl 0 rfl) ?_
  refine ft_cut (hw (∀ (H : Heap) (locs : List Loc) (ls : Array Slot), cC_P Γ s σ H locs → lv_has ls 2 [] → cC_Wi p l e ({ frames := 0, cells := 0, slots := 0, locals := 0 } : Room) s m [.int a0, .int a1] below meth c Γ (fun r u => u = σ ∧ Φ r) H locs 13 ls []) (fun  hw H locs ls hP hl => ?_)) (fun hw => ?_)
  · refine lv_iconst (v := 0) hx hb dX9_isWithin_13 (by decide) ?_
    exact W.zret hx hb hr rfl (cC_ri hP ⟨rfl, hw⟩) hP.2.2.2 dX9_isWithin_14
  · refine lv_if_lt (tgt := 13) hx hb dX9_isWithin_1 (by decide) (fun h => ?_) (fun h => ?_)
    · replace hw := hw.1 h
      exact hw _ _ _ hP (lv_sub hl [] rfl)
    · replace hw := hw.2 h
      refine lv_iload_n hx hb dX9_isWithin_4 rfl (lv_at hl 0 rfl) ?_
      refine lv_iload_n hx hb dX9_isWithin_5 rfl (lv_at hl 1 rfl) ?_
      refine lv_icmp_gt (tgt := 13) hx hb dX9_isWithin_6 (by decide) (fun h => ?_) (fun h => ?_)
      · replace hw := hw.1 h
        exact hw _ _ _ hP (lv_sub hl [] rfl)
      · replace hw := hw.2 h
        refine lv_iconst (v := 1) hx hb dX9_isWithin_9 (by decide) ?_
        refine lv_goto (tgt := 14) hx hb dX9_isWithin_10 (by decide) ?_
        exact W.zret hx hb hr rfl (cC_ri hP ⟨rfl, hw⟩) hP.2.2.2 dX9_isWithin_14
set_option maxHeartbeats 4000000 in
set_option maxRecDepth 100000 in
theorem c_X9_isPlace (l : Launch) (Γ : ft_G) (hI : cC_I Γ) (a0 : Int32) (σ : ft_St) (Φ : Int32 → Prop) (hw : w_X9_isPlace a0  Φ) : cC_Mip l yX9_isPlace wsX9_isPlace ({ frames := 1, cells := 0, slots := 0, locals := 21 } : Room) Γ σ [.int a0] Φ := by
  refine Met.ofW (cc := cX9_isPlace) (maxL := 1) (ret := (some .boolean)) (by decide) rfl ?_
  intro p e s m args below meth c s₁ B hml hv
  obtain ⟨rfl, hP, hK, hN⟩ := hv
  have hx := B.exec
  have hb := B.bytes
  have hr := B.returns
  have hts := atoms_spec (ws := wsX9_isPlace) B.pre
  have hown : s.vm.findClass RX9 = some m.cls := findClass_of_methodNamed B.named
  have hlocks := B.notSynchronized
  have hP : cC_P Γ s σ s.heap [] := ⟨hP, va_S.rf⟩
  have hl := lv_entry ([.int a0]) (n := 1) (Nat.le_of_ble_eq_true rfl)
  rw [lg_entry_eq]
  generalize (lg_sl ([.int a0]) ++ List.replicate (1 - (lg_sl ([.int a0])).length) Slot.unset).toArray = ls at hl ⊢
  have hl : lv_has ls 1 [(0, .int a0)] := hl
  unfold w_X9_isPlace at hw
  refine lv_iload_n hx hb dX9_isPlace_0 rfl (lv_at hl 0 rfl) ?_
  refine lv_bipush (v := 9) hx hb dX9_isPlace_1 (by decide) ?_
  refine cC_Sip (rest := []) ⟨hx, hb, hml, hown, hts⟩ (c_X9_isWithin l Γ hI a0 9 σ _ hw) (va_cwS 2 hts gX9_isPlace_X9_isWithin rfl rfl rfl (by decide +kernel) ⟨Nat.le_of_ble_eq_true rfl, Nat.le_of_ble_eq_true rfl⟩) hK hN hP rfl hl.1 rfl (Nat.le_of_ble_eq_true rfl) dX9_isPlace_3 ⟨Nat.le_refl _, Nat.le_refl _⟩ (fun r1 H locs hw hP => ?_)
  exact W.zret hx hb hr (ft_bz_n hw.1) (cC_ri hP ⟨rfl, hw.2⟩) hP.2.2.2 dX9_isPlace_6
set_option maxHeartbeats 4000000 in
set_option maxRecDepth 100000 in
theorem c_X9_isDeed (l : Launch) (Γ : ft_G) (hI : cC_I Γ) (a0 : Int32) (σ : ft_St) (Φ : Int32 → Prop) (hw : w_X9_isDeed a0  Φ) : cC_Mip l yX9_isDeed wsX9_isDeed ({ frames := 1, cells := 0, slots := 0, locals := 21 } : Room) Γ σ [.int a0] Φ := by
  refine Met.ofW (cc := cX9_isDeed) (maxL := 1) (ret := (some .boolean)) (by decide) rfl ?_
  intro p e s m args below meth c s₁ B hml hv
  obtain ⟨rfl, hP, hK, hN⟩ := hv
  have hx := B.exec
  have hb := B.bytes
  have hr := B.returns
  have hts := atoms_spec (ws := wsX9_isDeed) B.pre
  have hown : s.vm.findClass RX9 = some m.cls := findClass_of_methodNamed B.named
  have hlocks := B.notSynchronized
  have hP : cC_P Γ s σ s.heap [] := ⟨hP, va_S.rf⟩
  have hl := lv_entry ([.int a0]) (n := 1) (Nat.le_of_ble_eq_true rfl)
  rw [lg_entry_eq]
  generalize (lg_sl ([.int a0]) ++ List.replicate (1 - (lg_sl ([.int a0])).length) Slot.unset).toArray = ls at hl ⊢
  have hl : lv_has ls 1 [(0, .int a0)] := hl
  unfold w_X9_isDeed at hw
  refine lv_iload_n hx hb dX9_isDeed_0 rfl (lv_at hl 0 rfl) ?_
  refine lv_bipush (v := 7) hx hb dX9_isDeed_1 (by decide) ?_
  refine cC_Sip (rest := []) ⟨hx, hb, hml, hown, hts⟩ (c_X9_isWithin l Γ hI a0 7 σ _ hw) (va_cwS 2 hts gX9_isDeed_X9_isWithin rfl rfl rfl (by decide +kernel) ⟨Nat.le_of_ble_eq_true rfl, Nat.le_of_ble_eq_true rfl⟩) hK hN hP rfl hl.1 rfl (Nat.le_of_ble_eq_true rfl) dX9_isDeed_3 ⟨Nat.le_refl _, Nat.le_refl _⟩ (fun r1 H locs hw hP => ?_)
  exact W.zret hx hb hr (ft_bz_n hw.1) (cC_ri hP ⟨rfl, hw.2⟩) hP.2.2.2 dX9_isDeed_6
theorem q_X9_refuse_1 : (Cond.fieldLink RX9 257 "FaultTwins" "bads" "I") ∈ wsX9_refuse := List.mem_of_getElem? (i := 1) (by decide +kernel)
theorem q_X9_refuse_2 : (Cond.fieldLink RX9 260 "FaultTwins" "noes" "I") ∈ wsX9_refuse := List.mem_of_getElem? (i := 2) (by decide +kernel)
theorem q_X9_refuse_3 : (Cond.fieldLink RX9 263 "FaultTwins" "fulls" "I") ∈ wsX9_refuse := List.mem_of_getElem? (i := 3) (by decide +kernel)
set_option maxHeartbeats 4000000 in
set_option maxRecDepth 100000 in
theorem c_X9_refuse (l : Launch) (Γ : ft_G) (hI : cC_I Γ) (a1 : Int32) (σ : ft_St) (Φ : Int32 → ft_St → Prop) (hw : w_X9_refuse a1 σ Φ) : cC_Mi l yX9_refuse wsX9_refuse ({ frames := 0, cells := 0, slots := 0, locals := 0 } : Room) Γ σ [.ref (Γ.2.2 0), .int a1] Φ := by
  refine Met.ofW (cc := cX9_refuse) (maxL := 2) (ret := (some .int)) (by decide) rfl ?_
  intro p e s m args below meth c s₁ B hml hv
  obtain ⟨rfl, hP, hK, hN⟩ := hv
  have hx := B.exec
  have hb := B.bytes
  have hr := B.returns
  have hts := atoms_spec (ws := wsX9_refuse) B.pre
  have hown : s.vm.findClass RX9 = some m.cls := findClass_of_methodNamed B.named
  have hlocks := B.notSynchronized
  have i9 : ∀ w ∈ wsX90, w ∈ wsX9_refuse := fun w h => List.mem_cons_of_mem _ (List.mem_append_right _ h)
  have hP : cC_P Γ s σ s.heap [] := ⟨hP, va_S.rf⟩
  have hl := lv_entry ([.ref (Γ.2.2 0), .int a1]) (n := 2) (Nat.le_of_ble_eq_true rfl)
  rw [lg_entry_eq]
  generalize (lg_sl ([.ref (Γ.2.2 0), .int a1]) ++ List.replicate (2 - (lg_sl ([.ref (Γ.2.2 0), .int a1])).length) Slot.unset).toArray = ls at hl ⊢
  have hl : lv_has ls 2 [(0, .ref (Γ.2.2 0)), (1, .int a1)] := hl
  unfold w_X9_refuse at hw
  refine lv_iload_n hx hb dX9_refuse_0 rfl (lv_at hl 1 rfl) ?_
  refine lv_bipush (v := (-2)) hx hb dX9_refuse_1 (by decide) ?_
  refine lv_icmp_ne (tgt := 19) hx hb dX9_refuse_3 (by decide) (fun h => ?_) (fun h => ?_)
  · replace hw := hw.1 h
    refine lv_iload_n hx hb dX9_refuse_19 rfl (lv_at hl 1 rfl) ?_
    refine lv_bipush (v := (-3)) hx hb dX9_refuse_20 (by decide) ?_
    refine lv_icmp_ne (tgt := 38) hx hb dX9_refuse_22 (by decide) (fun h => ?_) (fun h => ?_)
    · replace hw := hw.1 h
      refine lv_aload_n hx hb dX9_refuse_38 rfl (lv_at hl 0 rfl) ?_
      refine lv_dup hx hb dX9_refuse_39 rfl ?_
      refine gC_9_10 hx hb hts i9 hown hK hP hC_0 (hts _ q_X9_refuse_3) dX9_refuse_40 ?_
      refine lv_iconst (v := 1) hx hb dX9_refuse_43 (by decide) ?_
      refine lv_iadd hx hb dX9_refuse_44 ?_
      refine pC_9_10 hx hb hts i9 hown hK hI hP hC_0 (hts _ q_X9_refuse_3) dX9_refuse_45 (fun H locs hP => ?_)
      obtain ⟨s1, hs1⟩ : ∃ u, u = ft_sF σ 0 10 ((σ.1 0 10) + 1) := ⟨_, rfl⟩
      rw [← hs1] at hP
      replace hw := hw s1 hs1
      refine lv_iload_n hx hb dX9_refuse_48 rfl (lv_at hl 1 rfl) ?_
      exact W.iret hx hb hr (cC_ri hP hw) hP.2.2.2 dX9_refuse_49
    · replace hw := hw.2 h
      refine lv_aload_n hx hb dX9_refuse_25 rfl (lv_at hl 0 rfl) ?_
      refine lv_dup hx hb dX9_refuse_26 rfl ?_
      refine gC_9_9 hx hb hts i9 hown hK hP hC_0 (hts _ q_X9_refuse_2) dX9_refuse_27 ?_
      refine lv_iconst (v := 1) hx hb dX9_refuse_30 (by decide) ?_
      refine lv_iadd hx hb dX9_refuse_31 ?_
      refine pC_9_9 hx hb hts i9 hown hK hI hP hC_0 (hts _ q_X9_refuse_2) dX9_refuse_32 (fun H locs hP => ?_)
      obtain ⟨s2, hs2⟩ : ∃ u, u = ft_sF σ 0 9 ((σ.1 0 9) + 1) := ⟨_, rfl⟩
      rw [← hs2] at hP
      replace hw := hw s2 hs2
      refine lv_goto (tgt := 48) hx hb dX9_refuse_35 (by decide) ?_
      refine lv_iload_n hx hb dX9_refuse_48 rfl (lv_at hl 1 rfl) ?_
      exact W.iret hx hb hr (cC_ri hP hw) hP.2.2.2 dX9_refuse_49
  · replace hw := hw.2 h
    refine lv_aload_n hx hb dX9_refuse_6 rfl (lv_at hl 0 rfl) ?_
    refine lv_dup hx hb dX9_refuse_7 rfl ?_
    refine gC_9_8 hx hb hts i9 hown hK hP hC_0 (hts _ q_X9_refuse_1) dX9_refuse_8 ?_
    refine lv_iconst (v := 1) hx hb dX9_refuse_11 (by decide) ?_
    refine lv_iadd hx hb dX9_refuse_12 ?_
    refine pC_9_8 hx hb hts i9 hown hK hI hP hC_0 (hts _ q_X9_refuse_1) dX9_refuse_13 (fun H locs hP => ?_)
    obtain ⟨s3, hs3⟩ : ∃ u, u = ft_sF σ 0 8 ((σ.1 0 8) + 1) := ⟨_, rfl⟩
    rw [← hs3] at hP
    replace hw := hw s3 hs3
    refine lv_goto (tgt := 48) hx hb dX9_refuse_16 (by decide) ?_
    refine lv_iload_n hx hb dX9_refuse_48 rfl (lv_at hl 1 rfl) ?_
    exact W.iret hx hb hr (cC_ri hP hw) hP.2.2.2 dX9_refuse_49
theorem q_X9_lookAnew_1 : (Cond.fieldLink RX9 26 "FaultTwins" "view" "LFaultTwins$View;") ∈ wsX9_lookAnew := List.mem_of_getElem? (i := 1) (by decide +kernel)
theorem q_X9_lookAnew_2 : (Cond.fieldLink RX9 12 "FaultTwins" "now" "LFaultTwins$State;") ∈ wsX9_lookAnew := List.mem_of_getElem? (i := 2) (by decide +kernel)
theorem q_X9_lookAnew_3 : (Cond.fieldLink RX9 75 "FaultTwins$State" "machine" "LFaultTwins$Machine;") ∈ wsX9_lookAnew := List.mem_of_getElem? (i := 3) (by decide +kernel)
theorem q_X9_lookAnew_4 : (Cond.fieldLink RX9 288 "FaultTwins" "setsHold" "Z") ∈ wsX9_lookAnew := List.mem_of_getElem? (i := 4) (by decide +kernel)
theorem q_X9_lookAnew_5 : (Cond.fieldLink RX9 291 "FaultTwins" "twinsHold" "Z") ∈ wsX9_lookAnew := List.mem_of_getElem? (i := 5) (by decide +kernel)
theorem q_X9_lookAnew_6 : (Cond.fieldLink RX9 215 "FaultTwins" "fewestHold" "Z") ∈ wsX9_lookAnew := List.mem_of_getElem? (i := 6) (by decide +kernel)
set_option maxHeartbeats 4000000 in
set_option maxRecDepth 100000 in
theorem c_X9_lookAnew (l : Launch) (Γ : ft_G) (hI : cC_I Γ)  (σ : ft_St) (Φ : ft_St → Prop) (hw : w_X9_lookAnew  σ Φ) : cC_Mv l yX9_lookAnew wsX9_lookAnew ({ frames := 4, cells := 0, slots := 0, locals := 92 } : Room) Γ σ [.ref (Γ.2.2 0)] Φ := by
  refine Met.ofW (cc := cX9_lookAnew) (maxL := 1) (ret := none) (by decide) rfl ?_
  intro p e s m args below meth c s₁ B hml hv
  obtain ⟨rfl, hP, hK, hN⟩ := hv
  have hx := B.exec
  have hb := B.bytes
  have hr := B.returns
  have hts := atoms_spec (ws := wsX9_lookAnew) B.pre
  have hown : s.vm.findClass RX9 = some m.cls := findClass_of_methodNamed B.named
  have hlocks := B.notSynchronized
  have i4 : ∀ w ∈ wsX40, w ∈ wsX9_lookAnew := fun w h => List.mem_cons_of_mem _ (List.mem_append_left _ (List.mem_append_left _ (List.mem_append_right _ h)))
  have i9 : ∀ w ∈ wsX90, w ∈ wsX9_lookAnew := fun w h => List.mem_cons_of_mem _ (List.mem_append_left _ (List.mem_append_left _ (List.mem_append_left _ (List.mem_append_right _ h))))
  have hP : cC_P Γ s σ s.heap [] := ⟨hP, va_S.rf⟩
  have hl := lv_entry ([.ref (Γ.2.2 0)]) (n := 1) (Nat.le_of_ble_eq_true rfl)
  rw [lg_entry_eq]
  generalize (lg_sl ([.ref (Γ.2.2 0)]) ++ List.replicate (1 - (lg_sl ([.ref (Γ.2.2 0)])).length) Slot.unset).toArray = ls at hl ⊢
  have hl : lv_has ls 1 [(0, .ref (Γ.2.2 0))] := hl
  unfold w_X9_lookAnew at hw
  refine lv_aload_n hx hb dX9_lookAnew_0 rfl (lv_at hl 0 rfl) ?_
  refine gC_9_2 hx hb hts i9 hown hK hP hC_0 (hts _ q_X9_lookAnew_1) dX9_lookAnew_1 ?_
  refine lv_aload_n hx hb dX9_lookAnew_4 rfl (lv_at hl 0 rfl) ?_
  refine gC_9_0 hx hb hts i9 hown hK hP hC_0 (hts _ q_X9_lookAnew_2) dX9_lookAnew_5 ?_
  refine gC_4_0 hx hb hts i4 hown hK hP hC_1 (hts _ q_X9_lookAnew_3) dX9_lookAnew_8 ?_
  refine cC_Vv (rest := []) ⟨hx, hb, hml, hown, hts⟩ (c_X7_look l Γ hI 52 hC_52 2 hC_2 σ _ hw) (cwV 1 hts gX9_lookAnew_X7_look rfl rfl rfl (by decide +kernel) ⟨Nat.le_of_ble_eq_true rfl, Nat.le_of_ble_eq_true rfl⟩) hK hN hP (cC_lt hC_52 (by decide)) (cC_E7 hC_52) rfl rfl rfl hl.1 rfl (Nat.le_of_ble_eq_true rfl) dX9_lookAnew_11 ⟨Nat.le_refl _, Nat.le_refl _⟩ (fun s1 H locs hw hP => ?_)
  refine lv_aload_n hx hb dX9_lookAnew_14 rfl (lv_at hl 0 rfl) ?_
  refine lv_iconst (v := 0) hx hb dX9_lookAnew_15 (by decide) ?_
  refine pC_9_12 hx hb hts i9 hown hK hI hP hC_0 (hts _ q_X9_lookAnew_4) (Or.inl rfl) dX9_lookAnew_16 (fun H locs hP => ?_)
  obtain ⟨s2, hs2⟩ : ∃ u, u = ft_sF s1 0 12 0 := ⟨_, rfl⟩
  rw [← hs2] at hP
  replace hw := hw s2 hs2
  refine lv_aload_n hx hb dX9_lookAnew_19 rfl (lv_at hl 0 rfl) ?_
  refine lv_iconst (v := 0) hx hb dX9_lookAnew_20 (by decide) ?_
  refine pC_9_13 hx hb hts i9 hown hK hI hP hC_0 (hts _ q_X9_lookAnew_5) (Or.inl rfl) dX9_lookAnew_21 (fun H locs hP => ?_)
  obtain ⟨s3, hs3⟩ : ∃ u, u = ft_sF s2 0 13 0 := ⟨_, rfl⟩
  rw [← hs3] at hP
  replace hw := hw s3 hs3
  refine lv_aload_n hx hb dX9_lookAnew_24 rfl (lv_at hl 0 rfl) ?_
  refine lv_iconst (v := 0) hx hb dX9_lookAnew_25 (by decide) ?_
  refine pC_9_14 hx hb hts i9 hown hK hI hP hC_0 (hts _ q_X9_lookAnew_6) (Or.inl rfl) dX9_lookAnew_26 (fun H locs hP => ?_)
  obtain ⟨s4, hs4⟩ : ∃ u, u = ft_sF s3 0 14 0 := ⟨_, rfl⟩
  rw [← hs4] at hP
  replace hw := hw s4 hs4
  exact W.vret hx hb hr (cC_rv hP hw) hP.2.2.2 dX9_lookAnew_29
theorem q_X9_beginAnew_1 : (Cond.fieldLink RX9 12 "FaultTwins" "now" "LFaultTwins$State;") ∈ wsX9_beginAnew := List.mem_of_getElem? (i := 1) (by decide +kernel)
theorem q_X9_beginAnew_2 : (Cond.fieldLink RX9 146 "FaultTwins$State" "watch" "LFaultTwins$Watch;") ∈ wsX9_beginAnew := List.mem_of_getElem? (i := 2) (by decide +kernel)
theorem q_X9_beginAnew_3 : (Cond.fieldLink RX9 26 "FaultTwins" "view" "LFaultTwins$View;") ∈ wsX9_beginAnew := List.mem_of_getElem? (i := 3) (by decide +kernel)
set_option maxHeartbeats 4000000 in
set_option maxRecDepth 100000 in
theorem c_X9_beginAnew (l : Launch) (Γ : ft_G) (hI : cC_I Γ)  (σ : ft_St) (Φ : ft_St → Prop) (hw : w_X9_beginAnew  σ Φ) : cC_Mv l yX9_beginAnew wsX9_beginAnew ({ frames := 5, cells := 0, slots := 0, locals := 112 } : Room) Γ σ [.ref (Γ.2.2 0)] Φ := by
  refine Met.ofW (cc := cX9_beginAnew) (maxL := 1) (ret := none) (by decide) rfl ?_
  intro p e s m args below meth c s₁ B hml hv
  obtain ⟨rfl, hP, hK, hN⟩ := hv
  have hx := B.exec
  have hb := B.bytes
  have hr := B.returns
  have hts := atoms_spec (ws := wsX9_beginAnew) B.pre
  have hown : s.vm.findClass RX9 = some m.cls := findClass_of_methodNamed B.named
  have hlocks := B.notSynchronized
  have i4 : ∀ w ∈ wsX40, w ∈ wsX9_beginAnew := fun w h => List.mem_cons_of_mem _ (List.mem_append_left _ (List.mem_append_left _ (List.mem_append_left _ (List.mem_append_right _ h))))
  have i9 : ∀ w ∈ wsX90, w ∈ wsX9_beginAnew := fun w h => List.mem_cons_of_mem _ (List.mem_append_left _ (List.mem_append_left _ (List.mem_append_left _ (List.mem_append_left _ (List.mem_append_right _ h)))))
  have hP : cC_P Γ s σ s.heap [] := ⟨hP, va_S.rf⟩
  have hl := lv_entry ([.ref (Γ.2.2 0)]) (n := 1) (Nat.le_of_ble_eq_true rfl)
  rw [lg_entry_eq]
  generalize (lg_sl ([.ref (Γ.2.2 0)]) ++ List.replicate (1 - (lg_sl ([.ref (Γ.2.2 0)])).length) Slot.unset).toArray = ls at hl ⊢
  have hl : lv_has ls 1 [(0, .ref (Γ.2.2 0))] := hl
  unfold w_X9_beginAnew at hw
  refine lv_aload_n hx hb dX9_beginAnew_0 rfl (lv_at hl 0 rfl) ?_
  refine cC_Vv (rest := []) ⟨hx, hb, hml, hown, hts⟩ (c_X9_lookAnew l Γ hI  σ _ hw) (cwV 0 hts gX9_beginAnew_X9_lookAnew rfl rfl rfl (by decide +kernel) ⟨Nat.le_of_ble_eq_true rfl, Nat.le_of_ble_eq_true rfl⟩) hK hN hP (cC_lt hC_0 (by decide)) (cC_E9 hC_0) rfl rfl rfl hl.1 rfl (Nat.le_of_ble_eq_true rfl) dX9_beginAnew_1 ⟨Nat.le_refl _, Nat.le_refl _⟩ (fun s1 H locs hw hP => ?_)
  refine lv_aload_n hx hb dX9_beginAnew_4 rfl (lv_at hl 0 rfl) ?_
  refine gC_9_0 hx hb hts i9 hown hK hP hC_0 (hts _ q_X9_beginAnew_1) dX9_beginAnew_5 ?_
  refine gC_4_1 hx hb hts i4 hown hK hP hC_1 (hts _ q_X9_beginAnew_2) dX9_beginAnew_8 ?_
  refine lv_aload_n hx hb dX9_beginAnew_11 rfl (lv_at hl 0 rfl) ?_
  refine gC_9_2 hx hb hts i9 hown hK hP hC_0 (hts _ q_X9_beginAnew_3) dX9_beginAnew_12 ?_
  refine cC_Vip (rest := [.ref (Γ.2.2 6)]) ⟨hx, hb, hml, hown, hts⟩ (c_X7_first l Γ hI 52 hC_52 s1 _ hw) (cwV 0 hts gX9_beginAnew_X7_first rfl rfl rfl (by decide +kernel) ⟨Nat.le_of_ble_eq_true rfl, Nat.le_of_ble_eq_true rfl⟩) hK hN hP (cC_lt hC_52 (by decide)) (cC_E7 hC_52) rfl rfl rfl hl.1 rfl (Nat.le_of_ble_eq_true rfl) dX9_beginAnew_15 ⟨Nat.le_refl _, Nat.le_refl _⟩ (fun r2 H locs hw hP => ?_)
  refine cC_Vv (rest := []) ⟨hx, hb, hml, hown, hts⟩ (c_X8_begin l Γ hI 6 hC_6 r2 s1 _ hw) (cwV 1 hts gX9_beginAnew_X8_begin rfl rfl rfl (by decide +kernel) ⟨Nat.le_of_ble_eq_true rfl, Nat.le_of_ble_eq_true rfl⟩) hK hN hP (cC_lt hC_6 (by decide)) (cC_E8 hC_6) rfl rfl rfl hl.1 rfl (Nat.le_of_ble_eq_true rfl) dX9_beginAnew_18 ⟨Nat.le_refl _, Nat.le_refl _⟩ (fun s3 H locs hw hP => ?_)
  exact W.vret hx hb hr (cC_rv hP hw) hP.2.2.2 dX9_beginAnew_21
theorem q_X9_way_1 : (Cond.fieldLink RX9 12 "FaultTwins" "now" "LFaultTwins$State;") ∈ wsX9_way := List.mem_of_getElem? (i := 1) (by decide +kernel)
theorem q_X9_way_2 : (Cond.fieldLink RX9 75 "FaultTwins$State" "machine" "LFaultTwins$Machine;") ∈ wsX9_way := List.mem_of_getElem? (i := 2) (by decide +kernel)
theorem q_X9_way_3 : (Cond.fieldLink RX9 19 "FaultTwins" "history" "LFaultTwins$History;") ∈ wsX9_way := List.mem_of_getElem? (i := 3) (by decide +kernel)
theorem q_X9_way_4 : (Cond.fieldLink RX9 97 "FaultTwins$Machine" "ways" "I") ∈ wsX9_way := List.mem_of_getElem? (i := 4) (by decide +kernel)
set_option maxHeartbeats 4000000 in
set_option maxRecDepth 100000 in
theorem c_X9_way (l : Launch) (Γ : ft_G) (hI : cC_I Γ) (a1 : Int32) (a2 : Int32) (a3 : Int32) (σ : ft_St) (Φ : Int32 → ft_St → Prop) (hw : w_X9_way a1 a2 a3 σ Φ) : cC_Mi l yX9_way wsX9_way ({ frames := 6, cells := 0, slots := 0, locals := 132 } : Room) Γ σ [.ref (Γ.2.2 0), .int a1, .int a2, .int a3] Φ := by
  refine Met.ofW (cc := cX9_way) (maxL := 4) (ret := (some .int)) (by decide) rfl ?_
  intro p e s m args below meth c s₁ B hml hv
  obtain ⟨rfl, hP, hK, hN⟩ := hv
  have hx := B.exec
  have hb := B.bytes
  have hr := B.returns
  have hts := atoms_spec (ws := wsX9_way) B.pre
  have hown : s.vm.findClass RX9 = some m.cls := findClass_of_methodNamed B.named
  have hlocks := B.notSynchronized
  have i1 : ∀ w ∈ wsX10, w ∈ wsX9_way := fun w h => List.mem_cons_of_mem _ (List.mem_append_left _ (List.mem_append_left _ (List.mem_append_left _ (List.mem_append_right _ h))))
  have i4 : ∀ w ∈ wsX40, w ∈ wsX9_way := fun w h => List.mem_cons_of_mem _ (List.mem_append_left _ (List.mem_append_left _ (List.mem_append_left _ (List.mem_append_left _ (List.mem_append_right _ h)))))
  have i9 : ∀ w ∈ wsX90, w ∈ wsX9_way := fun w h => List.mem_cons_of_mem _ (List.mem_append_left _ (List.mem_append_left _ (List.mem_append_left _ (List.mem_append_left _ (List.mem_append_left _ (List.mem_append_right _ h))))))
  have hP : cC_P Γ s σ s.heap [] := ⟨hP, va_S.rf⟩
  have hl := lv_entry ([.ref (Γ.2.2 0), .int a1, .int a2, .int a3]) (n := 4) (Nat.le_of_ble_eq_true rfl)
  rw [lg_entry_eq]
  generalize (lg_sl ([.ref (Γ.2.2 0), .int a1, .int a2, .int a3]) ++ List.replicate (4 - (lg_sl ([.ref (Γ.2.2 0), .int a1, .int a2, .int a3])).length) Slot.unset).toArray = ls at hl ⊢
  have hl : lv_has ls 4 [(0, .ref (Γ.2.2 0)), (1, .int a1), (2, .int a2), (3, .int a3)] := hl
  unfold w_X9_way at hw
  refine lv_iload_n hx hb dX9_way_0 rfl (lv_at hl 1 rfl) ?_
  refine cC_Sip (rest := []) ⟨hx, hb, hml, hown, hts⟩ (c_X9_isPlace l Γ hI a1 σ _ hw) (va_cwS 1 hts gX9_way_X9_isPlace rfl rfl rfl (by decide +kernel) ⟨Nat.le_of_ble_eq_true rfl, Nat.le_of_ble_eq_true rfl⟩) hK hN hP rfl hl.1 rfl (Nat.le_of_ble_eq_true rfl) dX9_way_1 ⟨Nat.le_refl _, Nat.le_refl _⟩ (fun r1 H locs hw hP => ?_)
  refine ft_cut (hw (∀ (H : Heap) (locs : List Loc) (ls : Array Slot), cC_P Γ s σ H locs → lv_has ls 4 [(0, .ref (Γ.2.2 0))] → cC_Wi p l e ({ frames := 6, cells := 0, slots := 0, locals := 132 } : Room) s m [.ref (Γ.2.2 0), .int a1, .int a2, .int a3] below meth c Γ Φ H locs 21 ls []) (fun  hw H locs ls hP hl => ?_)) (fun hw => ?_)
  · refine lv_aload_n hx hb dX9_way_21 rfl (lv_at hl 0 rfl) ?_
    refine lv_bipush (v := (-2)) hx hb dX9_way_22 (by decide) ?_
    refine cC_Vi (rest := []) ⟨hx, hb, hml, hown, hts⟩ (c_X9_refuse l Γ hI (-2) σ _ hw) (cwV 1 hts gX9_way_X9_refuse rfl rfl rfl (by decide +kernel) ⟨Nat.le_of_ble_eq_true rfl, Nat.le_of_ble_eq_true rfl⟩) hK hN hP (cC_lt hC_0 (by decide)) (cC_E9 hC_0) rfl rfl rfl hl.1 rfl (Nat.le_of_ble_eq_true rfl) dX9_way_24 ⟨Nat.le_refl _, Nat.le_refl _⟩ (fun r3 s4 H locs hw hP => ?_)
    exact W.iret hx hb hr (cC_ri hP hw) hP.2.2.2 dX9_way_27
  · refine lv_if_eq (tgt := 21) hx hb dX9_way_4 (by decide) (fun h => ?_) (fun h => ?_)
    · replace hw := hw.1 h
      exact hw _ _ _ hP (lv_sub hl [0] rfl)
    · replace hw := hw.2 h
      refine lv_iload_n hx hb dX9_way_7 rfl (lv_at hl 2 rfl) ?_
      refine cC_Sip (rest := []) ⟨hx, hb, hml, hown, hts⟩ (c_X9_isDeed l Γ hI a2 σ _ hw) (va_cwS 1 hts gX9_way_X9_isDeed rfl rfl rfl (by decide +kernel) ⟨Nat.le_of_ble_eq_true rfl, Nat.le_of_ble_eq_true rfl⟩) hK hN hP rfl hl.1 rfl (Nat.le_of_ble_eq_true rfl) dX9_way_8 ⟨Nat.le_refl _, Nat.le_refl _⟩ (fun r5 H locs hw hP => ?_)
      refine lv_if_eq (tgt := 21) hx hb dX9_way_11 (by decide) (fun h => ?_) (fun h => ?_)
      · replace hw := hw.1 h
        exact hw _ _ _ hP (lv_sub hl [0] rfl)
      · replace hw := hw.2 h
        refine lv_iload_n hx hb dX9_way_14 rfl (lv_at hl 3 rfl) ?_
        refine cC_Sip (rest := []) ⟨hx, hb, hml, hown, hts⟩ (c_X9_isPlace l Γ hI a3 σ _ hw) (va_cwS 1 hts gX9_way_X9_isPlace rfl rfl rfl (by decide +kernel) ⟨Nat.le_of_ble_eq_true rfl, Nat.le_of_ble_eq_true rfl⟩) hK hN hP rfl hl.1 rfl (Nat.le_of_ble_eq_true rfl) dX9_way_15 ⟨Nat.le_refl _, Nat.le_refl _⟩ (fun r6 H locs hw hP => ?_)
        refine lv_if_ne (tgt := 28) hx hb dX9_way_18 (by decide) (fun h => ?_) (fun h => ?_)
        · replace hw := hw.1 h
          refine lv_aload_n hx hb dX9_way_28 rfl (lv_at hl 0 rfl) ?_
          refine gC_9_0 hx hb hts i9 hown hK hP hC_0 (hts _ q_X9_way_1) dX9_way_29 ?_
          refine gC_4_0 hx hb hts i4 hown hK hP hC_1 (hts _ q_X9_way_2) dX9_way_32 ?_
          refine lv_iload_n hx hb dX9_way_35 rfl (lv_at hl 1 rfl) ?_
          refine lv_iload_n hx hb dX9_way_36 rfl (lv_at hl 2 rfl) ?_
          refine lv_iload_n hx hb dX9_way_37 rfl (lv_at hl 3 rfl) ?_
          refine cC_Vip (rest := []) ⟨hx, hb, hml, hown, hts⟩ (c_X1_has l Γ hI 2 hC_2 a1 a2 a3 σ _ hw) (cwV 3 hts gX9_way_X1_has rfl rfl rfl (by decide +kernel) ⟨Nat.le_of_ble_eq_true rfl, Nat.le_of_ble_eq_true rfl⟩) hK hN hP (cC_lt hC_2 (by decide)) (cC_E1 hC_2) rfl rfl rfl hl.1 rfl (Nat.le_of_ble_eq_true rfl) dX9_way_38 ⟨Nat.le_refl _, Nat.le_refl _⟩ (fun r7 H locs hw hP => ?_)
          refine lv_if_eq (tgt := 51) hx hb dX9_way_41 (by decide) (fun h => ?_) (fun h => ?_)
          · replace hw := hw.1 h
            refine lv_aload_n hx hb dX9_way_51 rfl (lv_at hl 0 rfl) ?_
            refine gC_9_0 hx hb hts i9 hown hK hP hC_0 (hts _ q_X9_way_1) dX9_way_52 ?_
            refine gC_4_0 hx hb hts i4 hown hK hP hC_1 (hts _ q_X9_way_2) dX9_way_55 ?_
            refine cC_Vip (rest := []) ⟨hx, hb, hml, hown, hts⟩ (c_X1_isFull l Γ hI 2 hC_2 σ _ hw) (cwV 0 hts gX9_way_X1_isFull rfl rfl rfl (by decide +kernel) ⟨Nat.le_of_ble_eq_true rfl, Nat.le_of_ble_eq_true rfl⟩) hK hN hP (cC_lt hC_2 (by decide)) (cC_E1 hC_2) rfl rfl rfl hl.1 rfl (Nat.le_of_ble_eq_true rfl) dX9_way_58 ⟨Nat.le_refl _, Nat.le_refl _⟩ (fun r8 H locs hw hP => ?_)
            refine lv_if_eq (tgt := 71) hx hb dX9_way_61 (by decide) (fun h => ?_) (fun h => ?_)
            · replace hw := hw.1 h
              refine lv_aload_n hx hb dX9_way_71 rfl (lv_at hl 0 rfl) ?_
              refine gC_9_1 hx hb hts i9 hown hK hP hC_0 (hts _ q_X9_way_3) dX9_way_72 ?_
              refine lv_aload_n hx hb dX9_way_75 rfl (lv_at hl 0 rfl) ?_
              refine gC_9_0 hx hb hts i9 hown hK hP hC_0 (hts _ q_X9_way_1) dX9_way_76 ?_
              refine cC_Vv (rest := []) ⟨hx, hb, hml, hown, hts⟩ (c_X0_keep l Γ hI 8 hC_8 1 hC_1 σ _ hw) (cwV 1 hts gX9_way_X0_keep rfl rfl rfl (by decide +kernel) ⟨Nat.le_of_ble_eq_true rfl, Nat.le_of_ble_eq_true rfl⟩) hK hN hP (cC_lt hC_8 (by decide)) (cC_E0 hC_8) rfl rfl rfl hl.1 rfl (Nat.le_of_ble_eq_true rfl) dX9_way_79 ⟨Nat.le_refl _, Nat.le_refl _⟩ (fun s9 H locs hw hP => ?_)
              refine lv_aload_n hx hb dX9_way_82 rfl (lv_at hl 0 rfl) ?_
              refine gC_9_0 hx hb hts i9 hown hK hP hC_0 (hts _ q_X9_way_1) dX9_way_83 ?_
              refine gC_4_0 hx hb hts i4 hown hK hP hC_1 (hts _ q_X9_way_2) dX9_way_86 ?_
              refine lv_iload_n hx hb dX9_way_89 rfl (lv_at hl 1 rfl) ?_
              refine lv_iload_n hx hb dX9_way_90 rfl (lv_at hl 2 rfl) ?_
              refine lv_iload_n hx hb dX9_way_91 rfl (lv_at hl 3 rfl) ?_
              refine cC_Vv (rest := []) ⟨hx, hb, hml, hown, hts⟩ (c_X1_add l Γ hI 2 hC_2 a1 a2 a3 s9 _ hw) (cwV 3 hts gX9_way_X1_add rfl rfl rfl (by decide +kernel) ⟨Nat.le_of_ble_eq_true rfl, Nat.le_of_ble_eq_true rfl⟩) hK hN hP (cC_lt hC_2 (by decide)) (cC_E1 hC_2) rfl rfl rfl hl.1 rfl (Nat.le_of_ble_eq_true rfl) dX9_way_92 ⟨Nat.le_refl _, Nat.le_refl _⟩ (fun s10 H locs hw hP => ?_)
              refine lv_aload_n hx hb dX9_way_95 rfl (lv_at hl 0 rfl) ?_
              refine cC_Vv (rest := []) ⟨hx, hb, hml, hown, hts⟩ (c_X9_beginAnew l Γ hI  s10 _ hw) (cwV 0 hts gX9_way_X9_beginAnew rfl rfl rfl (by decide +kernel) ⟨Nat.le_of_ble_eq_true rfl, Nat.le_of_ble_eq_true rfl⟩) hK hN hP (cC_lt hC_0 (by decide)) (cC_E9 hC_0) rfl rfl rfl hl.1 rfl (Nat.le_of_ble_eq_true rfl) dX9_way_96 ⟨Nat.le_refl _, Nat.le_refl _⟩ (fun s11 H locs hw hP => ?_)
              refine lv_aload_n hx hb dX9_way_99 rfl (lv_at hl 0 rfl) ?_
              refine gC_9_0 hx hb hts i9 hown hK hP hC_0 (hts _ q_X9_way_1) dX9_way_100 ?_
              refine gC_4_0 hx hb hts i4 hown hK hP hC_1 (hts _ q_X9_way_2) dX9_way_103 ?_
              refine gC_1_3 hx hb hts i1 hown hK hP hC_2 (hts _ q_X9_way_4) dX9_way_106 ?_
              refine lv_iconst (v := 1) hx hb dX9_way_109 (by decide) ?_
              refine lv_isub hx hb dX9_way_110 ?_
              exact W.iret hx hb hr (cC_ri hP hw) hP.2.2.2 dX9_way_111
            · replace hw := hw.2 h
              refine lv_aload_n hx hb dX9_way_64 rfl (lv_at hl 0 rfl) ?_
              refine lv_bipush (v := (-4)) hx hb dX9_way_65 (by decide) ?_
              refine cC_Vi (rest := []) ⟨hx, hb, hml, hown, hts⟩ (c_X9_refuse l Γ hI (-4) σ _ hw) (cwV 1 hts gX9_way_X9_refuse rfl rfl rfl (by decide +kernel) ⟨Nat.le_of_ble_eq_true rfl, Nat.le_of_ble_eq_true rfl⟩) hK hN hP (cC_lt hC_0 (by decide)) (cC_E9 hC_0) rfl rfl rfl hl.1 rfl (Nat.le_of_ble_eq_true rfl) dX9_way_67 ⟨Nat.le_refl _, Nat.le_refl _⟩ (fun r12 s13 H locs hw hP => ?_)
              exact W.iret hx hb hr (cC_ri hP hw) hP.2.2.2 dX9_way_70
          · replace hw := hw.2 h
            refine lv_aload_n hx hb dX9_way_44 rfl (lv_at hl 0 rfl) ?_
            refine lv_bipush (v := (-3)) hx hb dX9_way_45 (by decide) ?_
            refine cC_Vi (rest := []) ⟨hx, hb, hml, hown, hts⟩ (c_X9_refuse l Γ hI (-3) σ _ hw) (cwV 1 hts gX9_way_X9_refuse rfl rfl rfl (by decide +kernel) ⟨Nat.le_of_ble_eq_true rfl, Nat.le_of_ble_eq_true rfl⟩) hK hN hP (cC_lt hC_0 (by decide)) (cC_E9 hC_0) rfl rfl rfl hl.1 rfl (Nat.le_of_ble_eq_true rfl) dX9_way_47 ⟨Nat.le_refl _, Nat.le_refl _⟩ (fun r14 s15 H locs hw hP => ?_)
            exact W.iret hx hb hr (cC_ri hP hw) hP.2.2.2 dX9_way_50
        · replace hw := hw.2 h
          exact hw _ _ _ hP (lv_sub hl [0] rfl)
theorem q_X9_isWay_1 : (Cond.fieldLink RX9 12 "FaultTwins" "now" "LFaultTwins$State;") ∈ wsX9_isWay := List.mem_of_getElem? (i := 1) (by decide +kernel)
theorem q_X9_isWay_2 : (Cond.fieldLink RX9 75 "FaultTwins$State" "machine" "LFaultTwins$Machine;") ∈ wsX9_isWay := List.mem_of_getElem? (i := 2) (by decide +kernel)
theorem q_X9_isWay_3 : (Cond.fieldLink RX9 97 "FaultTwins$Machine" "ways" "I") ∈ wsX9_isWay := List.mem_of_getElem? (i := 3) (by decide +kernel)
set_option maxHeartbeats 4000000 in
set_option maxRecDepth 100000 in
theorem c_X9_isWay (l : Launch) (Γ : ft_G) (hI : cC_I Γ) (a1 : Int32) (σ : ft_St) (Φ : Int32 → Prop) (hw : w_X9_isWay a1 σ Φ) : cC_Mip l yX9_isWay wsX9_isWay ({ frames := 0, cells := 0, slots := 0, locals := 0 } : Room) Γ σ [.ref (Γ.2.2 0), .int a1] Φ := by
  refine Met.ofW (cc := cX9_isWay) (maxL := 2) (ret := (some .boolean)) (by decide) rfl ?_
  intro p e s m args below meth c s₁ B hml hv
  obtain ⟨rfl, hP, hK, hN⟩ := hv
  have hx := B.exec
  have hb := B.bytes
  have hr := B.returns
  have hts := atoms_spec (ws := wsX9_isWay) B.pre
  have hown : s.vm.findClass RX9 = some m.cls := findClass_of_methodNamed B.named
  have hlocks := B.notSynchronized
  have i1 : ∀ w ∈ wsX10, w ∈ wsX9_isWay := fun w h => List.mem_cons_of_mem _ (List.mem_append_right _ h)
  have i4 : ∀ w ∈ wsX40, w ∈ wsX9_isWay := fun w h => List.mem_cons_of_mem _ (List.mem_append_left _ (List.mem_append_right _ h))
  have i9 : ∀ w ∈ wsX90, w ∈ wsX9_isWay := fun w h => List.mem_cons_of_mem _ (List.mem_append_left _ (List.mem_append_left _ (List.mem_append_right _ h)))
  have hP : cC_P Γ s σ s.heap [] := ⟨hP, va_S.rf⟩
  have hl := lv_entry ([.ref (Γ.2.2 0), .int a1]) (n := 2) (Nat.le_of_ble_eq_true rfl)
  rw [lg_entry_eq]
  generalize (lg_sl ([.ref (Γ.2.2 0), .int a1]) ++ List.replicate (2 - (lg_sl ([.ref (Γ.2.2 0), .int a1])).length) Slot.unset).toArray = ls at hl ⊢
  have hl : lv_has ls 2 [(0, .ref (Γ.2.2 0)), (1, .int a1)] := hl
  unfold w_X9_isWay at hw
  refine lv_iload_n hx hb dX9_isWay_0 rfl (lv_at hl 1 rfl) ?_
  refine ft_cut (hw (∀ (H : Heap) (locs : List Loc) (ls : Array Slot), cC_P Γ s σ H locs → lv_has ls 2 [] → cC_Wi p l e ({ frames := 0, cells := 0, slots := 0, locals := 0 } : Room) s m [.ref (Γ.2.2 0), .int a1] below meth c Γ (fun r u => u = σ ∧ Φ r) H locs 22 ls []) (fun  hw H locs ls hP hl => ?_)) (fun hw => ?_)
  · refine lv_iconst (v := 0) hx hb dX9_isWay_22 (by decide) ?_
    exact W.zret hx hb hr rfl (cC_ri hP ⟨rfl, hw⟩) hP.2.2.2 dX9_isWay_23
  · refine lv_if_lt (tgt := 22) hx hb dX9_isWay_1 (by decide) (fun h => ?_) (fun h => ?_)
    · replace hw := hw.1 h
      exact hw _ _ _ hP (lv_sub hl [] rfl)
    · replace hw := hw.2 h
      refine lv_iload_n hx hb dX9_isWay_4 rfl (lv_at hl 1 rfl) ?_
      refine lv_aload_n hx hb dX9_isWay_5 rfl (lv_at hl 0 rfl) ?_
      refine gC_9_0 hx hb hts i9 hown hK hP hC_0 (hts _ q_X9_isWay_1) dX9_isWay_6 ?_
      refine gC_4_0 hx hb hts i4 hown hK hP hC_1 (hts _ q_X9_isWay_2) dX9_isWay_9 ?_
      refine gC_1_3 hx hb hts i1 hown hK hP hC_2 (hts _ q_X9_isWay_3) dX9_isWay_12 ?_
      refine lv_icmp_ge (tgt := 22) hx hb dX9_isWay_15 (by decide) (fun h => ?_) (fun h => ?_)
      · replace hw := hw.1 h
        exact hw _ _ _ hP (lv_sub hl [] rfl)
      · replace hw := hw.2 h
        refine lv_iconst (v := 1) hx hb dX9_isWay_18 (by decide) ?_
        refine lv_goto (tgt := 23) hx hb dX9_isWay_19 (by decide) ?_
        exact W.zret hx hb hr rfl (cC_ri hP ⟨rfl, hw⟩) hP.2.2.2 dX9_isWay_23
theorem q_X9_drop_1 : (Cond.fieldLink RX9 19 "FaultTwins" "history" "LFaultTwins$History;") ∈ wsX9_drop := List.mem_of_getElem? (i := 1) (by decide +kernel)
theorem q_X9_drop_2 : (Cond.fieldLink RX9 12 "FaultTwins" "now" "LFaultTwins$State;") ∈ wsX9_drop := List.mem_of_getElem? (i := 2) (by decide +kernel)
theorem q_X9_drop_3 : (Cond.fieldLink RX9 75 "FaultTwins$State" "machine" "LFaultTwins$Machine;") ∈ wsX9_drop := List.mem_of_getElem? (i := 3) (by decide +kernel)
theorem q_X9_drop_4 : (Cond.fieldLink RX9 97 "FaultTwins$Machine" "ways" "I") ∈ wsX9_drop := List.mem_of_getElem? (i := 4) (by decide +kernel)
set_option maxHeartbeats 4000000 in
set_option maxRecDepth 100000 in
theorem c_X9_drop (l : Launch) (Γ : ft_G) (hI : cC_I Γ) (a1 : Int32) (σ : ft_St) (Φ : Int32 → ft_St → Prop) (hw : w_X9_drop a1 σ Φ) : cC_Mi l yX9_drop wsX9_drop ({ frames := 6, cells := 0, slots := 0, locals := 132 } : Room) Γ σ [.ref (Γ.2.2 0), .int a1] Φ := by
  refine Met.ofW (cc := cX9_drop) (maxL := 2) (ret := (some .int)) (by decide) rfl ?_
  intro p e s m args below meth c s₁ B hml hv
  obtain ⟨rfl, hP, hK, hN⟩ := hv
  have hx := B.exec
  have hb := B.bytes
  have hr := B.returns
  have hts := atoms_spec (ws := wsX9_drop) B.pre
  have hown : s.vm.findClass RX9 = some m.cls := findClass_of_methodNamed B.named
  have hlocks := B.notSynchronized
  have i1 : ∀ w ∈ wsX10, w ∈ wsX9_drop := fun w h => List.mem_cons_of_mem _ (List.mem_append_left _ (List.mem_append_left _ (List.mem_append_left _ (List.mem_append_right _ h))))
  have i4 : ∀ w ∈ wsX40, w ∈ wsX9_drop := fun w h => List.mem_cons_of_mem _ (List.mem_append_left _ (List.mem_append_left _ (List.mem_append_left _ (List.mem_append_left _ (List.mem_append_right _ h)))))
  have i9 : ∀ w ∈ wsX90, w ∈ wsX9_drop := fun w h => List.mem_cons_of_mem _ (List.mem_append_left _ (List.mem_append_left _ (List.mem_append_left _ (List.mem_append_left _ (List.mem_append_left _ (List.mem_append_right _ h))))))
  have hP : cC_P Γ s σ s.heap [] := ⟨hP, va_S.rf⟩
  have hl := lv_entry ([.ref (Γ.2.2 0), .int a1]) (n := 2) (Nat.le_of_ble_eq_true rfl)
  rw [lg_entry_eq]
  generalize (lg_sl ([.ref (Γ.2.2 0), .int a1]) ++ List.replicate (2 - (lg_sl ([.ref (Γ.2.2 0), .int a1])).length) Slot.unset).toArray = ls at hl ⊢
  have hl : lv_has ls 2 [(0, .ref (Γ.2.2 0)), (1, .int a1)] := hl
  unfold w_X9_drop at hw
  refine lv_aload_n hx hb dX9_drop_0 rfl (lv_at hl 0 rfl) ?_
  refine lv_iload_n hx hb dX9_drop_1 rfl (lv_at hl 1 rfl) ?_
  refine cC_Vip (rest := []) ⟨hx, hb, hml, hown, hts⟩ (c_X9_isWay l Γ hI a1 σ _ hw) (cwV 1 hts gX9_drop_X9_isWay rfl rfl rfl (by decide +kernel) ⟨Nat.le_of_ble_eq_true rfl, Nat.le_of_ble_eq_true rfl⟩) hK hN hP (cC_lt hC_0 (by decide)) (cC_E9 hC_0) rfl rfl rfl hl.1 rfl (Nat.le_of_ble_eq_true rfl) dX9_drop_2 ⟨Nat.le_refl _, Nat.le_refl _⟩ (fun r1 H locs hw hP => ?_)
  refine lv_if_ne (tgt := 15) hx hb dX9_drop_5 (by decide) (fun h => ?_) (fun h => ?_)
  · replace hw := hw.1 h
    refine lv_aload_n hx hb dX9_drop_15 rfl (lv_at hl 0 rfl) ?_
    refine gC_9_1 hx hb hts i9 hown hK hP hC_0 (hts _ q_X9_drop_1) dX9_drop_16 ?_
    refine lv_aload_n hx hb dX9_drop_19 rfl (lv_at hl 0 rfl) ?_
    refine gC_9_0 hx hb hts i9 hown hK hP hC_0 (hts _ q_X9_drop_2) dX9_drop_20 ?_
    refine cC_Vv (rest := []) ⟨hx, hb, hml, hown, hts⟩ (c_X0_keep l Γ hI 8 hC_8 1 hC_1 σ _ hw) (cwV 1 hts gX9_drop_X0_keep rfl rfl rfl (by decide +kernel) ⟨Nat.le_of_ble_eq_true rfl, Nat.le_of_ble_eq_true rfl⟩) hK hN hP (cC_lt hC_8 (by decide)) (cC_E0 hC_8) rfl rfl rfl hl.1 rfl (Nat.le_of_ble_eq_true rfl) dX9_drop_23 ⟨Nat.le_refl _, Nat.le_refl _⟩ (fun s2 H locs hw hP => ?_)
    refine lv_aload_n hx hb dX9_drop_26 rfl (lv_at hl 0 rfl) ?_
    refine gC_9_0 hx hb hts i9 hown hK hP hC_0 (hts _ q_X9_drop_2) dX9_drop_27 ?_
    refine gC_4_0 hx hb hts i4 hown hK hP hC_1 (hts _ q_X9_drop_3) dX9_drop_30 ?_
    refine lv_iload_n hx hb dX9_drop_33 rfl (lv_at hl 1 rfl) ?_
    refine cC_Vv (rest := []) ⟨hx, hb, hml, hown, hts⟩ (c_X1_remove l Γ hI 2 hC_2 a1 s2 _ hw) (cwV 1 hts gX9_drop_X1_remove rfl rfl rfl (by decide +kernel) ⟨Nat.le_of_ble_eq_true rfl, Nat.le_of_ble_eq_true rfl⟩) hK hN hP (cC_lt hC_2 (by decide)) (cC_E1 hC_2) rfl rfl rfl hl.1 rfl (Nat.le_of_ble_eq_true rfl) dX9_drop_34 ⟨Nat.le_refl _, Nat.le_refl _⟩ (fun s3 H locs hw hP => ?_)
    refine lv_aload_n hx hb dX9_drop_37 rfl (lv_at hl 0 rfl) ?_
    refine cC_Vv (rest := []) ⟨hx, hb, hml, hown, hts⟩ (c_X9_beginAnew l Γ hI  s3 _ hw) (cwV 0 hts gX9_drop_X9_beginAnew rfl rfl rfl (by decide +kernel) ⟨Nat.le_of_ble_eq_true rfl, Nat.le_of_ble_eq_true rfl⟩) hK hN hP (cC_lt hC_0 (by decide)) (cC_E9 hC_0) rfl rfl rfl hl.1 rfl (Nat.le_of_ble_eq_true rfl) dX9_drop_38 ⟨Nat.le_refl _, Nat.le_refl _⟩ (fun s4 H locs hw hP => ?_)
    refine lv_aload_n hx hb dX9_drop_41 rfl (lv_at hl 0 rfl) ?_
    refine gC_9_0 hx hb hts i9 hown hK hP hC_0 (hts _ q_X9_drop_2) dX9_drop_42 ?_
    refine gC_4_0 hx hb hts i4 hown hK hP hC_1 (hts _ q_X9_drop_3) dX9_drop_45 ?_
    refine gC_1_3 hx hb hts i1 hown hK hP hC_2 (hts _ q_X9_drop_4) dX9_drop_48 ?_
    exact W.iret hx hb hr (cC_ri hP hw) hP.2.2.2 dX9_drop_51
  · replace hw := hw.2 h
    refine lv_aload_n hx hb dX9_drop_8 rfl (lv_at hl 0 rfl) ?_
    refine lv_bipush (v := (-2)) hx hb dX9_drop_9 (by decide) ?_
    refine cC_Vi (rest := []) ⟨hx, hb, hml, hown, hts⟩ (c_X9_refuse l Γ hI (-2) σ _ hw) (cwV 1 hts gX9_drop_X9_refuse rfl rfl rfl (by decide +kernel) ⟨Nat.le_of_ble_eq_true rfl, Nat.le_of_ble_eq_true rfl⟩) hK hN hP (cC_lt hC_0 (by decide)) (cC_E9 hC_0) rfl rfl rfl hl.1 rfl (Nat.le_of_ble_eq_true rfl) dX9_drop_11 ⟨Nat.le_refl _, Nat.le_refl _⟩ (fun r5 s6 H locs hw hP => ?_)
    exact W.iret hx hb hr (cC_ri hP hw) hP.2.2.2 dX9_drop_14
theorem q_X9_deed_1 : (Cond.fieldLink RX9 19 "FaultTwins" "history" "LFaultTwins$History;") ∈ wsX9_deed := List.mem_of_getElem? (i := 1) (by decide +kernel)
theorem q_X9_deed_2 : (Cond.fieldLink RX9 12 "FaultTwins" "now" "LFaultTwins$State;") ∈ wsX9_deed := List.mem_of_getElem? (i := 2) (by decide +kernel)
theorem q_X9_deed_3 : (Cond.fieldLink RX9 75 "FaultTwins$State" "machine" "LFaultTwins$Machine;") ∈ wsX9_deed := List.mem_of_getElem? (i := 3) (by decide +kernel)
theorem q_X9_deed_4 : (Cond.fieldLink RX9 112 "FaultTwins$Machine" "seen" "I") ∈ wsX9_deed := List.mem_of_getElem? (i := 4) (by decide +kernel)
theorem q_X9_deed_5 : (Cond.fieldLink RX9 115 "FaultTwins$Machine" "faults" "I") ∈ wsX9_deed := List.mem_of_getElem? (i := 5) (by decide +kernel)
set_option maxHeartbeats 4000000 in
set_option maxRecDepth 100000 in
theorem c_X9_deed (l : Launch) (Γ : ft_G) (hI : cC_I Γ) (a1 : Int32) (a2 : Int32) (a3 : Int32) (σ : ft_St) (Φ : Int32 → ft_St → Prop) (hw : w_X9_deed a1 a2 a3 σ Φ) : cC_Mi l yX9_deed wsX9_deed ({ frames := 6, cells := 0, slots := 0, locals := 132 } : Room) Γ σ [.ref (Γ.2.2 0), .int a1, .int a2, .int a3] Φ := by
  refine Met.ofW (cc := cX9_deed) (maxL := 7) (ret := (some .int)) (by decide) rfl ?_
  intro p e s m args below meth c s₁ B hml hv
  obtain ⟨rfl, hP, hK, hN⟩ := hv
  have hx := B.exec
  have hb := B.bytes
  have hr := B.returns
  have hts := atoms_spec (ws := wsX9_deed) B.pre
  have hown : s.vm.findClass RX9 = some m.cls := findClass_of_methodNamed B.named
  have hlocks := B.notSynchronized
  have i1 : ∀ w ∈ wsX10, w ∈ wsX9_deed := fun w h => List.mem_cons_of_mem _ (List.mem_append_left _ (List.mem_append_left _ (List.mem_append_left _ (List.mem_append_right _ h))))
  have i4 : ∀ w ∈ wsX40, w ∈ wsX9_deed := fun w h => List.mem_cons_of_mem _ (List.mem_append_left _ (List.mem_append_left _ (List.mem_append_left _ (List.mem_append_left _ (List.mem_append_right _ h)))))
  have i9 : ∀ w ∈ wsX90, w ∈ wsX9_deed := fun w h => List.mem_cons_of_mem _ (List.mem_append_left _ (List.mem_append_left _ (List.mem_append_left _ (List.mem_append_left _ (List.mem_append_left _ (List.mem_append_right _ h))))))
  have hP : cC_P Γ s σ s.heap [] := ⟨hP, va_S.rf⟩
  have hl := lv_entry ([.ref (Γ.2.2 0), .int a1, .int a2, .int a3]) (n := 7) (Nat.le_of_ble_eq_true rfl)
  rw [lg_entry_eq]
  generalize (lg_sl ([.ref (Γ.2.2 0), .int a1, .int a2, .int a3]) ++ List.replicate (7 - (lg_sl ([.ref (Γ.2.2 0), .int a1, .int a2, .int a3])).length) Slot.unset).toArray = ls at hl ⊢
  have hl : lv_has ls 7 [(0, .ref (Γ.2.2 0)), (1, .int a1), (2, .int a2), (3, .int a3)] := hl
  unfold w_X9_deed at hw
  refine lv_iload_n hx hb dX9_deed_0 rfl (lv_at hl 1 rfl) ?_
  refine cC_Sip (rest := []) ⟨hx, hb, hml, hown, hts⟩ (c_X9_isDeed l Γ hI a1 σ _ hw) (va_cwS 1 hts gX9_deed_X9_isDeed rfl rfl rfl (by decide +kernel) ⟨Nat.le_of_ble_eq_true rfl, Nat.le_of_ble_eq_true rfl⟩) hK hN hP rfl hl.1 rfl (Nat.le_of_ble_eq_true rfl) dX9_deed_1 ⟨Nat.le_refl _, Nat.le_refl _⟩ (fun r1 H locs hw hP => ?_)
  refine ft_cut (hw (∀ (H : Heap) (locs : List Loc) (ls : Array Slot), cC_P Γ s σ H locs → lv_has ls 7 [(0, .ref (Γ.2.2 0))] → cC_Wi p l e ({ frames := 6, cells := 0, slots := 0, locals := 132 } : Room) s m [.ref (Γ.2.2 0), .int a1, .int a2, .int a3] below meth c Γ Φ H locs 23 ls []) (fun  hw H locs ls hP hl => ?_)) (fun hw => ?_)
  · refine lv_aload_n hx hb dX9_deed_23 rfl (lv_at hl 0 rfl) ?_
    refine lv_bipush (v := (-2)) hx hb dX9_deed_24 (by decide) ?_
    refine cC_Vi (rest := []) ⟨hx, hb, hml, hown, hts⟩ (c_X9_refuse l Γ hI (-2) σ _ hw) (cwV 1 hts gX9_deed_X9_refuse rfl rfl rfl (by decide +kernel) ⟨Nat.le_of_ble_eq_true rfl, Nat.le_of_ble_eq_true rfl⟩) hK hN hP (cC_lt hC_0 (by decide)) (cC_E9 hC_0) rfl rfl rfl hl.1 rfl (Nat.le_of_ble_eq_true rfl) dX9_deed_26 ⟨Nat.le_refl _, Nat.le_refl _⟩ (fun r3 s4 H locs hw hP => ?_)
    exact W.iret hx hb hr (cC_ri hP hw) hP.2.2.2 dX9_deed_29
  · refine lv_if_eq (tgt := 23) hx hb dX9_deed_4 (by decide) (fun h => ?_) (fun h => ?_)
    · replace hw := hw.1 h
      exact hw _ _ _ hP (lv_sub hl [0] rfl)
    · replace hw := hw.2 h
      refine lv_iload_n hx hb dX9_deed_7 rfl (lv_at hl 2 rfl) ?_
      refine lv_iconst (v := 1) hx hb dX9_deed_8 (by decide) ?_
      refine cC_Sip (rest := []) ⟨hx, hb, hml, hown, hts⟩ (c_X9_isWithin l Γ hI a2 1 σ _ hw) (va_cwS 2 hts gX9_deed_X9_isWithin rfl rfl rfl (by decide +kernel) ⟨Nat.le_of_ble_eq_true rfl, Nat.le_of_ble_eq_true rfl⟩) hK hN hP rfl hl.1 rfl (Nat.le_of_ble_eq_true rfl) dX9_deed_9 ⟨Nat.le_refl _, Nat.le_refl _⟩ (fun r5 H locs hw hP => ?_)
      refine lv_if_eq (tgt := 23) hx hb dX9_deed_12 (by decide) (fun h => ?_) (fun h => ?_)
      · replace hw := hw.1 h
        exact hw _ _ _ hP (lv_sub hl [0] rfl)
      · replace hw := hw.2 h
        refine lv_iload_n hx hb dX9_deed_15 rfl (lv_at hl 3 rfl) ?_
        refine lv_iconst (v := 1) hx hb dX9_deed_16 (by decide) ?_
        refine cC_Sip (rest := []) ⟨hx, hb, hml, hown, hts⟩ (c_X9_isWithin l Γ hI a3 1 σ _ hw) (va_cwS 2 hts gX9_deed_X9_isWithin rfl rfl rfl (by decide +kernel) ⟨Nat.le_of_ble_eq_true rfl, Nat.le_of_ble_eq_true rfl⟩) hK hN hP rfl hl.1 rfl (Nat.le_of_ble_eq_true rfl) dX9_deed_17 ⟨Nat.le_refl _, Nat.le_refl _⟩ (fun r6 H locs hw hP => ?_)
        refine lv_if_ne (tgt := 30) hx hb dX9_deed_20 (by decide) (fun h => ?_) (fun h => ?_)
        · replace hw := hw.1 h
          refine lv_aload_n hx hb dX9_deed_30 rfl (lv_at hl 0 rfl) ?_
          refine gC_9_1 hx hb hts i9 hown hK hP hC_0 (hts _ q_X9_deed_1) dX9_deed_31 ?_
          refine lv_aload_n hx hb dX9_deed_34 rfl (lv_at hl 0 rfl) ?_
          refine gC_9_0 hx hb hts i9 hown hK hP hC_0 (hts _ q_X9_deed_2) dX9_deed_35 ?_
          refine cC_Vv (rest := []) ⟨hx, hb, hml, hown, hts⟩ (c_X0_keep l Γ hI 8 hC_8 1 hC_1 σ _ hw) (cwV 1 hts gX9_deed_X0_keep rfl rfl rfl (by decide +kernel) ⟨Nat.le_of_ble_eq_true rfl, Nat.le_of_ble_eq_true rfl⟩) hK hN hP (cC_lt hC_8 (by decide)) (cC_E0 hC_8) rfl rfl rfl hl.1 rfl (Nat.le_of_ble_eq_true rfl) dX9_deed_38 ⟨Nat.le_refl _, Nat.le_refl _⟩ (fun s7 H locs hw hP => ?_)
          refine lv_aload_n hx hb dX9_deed_41 rfl (lv_at hl 0 rfl) ?_
          refine gC_9_0 hx hb hts i9 hown hK hP hC_0 (hts _ q_X9_deed_2) dX9_deed_42 ?_
          refine gC_4_0 hx hb hts i4 hown hK hP hC_1 (hts _ q_X9_deed_3) dX9_deed_45 ?_
          refine lv_astore (lv' := [(4, .ref (Γ.2.2 2)), (0, .ref (Γ.2.2 0)), (1, .int a1), (2, .int a2), (3, .int a3)]) hx hb dX9_deed_48 hl (by decide) rfl (fun ls hl => ?_)
          refine lv_iload_n hx hb dX9_deed_50 rfl (lv_at hl 3 rfl) ?_
          refine ft_cut (hw (fun (x8 : Int32) => ∀ (H : Heap) (locs : List Loc) (ls : Array Slot), cC_P Γ s s7 H locs → lv_has ls 7 [(0, .ref (Γ.2.2 0)), (1, .int a1), (2, .int a2), (3, .int a3), (4, .ref (Γ.2.2 2))] → cC_Wi p l e ({ frames := 6, cells := 0, slots := 0, locals := 132 } : Room) s m [.ref (Γ.2.2 0), .int a1, .int a2, .int a3] below meth c Γ Φ H locs 67 ls [.int x8]) (fun x8 hw H locs ls hP hl => ?_)) (fun hw => ?_)
          · refine lv_istore (lv' := [(5, .int x8), (0, .ref (Γ.2.2 0)), (1, .int a1), (2, .int a2), (3, .int a3), (4, .ref (Γ.2.2 2))]) hx hb dX9_deed_67 hl (by decide) rfl (fun ls hl => ?_)
            refine lv_iload hx hb dX9_deed_69 (lv_at hl 0 rfl) ?_
            refine lv_iconst (v := 1) hx hb dX9_deed_71 (by decide) ?_
            refine lv_iload_n hx hb dX9_deed_72 rfl (lv_at hl 2 rfl) ?_
            refine lv_ishl hx hb dX9_deed_73 ?_
            refine lv_iconst (v := (-1)) hx hb dX9_deed_74 (by decide) ?_
            refine lv_ixor hx hb dX9_deed_75 ?_
            refine lv_iand hx hb dX9_deed_76 ?_
            refine lv_iload_n hx hb dX9_deed_77 rfl (lv_at hl 4 rfl) ?_
            refine lv_iload_n hx hb dX9_deed_78 rfl (lv_at hl 2 rfl) ?_
            refine lv_ishl hx hb dX9_deed_79 ?_
            refine lv_ior hx hb dX9_deed_80 ?_
            refine lv_topi (fun x10 ex10 => ?_)
            replace hw := hw x10 ex10
            refine lv_istore (lv' := [(6, .int x10), (5, .int x8), (0, .ref (Γ.2.2 0)), (1, .int a1), (2, .int a2), (3, .int a3), (4, .ref (Γ.2.2 2))]) hx hb dX9_deed_81 hl (by decide) rfl (fun ls hl => ?_)
            refine lv_iload_n hx hb dX9_deed_83 rfl (lv_at hl 4 rfl) ?_
            refine ft_cut (hw (fun (s11 : ft_St) => ∀ (H : Heap) (locs : List Loc) (ls : Array Slot), cC_P Γ s s11 H locs → lv_has ls 7 [(0, .ref (Γ.2.2 0)), (1, .int a1), (5, .int x8)] → cC_Wi p l e ({ frames := 6, cells := 0, slots := 0, locals := 132 } : Room) s m [.ref (Γ.2.2 0), .int a1, .int a2, .int a3] below meth c Γ Φ H locs 104 ls []) (fun s11 hw H locs ls hP hl => ?_)) (fun hw => ?_)
            · refine lv_aload_n hx hb dX9_deed_104 rfl (lv_at hl 0 rfl) ?_
              refine cC_Vv (rest := []) ⟨hx, hb, hml, hown, hts⟩ (c_X9_beginAnew l Γ hI  s11 _ hw) (cwV 0 hts gX9_deed_X9_beginAnew rfl rfl rfl (by decide +kernel) ⟨Nat.le_of_ble_eq_true rfl, Nat.le_of_ble_eq_true rfl⟩) hK hN hP (cC_lt hC_0 (by decide)) (cC_E9 hC_0) rfl rfl rfl hl.1 rfl (Nat.le_of_ble_eq_true rfl) dX9_deed_105 ⟨Nat.le_refl _, Nat.le_refl _⟩ (fun s13 H locs hw hP => ?_)
              refine lv_iload hx hb dX9_deed_108 (lv_at hl 2 rfl) ?_
              refine lv_iload_n hx hb dX9_deed_110 rfl (lv_at hl 1 rfl) ?_
              refine lv_ishr hx hb dX9_deed_111 ?_
              refine lv_iconst (v := 1) hx hb dX9_deed_112 (by decide) ?_
              refine lv_iand hx hb dX9_deed_113 ?_
              exact W.iret hx hb hr (cC_ri hP hw) hP.2.2.2 dX9_deed_114
            · refine lv_if_ne (tgt := 97) hx hb dX9_deed_84 (by decide) (fun h => ?_) (fun h => ?_)
              · replace hw := hw.1 h
                refine lv_aload hx hb dX9_deed_97 (lv_at hl 6 rfl) ?_
                refine lv_iload hx hb dX9_deed_99 (lv_at hl 0 rfl) ?_
                refine pC_1_5 hx hb hts i1 hown hK hI hP hC_2 (hts _ q_X9_deed_5) dX9_deed_101 (fun H locs hP => ?_)
                obtain ⟨s14, hs14⟩ : ∃ u, u = ft_sF s7 2 5 x10 := ⟨_, rfl⟩
                rw [← hs14] at hP
                replace hw := hw s14 hs14
                exact hw _ _ _ hP (lv_sub hl [2, 3, 1] rfl)
              · replace hw := hw.2 h
                refine lv_aload hx hb dX9_deed_87 (lv_at hl 6 rfl) ?_
                refine lv_iload hx hb dX9_deed_89 (lv_at hl 0 rfl) ?_
                refine pC_1_4 hx hb hts i1 hown hK hI hP hC_2 (hts _ q_X9_deed_4) dX9_deed_91 (fun H locs hP => ?_)
                obtain ⟨s15, hs15⟩ : ∃ u, u = ft_sF s7 2 4 x10 := ⟨_, rfl⟩
                rw [← hs15] at hP
                replace hw := hw s15 hs15
                refine lv_goto (tgt := 104) hx hb dX9_deed_94 (by decide) ?_
                exact hw _ _ _ hP (lv_sub hl [2, 3, 1] rfl)
          · refine lv_if_ne (tgt := 62) hx hb dX9_deed_51 (by decide) (fun h => ?_) (fun h => ?_)
            · replace hw := hw.1 h
              refine lv_aload hx hb dX9_deed_62 (lv_at hl 0 rfl) ?_
              refine gC_1_5 hx hb hts i1 hown hK hP hC_2 (hts _ q_X9_deed_5) dX9_deed_64 ?_
              exact hw _ _ _ hP (lv_sub hl [1, 2, 3, 4, 0] rfl)
            · replace hw := hw.2 h
              refine lv_aload hx hb dX9_deed_54 (lv_at hl 0 rfl) ?_
              refine gC_1_4 hx hb hts i1 hown hK hP hC_2 (hts _ q_X9_deed_4) dX9_deed_56 ?_
              refine lv_goto (tgt := 67) hx hb dX9_deed_59 (by decide) ?_
              exact hw _ _ _ hP (lv_sub hl [1, 2, 3, 4, 0] rfl)
        · replace hw := hw.2 h
          exact hw _ _ _ hP (lv_sub hl [0] rfl)
theorem q_X9_draw_1 : (Cond.constant RX9 118 (999999)) ∈ wsX9_draw := List.mem_of_getElem? (i := 1) (by decide +kernel)
theorem q_X9_draw_2 : (Cond.fieldLink RX9 19 "FaultTwins" "history" "LFaultTwins$History;") ∈ wsX9_draw := List.mem_of_getElem? (i := 2) (by decide +kernel)
theorem q_X9_draw_3 : (Cond.fieldLink RX9 12 "FaultTwins" "now" "LFaultTwins$State;") ∈ wsX9_draw := List.mem_of_getElem? (i := 3) (by decide +kernel)
theorem q_X9_draw_4 : (Cond.fieldLink RX9 75 "FaultTwins$State" "machine" "LFaultTwins$Machine;") ∈ wsX9_draw := List.mem_of_getElem? (i := 4) (by decide +kernel)
theorem q_X9_draw_5 : (Cond.fieldLink RX9 97 "FaultTwins$Machine" "ways" "I") ∈ wsX9_draw := List.mem_of_getElem? (i := 5) (by decide +kernel)
set_option maxHeartbeats 4000000 in
set_option maxRecDepth 100000 in
theorem c_X9_draw (l : Launch) (Γ : ft_G) (hI : cC_I Γ) (a1 : Int32) (a2 : Int32) (σ : ft_St) (Φ : Int32 → ft_St → Prop) (hw : w_X9_draw a1 a2 σ Φ) : cC_Mi l yX9_draw wsX9_draw ({ frames := 6, cells := 0, slots := 0, locals := 132 } : Room) Γ σ [.ref (Γ.2.2 0), .int a1, .int a2] Φ := by
  refine Met.ofW (cc := cX9_draw) (maxL := 3) (ret := (some .int)) (by decide) rfl ?_
  intro p e s m args below meth c s₁ B hml hv
  obtain ⟨rfl, hP, hK, hN⟩ := hv
  have hx := B.exec
  have hb := B.bytes
  have hr := B.returns
  have hts := atoms_spec (ws := wsX9_draw) B.pre
  have hown : s.vm.findClass RX9 = some m.cls := findClass_of_methodNamed B.named
  have hlocks := B.notSynchronized
  have i1 : ∀ w ∈ wsX10, w ∈ wsX9_draw := fun w h => List.mem_cons_of_mem _ (List.mem_append_left _ (List.mem_append_left _ (List.mem_append_left _ (List.mem_append_right _ h))))
  have i4 : ∀ w ∈ wsX40, w ∈ wsX9_draw := fun w h => List.mem_cons_of_mem _ (List.mem_append_left _ (List.mem_append_left _ (List.mem_append_left _ (List.mem_append_left _ (List.mem_append_right _ h)))))
  have i9 : ∀ w ∈ wsX90, w ∈ wsX9_draw := fun w h => List.mem_cons_of_mem _ (List.mem_append_left _ (List.mem_append_left _ (List.mem_append_left _ (List.mem_append_left _ (List.mem_append_left _ (List.mem_append_right _ h))))))
  have hP : cC_P Γ s σ s.heap [] := ⟨hP, va_S.rf⟩
  have hl := lv_entry ([.ref (Γ.2.2 0), .int a1, .int a2]) (n := 3) (Nat.le_of_ble_eq_true rfl)
  rw [lg_entry_eq]
  generalize (lg_sl ([.ref (Γ.2.2 0), .int a1, .int a2]) ++ List.replicate (3 - (lg_sl ([.ref (Γ.2.2 0), .int a1, .int a2])).length) Slot.unset).toArray = ls at hl ⊢
  have hl : lv_has ls 3 [(0, .ref (Γ.2.2 0)), (1, .int a1), (2, .int a2)] := hl
  unfold w_X9_draw at hw
  refine lv_iload_n hx hb dX9_draw_0 rfl (lv_at hl 1 rfl) ?_
  refine lv_ldc hx hb hown (hts _ q_X9_draw_1) dX9_draw_1 ?_
  refine cC_Sip (rest := []) ⟨hx, hb, hml, hown, hts⟩ (c_X9_isWithin l Γ hI a1 999999 σ _ hw) (va_cwS 2 hts gX9_draw_X9_isWithin rfl rfl rfl (by decide +kernel) ⟨Nat.le_of_ble_eq_true rfl, Nat.le_of_ble_eq_true rfl⟩) hK hN hP rfl hl.1 rfl (Nat.le_of_ble_eq_true rfl) dX9_draw_3 ⟨Nat.le_refl _, Nat.le_refl _⟩ (fun r1 H locs hw hP => ?_)
  refine ft_cut (hw (∀ (H : Heap) (locs : List Loc) (ls : Array Slot), cC_P Γ s σ H locs → lv_has ls 3 [(0, .ref (Γ.2.2 0))] → cC_Wi p l e ({ frames := 6, cells := 0, slots := 0, locals := 132 } : Room) s m [.ref (Γ.2.2 0), .int a1, .int a2] below meth c Γ Φ H locs 20 ls []) (fun  hw H locs ls hP hl => ?_)) (fun hw => ?_)
  · refine lv_aload_n hx hb dX9_draw_20 rfl (lv_at hl 0 rfl) ?_
    refine lv_bipush (v := (-2)) hx hb dX9_draw_21 (by decide) ?_
    refine cC_Vi (rest := []) ⟨hx, hb, hml, hown, hts⟩ (c_X9_refuse l Γ hI (-2) σ _ hw) (cwV 1 hts gX9_draw_X9_refuse rfl rfl rfl (by decide +kernel) ⟨Nat.le_of_ble_eq_true rfl, Nat.le_of_ble_eq_true rfl⟩) hK hN hP (cC_lt hC_0 (by decide)) (cC_E9 hC_0) rfl rfl rfl hl.1 rfl (Nat.le_of_ble_eq_true rfl) dX9_draw_23 ⟨Nat.le_refl _, Nat.le_refl _⟩ (fun r3 s4 H locs hw hP => ?_)
    exact W.iret hx hb hr (cC_ri hP hw) hP.2.2.2 dX9_draw_26
  · refine lv_if_eq (tgt := 20) hx hb dX9_draw_6 (by decide) (fun h => ?_) (fun h => ?_)
    · replace hw := hw.1 h
      exact hw _ _ _ hP (lv_sub hl [0] rfl)
    · replace hw := hw.2 h
      refine lv_iload_n hx hb dX9_draw_9 rfl (lv_at hl 2 rfl) ?_
      refine lv_iconst (v := 1) hx hb dX9_draw_10 (by decide) ?_
      refine lv_icmp_lt (tgt := 20) hx hb dX9_draw_11 (by decide) (fun h => ?_) (fun h => ?_)
      · replace hw := hw.1 h
        exact hw _ _ _ hP (lv_sub hl [0] rfl)
      · replace hw := hw.2 h
        refine lv_iload_n hx hb dX9_draw_14 rfl (lv_at hl 2 rfl) ?_
        refine lv_bipush (v := 24) hx hb dX9_draw_15 (by decide) ?_
        refine lv_icmp_le (tgt := 27) hx hb dX9_draw_17 (by decide) (fun h => ?_) (fun h => ?_)
        · replace hw := hw.1 h
          refine lv_aload_n hx hb dX9_draw_27 rfl (lv_at hl 0 rfl) ?_
          refine gC_9_1 hx hb hts i9 hown hK hP hC_0 (hts _ q_X9_draw_2) dX9_draw_28 ?_
          refine lv_aload_n hx hb dX9_draw_31 rfl (lv_at hl 0 rfl) ?_
          refine gC_9_0 hx hb hts i9 hown hK hP hC_0 (hts _ q_X9_draw_3) dX9_draw_32 ?_
          refine cC_Vv (rest := []) ⟨hx, hb, hml, hown, hts⟩ (c_X0_keep l Γ hI 8 hC_8 1 hC_1 σ _ hw) (cwV 1 hts gX9_draw_X0_keep rfl rfl rfl (by decide +kernel) ⟨Nat.le_of_ble_eq_true rfl, Nat.le_of_ble_eq_true rfl⟩) hK hN hP (cC_lt hC_8 (by decide)) (cC_E0 hC_8) rfl rfl rfl hl.1 rfl (Nat.le_of_ble_eq_true rfl) dX9_draw_35 ⟨Nat.le_refl _, Nat.le_refl _⟩ (fun s5 H locs hw hP => ?_)
          refine lv_aload_n hx hb dX9_draw_38 rfl (lv_at hl 0 rfl) ?_
          refine gC_9_0 hx hb hts i9 hown hK hP hC_0 (hts _ q_X9_draw_3) dX9_draw_39 ?_
          refine gC_4_0 hx hb hts i4 hown hK hP hC_1 (hts _ q_X9_draw_4) dX9_draw_42 ?_
          refine lv_iload_n hx hb dX9_draw_45 rfl (lv_at hl 1 rfl) ?_
          refine lv_iload_n hx hb dX9_draw_46 rfl (lv_at hl 2 rfl) ?_
          refine cC_Vv (rest := []) ⟨hx, hb, hml, hown, hts⟩ (c_X1_drawWays l Γ hI 2 hC_2 a1 a2 s5 _ hw) (cwV 2 hts gX9_draw_X1_drawWays rfl rfl rfl (by decide +kernel) ⟨Nat.le_of_ble_eq_true rfl, Nat.le_of_ble_eq_true rfl⟩) hK hN hP (cC_lt hC_2 (by decide)) (cC_E1 hC_2) rfl rfl rfl hl.1 rfl (Nat.le_of_ble_eq_true rfl) dX9_draw_47 ⟨Nat.le_refl _, Nat.le_refl _⟩ (fun s6 H locs hw hP => ?_)
          refine lv_aload_n hx hb dX9_draw_50 rfl (lv_at hl 0 rfl) ?_
          refine cC_Vv (rest := []) ⟨hx, hb, hml, hown, hts⟩ (c_X9_beginAnew l Γ hI  s6 _ hw) (cwV 0 hts gX9_draw_X9_beginAnew rfl rfl rfl (by decide +kernel) ⟨Nat.le_of_ble_eq_true rfl, Nat.le_of_ble_eq_true rfl⟩) hK hN hP (cC_lt hC_0 (by decide)) (cC_E9 hC_0) rfl rfl rfl hl.1 rfl (Nat.le_of_ble_eq_true rfl) dX9_draw_51 ⟨Nat.le_refl _, Nat.le_refl _⟩ (fun s7 H locs hw hP => ?_)
          refine lv_aload_n hx hb dX9_draw_54 rfl (lv_at hl 0 rfl) ?_
          refine gC_9_0 hx hb hts i9 hown hK hP hC_0 (hts _ q_X9_draw_3) dX9_draw_55 ?_
          refine gC_4_0 hx hb hts i4 hown hK hP hC_1 (hts _ q_X9_draw_4) dX9_draw_58 ?_
          refine gC_1_3 hx hb hts i1 hown hK hP hC_2 (hts _ q_X9_draw_5) dX9_draw_61 ?_
          exact W.iret hx hb hr (cC_ri hP hw) hP.2.2.2 dX9_draw_64
        · replace hw := hw.2 h
          exact hw _ _ _ hP (lv_sub hl [0] rfl)
theorem q_X9_anew_1 : (Cond.fieldLink RX9 19 "FaultTwins" "history" "LFaultTwins$History;") ∈ wsX9_anew := List.mem_of_getElem? (i := 1) (by decide +kernel)
theorem q_X9_anew_2 : (Cond.fieldLink RX9 12 "FaultTwins" "now" "LFaultTwins$State;") ∈ wsX9_anew := List.mem_of_getElem? (i := 2) (by decide +kernel)
theorem q_X9_anew_3 : (Cond.fieldLink RX9 75 "FaultTwins$State" "machine" "LFaultTwins$Machine;") ∈ wsX9_anew := List.mem_of_getElem? (i := 3) (by decide +kernel)
theorem q_X9_anew_4 : (Cond.fieldLink RX9 97 "FaultTwins$Machine" "ways" "I") ∈ wsX9_anew := List.mem_of_getElem? (i := 4) (by decide +kernel)
theorem q_X9_anew_5 : (Cond.fieldLink RX9 112 "FaultTwins$Machine" "seen" "I") ∈ wsX9_anew := List.mem_of_getElem? (i := 5) (by decide +kernel)
theorem q_X9_anew_6 : (Cond.fieldLink RX9 115 "FaultTwins$Machine" "faults" "I") ∈ wsX9_anew := List.mem_of_getElem? (i := 6) (by decide +kernel)
set_option maxHeartbeats 4000000 in
set_option maxRecDepth 100000 in
theorem c_X9_anew (l : Launch) (Γ : ft_G) (hI : cC_I Γ)  (σ : ft_St) (Φ : Int32 → ft_St → Prop) (hw : w_X9_anew  σ Φ) : cC_Mi l yX9_anew wsX9_anew ({ frames := 6, cells := 0, slots := 0, locals := 132 } : Room) Γ σ [.ref (Γ.2.2 0)] Φ := by
  refine Met.ofW (cc := cX9_anew) (maxL := 2) (ret := (some .int)) (by decide) rfl ?_
  intro p e s m args below meth c s₁ B hml hv
  obtain ⟨rfl, hP, hK, hN⟩ := hv
  have hx := B.exec
  have hb := B.bytes
  have hr := B.returns
  have hts := atoms_spec (ws := wsX9_anew) B.pre
  have hown : s.vm.findClass RX9 = some m.cls := findClass_of_methodNamed B.named
  have hlocks := B.notSynchronized
  have i1 : ∀ w ∈ wsX10, w ∈ wsX9_anew := fun w h => List.mem_cons_of_mem _ (List.mem_append_left _ (List.mem_append_left _ (List.mem_append_left _ (List.mem_append_right _ h))))
  have i4 : ∀ w ∈ wsX40, w ∈ wsX9_anew := fun w h => List.mem_cons_of_mem _ (List.mem_append_left _ (List.mem_append_left _ (List.mem_append_left _ (List.mem_append_left _ (List.mem_append_right _ h)))))
  have i9 : ∀ w ∈ wsX90, w ∈ wsX9_anew := fun w h => List.mem_cons_of_mem _ (List.mem_append_left _ (List.mem_append_left _ (List.mem_append_left _ (List.mem_append_left _ (List.mem_append_left _ (List.mem_append_right _ h))))))
  have hP : cC_P Γ s σ s.heap [] := ⟨hP, va_S.rf⟩
  have hl := lv_entry ([.ref (Γ.2.2 0)]) (n := 2) (Nat.le_of_ble_eq_true rfl)
  rw [lg_entry_eq]
  generalize (lg_sl ([.ref (Γ.2.2 0)]) ++ List.replicate (2 - (lg_sl ([.ref (Γ.2.2 0)])).length) Slot.unset).toArray = ls at hl ⊢
  have hl : lv_has ls 2 [(0, .ref (Γ.2.2 0))] := hl
  unfold w_X9_anew at hw
  refine lv_aload_n hx hb dX9_anew_0 rfl (lv_at hl 0 rfl) ?_
  refine gC_9_1 hx hb hts i9 hown hK hP hC_0 (hts _ q_X9_anew_1) dX9_anew_1 ?_
  refine lv_aload_n hx hb dX9_anew_4 rfl (lv_at hl 0 rfl) ?_
  refine gC_9_0 hx hb hts i9 hown hK hP hC_0 (hts _ q_X9_anew_2) dX9_anew_5 ?_
  refine cC_Vv (rest := []) ⟨hx, hb, hml, hown, hts⟩ (c_X0_keep l Γ hI 8 hC_8 1 hC_1 σ _ hw) (cwV 1 hts gX9_anew_X0_keep rfl rfl rfl (by decide +kernel) ⟨Nat.le_of_ble_eq_true rfl, Nat.le_of_ble_eq_true rfl⟩) hK hN hP (cC_lt hC_8 (by decide)) (cC_E0 hC_8) rfl rfl rfl hl.1 rfl (Nat.le_of_ble_eq_true rfl) dX9_anew_8 ⟨Nat.le_refl _, Nat.le_refl _⟩ (fun s1 H locs hw hP => ?_)
  refine lv_aload_n hx hb dX9_anew_11 rfl (lv_at hl 0 rfl) ?_
  refine gC_9_0 hx hb hts i9 hown hK hP hC_0 (hts _ q_X9_anew_2) dX9_anew_12 ?_
  refine gC_4_0 hx hb hts i4 hown hK hP hC_1 (hts _ q_X9_anew_3) dX9_anew_15 ?_
  refine gC_1_3 hx hb hts i1 hown hK hP hC_2 (hts _ q_X9_anew_4) dX9_anew_18 ?_
  refine lv_istore_n (lv' := [(1, .int (s1.1 2 3)), (0, .ref (Γ.2.2 0))]) hx hb dX9_anew_21 rfl hl (by decide) rfl (fun ls hl => ?_)
  refine lv_aload_n hx hb dX9_anew_22 rfl (lv_at hl 1 rfl) ?_
  refine gC_9_0 hx hb hts i9 hown hK hP hC_0 (hts _ q_X9_anew_2) dX9_anew_23 ?_
  refine gC_4_0 hx hb hts i4 hown hK hP hC_1 (hts _ q_X9_anew_3) dX9_anew_26 ?_
  refine lv_iconst (v := 0) hx hb dX9_anew_29 (by decide) ?_
  refine pC_1_3 hx hb hts i1 hown hK hI hP hC_2 (hts _ q_X9_anew_4) dX9_anew_30 (fun H locs hP => ?_)
  obtain ⟨s2, hs2⟩ : ∃ u, u = ft_sF s1 2 3 0 := ⟨_, rfl⟩
  rw [← hs2] at hP
  replace hw := hw s2 hs2
  refine lv_aload_n hx hb dX9_anew_33 rfl (lv_at hl 1 rfl) ?_
  refine gC_9_0 hx hb hts i9 hown hK hP hC_0 (hts _ q_X9_anew_2) dX9_anew_34 ?_
  refine gC_4_0 hx hb hts i4 hown hK hP hC_1 (hts _ q_X9_anew_3) dX9_anew_37 ?_
  refine lv_sipush (v := 255) hx hb dX9_anew_40 (by decide) ?_
  refine pC_1_4 hx hb hts i1 hown hK hI hP hC_2 (hts _ q_X9_anew_5) dX9_anew_43 (fun H locs hP => ?_)
  obtain ⟨s3, hs3⟩ : ∃ u, u = ft_sF s2 2 4 255 := ⟨_, rfl⟩
  rw [← hs3] at hP
  replace hw := hw s3 hs3
  refine lv_aload_n hx hb dX9_anew_46 rfl (lv_at hl 1 rfl) ?_
  refine gC_9_0 hx hb hts i9 hown hK hP hC_0 (hts _ q_X9_anew_2) dX9_anew_47 ?_
  refine gC_4_0 hx hb hts i4 hown hK hP hC_1 (hts _ q_X9_anew_3) dX9_anew_50 ?_
  refine lv_iconst (v := 0) hx hb dX9_anew_53 (by decide) ?_
  refine pC_1_5 hx hb hts i1 hown hK hI hP hC_2 (hts _ q_X9_anew_6) dX9_anew_54 (fun H locs hP => ?_)
  obtain ⟨s4, hs4⟩ : ∃ u, u = ft_sF s3 2 5 0 := ⟨_, rfl⟩
  rw [← hs4] at hP
  replace hw := hw s4 hs4
  refine lv_aload_n hx hb dX9_anew_57 rfl (lv_at hl 1 rfl) ?_
  refine cC_Vv (rest := []) ⟨hx, hb, hml, hown, hts⟩ (c_X9_beginAnew l Γ hI  s4 _ hw) (cwV 0 hts gX9_anew_X9_beginAnew rfl rfl rfl (by decide +kernel) ⟨Nat.le_of_ble_eq_true rfl, Nat.le_of_ble_eq_true rfl⟩) hK hN hP (cC_lt hC_0 (by decide)) (cC_E9 hC_0) rfl rfl rfl hl.1 rfl (Nat.le_of_ble_eq_true rfl) dX9_anew_58 ⟨Nat.le_refl _, Nat.le_refl _⟩ (fun s5 H locs hw hP => ?_)
  refine lv_iload_n hx hb dX9_anew_61 rfl (lv_at hl 0 rfl) ?_
  exact W.iret hx hb hr (cC_ri hP hw) hP.2.2.2 dX9_anew_62
set_option maxHeartbeats 4000000 in
set_option maxRecDepth 100000 in
theorem c_X9_hasPlace (l : Launch) (Γ : ft_G) (hI : cC_I Γ) (a0 : Int32) (a1 : Int32) (σ : ft_St) (Φ : Int32 → Prop) (hw : w_X9_hasPlace a0 a1  Φ) : cC_Mip l yX9_hasPlace wsX9_hasPlace ({ frames := 0, cells := 0, slots := 0, locals := 0 } : Room) Γ σ [.int a0, .int a1] Φ := by
  refine Met.ofW (cc := cX9_hasPlace) (maxL := 2) (ret := (some .boolean)) (by decide) rfl ?_
  intro p e s m args below meth c s₁ B hml hv
  obtain ⟨rfl, hP, hK, hN⟩ := hv
  have hx := B.exec
  have hb := B.bytes
  have hr := B.returns
  have hts := atoms_spec (ws := wsX9_hasPlace) B.pre
  have hown : s.vm.findClass RX9 = some m.cls := findClass_of_methodNamed B.named
  have hlocks := B.notSynchronized
  have hP : cC_P Γ s σ s.heap [] := ⟨hP, va_S.rf⟩
  have hl := lv_entry ([.int a0, .int a1]) (n := 2) (Nat.le_of_ble_eq_true rfl)
  rw [lg_entry_eq]
  generalize (lg_sl ([.int a0, .int a1]) ++ List.replicate (2 - (lg_sl ([.int a0, .int a1])).length) Slot.unset).toArray = ls at hl ⊢
  have hl : lv_has ls 2 [(0, .int a0), (1, .int a1)] := hl
  unfold w_X9_hasPlace at hw
  refine lv_iload_n hx hb dX9_hasPlace_0 rfl (lv_at hl 0 rfl) ?_
  refine lv_iload_n hx hb dX9_hasPlace_1 rfl (lv_at hl 1 rfl) ?_
  refine lv_ishr hx hb dX9_hasPlace_2 ?_
  refine lv_iconst (v := 1) hx hb dX9_hasPlace_3 (by decide) ?_
  refine lv_iand hx hb dX9_hasPlace_4 ?_
  refine lv_iconst (v := 1) hx hb dX9_hasPlace_5 (by decide) ?_
  refine ft_cut (hw (∀ (H : Heap) (locs : List Loc) (ls : Array Slot), cC_P Γ s σ H locs → lv_has ls 2 [] → cC_Wi p l e ({ frames := 0, cells := 0, slots := 0, locals := 0 } : Room) s m [.int a0, .int a1] below meth c Γ (fun r u => u = σ ∧ Φ r) H locs 21 ls []) (fun  hw H locs ls hP hl => ?_)) (fun hw => ?_)
  · refine lv_iconst (v := 1) hx hb dX9_hasPlace_21 (by decide) ?_
    refine lv_goto (tgt := 26) hx hb dX9_hasPlace_22 (by decide) ?_
    exact W.zret hx hb hr rfl (cC_ri hP ⟨rfl, hw⟩) hP.2.2.2 dX9_hasPlace_26
  · refine lv_icmp_eq (tgt := 21) hx hb dX9_hasPlace_6 (by decide) (fun h => ?_) (fun h => ?_)
    · replace hw := hw.1 h
      exact hw _ _ _ hP (lv_sub hl [] rfl)
    · replace hw := hw.2 h
      refine lv_iload_n hx hb dX9_hasPlace_9 rfl (lv_at hl 0 rfl) ?_
      refine lv_iload_n hx hb dX9_hasPlace_10 rfl (lv_at hl 1 rfl) ?_
      refine lv_bipush (v := 10) hx hb dX9_hasPlace_11 (by decide) ?_
      refine lv_iadd hx hb dX9_hasPlace_13 ?_
      refine lv_ishr hx hb dX9_hasPlace_14 ?_
      refine lv_iconst (v := 1) hx hb dX9_hasPlace_15 (by decide) ?_
      refine lv_iand hx hb dX9_hasPlace_16 ?_
      refine lv_iconst (v := 1) hx hb dX9_hasPlace_17 (by decide) ?_
      refine lv_icmp_ne (tgt := 25) hx hb dX9_hasPlace_18 (by decide) (fun h => ?_) (fun h => ?_)
      · replace hw := hw.1 h
        refine lv_iconst (v := 0) hx hb dX9_hasPlace_25 (by decide) ?_
        exact W.zret hx hb hr rfl (cC_ri hP ⟨rfl, hw⟩) hP.2.2.2 dX9_hasPlace_26
      · replace hw := hw.2 h
        exact hw _ _ _ hP (lv_sub hl [] rfl)
set_option maxHeartbeats 4000000 in
set_option maxRecDepth 100000 in
theorem c_X9_isOne (l : Launch) (Γ : ft_G) (hI : cC_I Γ) (a0 : Int32) (σ : ft_St) (Φ : Int32 → Prop) (hw : w_X9_isOne a0  Φ) : cC_Mip l yX9_isOne wsX9_isOne ({ frames := 0, cells := 0, slots := 0, locals := 0 } : Room) Γ σ [.int a0] Φ := by
  refine Met.ofW (cc := cX9_isOne) (maxL := 1) (ret := (some .int)) (by decide) rfl ?_
  intro p e s m args below meth c s₁ B hml hv
  obtain ⟨rfl, hP, hK, hN⟩ := hv
  have hx := B.exec
  have hb := B.bytes
  have hr := B.returns
  have hts := atoms_spec (ws := wsX9_isOne) B.pre
  have hown : s.vm.findClass RX9 = some m.cls := findClass_of_methodNamed B.named
  have hlocks := B.notSynchronized
  have hP : cC_P Γ s σ s.heap [] := ⟨hP, va_S.rf⟩
  have hl := lv_entry ([.int a0]) (n := 1) (Nat.le_of_ble_eq_true rfl)
  rw [lg_entry_eq]
  generalize (lg_sl ([.int a0]) ++ List.replicate (1 - (lg_sl ([.int a0])).length) Slot.unset).toArray = ls at hl ⊢
  have hl : lv_has ls 1 [(0, .int a0)] := hl
  unfold w_X9_isOne at hw
  refine lv_iload_n hx hb dX9_isOne_0 rfl (lv_at hl 0 rfl) ?_
  refine lv_if_eq (tgt := 8) hx hb dX9_isOne_1 (by decide) (fun h => ?_) (fun h => ?_)
  · replace hw := hw.1 h
    refine lv_iconst (v := 0) hx hb dX9_isOne_8 (by decide) ?_
    exact W.iret hx hb hr (cC_ri hP ⟨rfl, hw⟩) hP.2.2.2 dX9_isOne_9
  · replace hw := hw.2 h
    refine lv_iconst (v := 1) hx hb dX9_isOne_4 (by decide) ?_
    refine lv_goto (tgt := 9) hx hb dX9_isOne_5 (by decide) ?_
    exact W.iret hx hb hr (cC_ri hP ⟨rfl, hw⟩) hP.2.2.2 dX9_isOne_9
theorem q_X9_of_1 : (Cond.fieldLink RX9 12 "FaultTwins" "now" "LFaultTwins$State;") ∈ wsX9_of := List.mem_of_getElem? (i := 1) (by decide +kernel)
theorem q_X9_of_2 : (Cond.fieldLink RX9 75 "FaultTwins$State" "machine" "LFaultTwins$Machine;") ∈ wsX9_of := List.mem_of_getElem? (i := 2) (by decide +kernel)
theorem q_X9_of_3 : (Cond.fieldLink RX9 123 "FaultTwins$Machine" "from" "[I") ∈ wsX9_of := List.mem_of_getElem? (i := 3) (by decide +kernel)
theorem q_X9_of_4 : (Cond.fieldLink RX9 127 "FaultTwins$Machine" "by" "[I") ∈ wsX9_of := List.mem_of_getElem? (i := 4) (by decide +kernel)
theorem q_X9_of_5 : (Cond.fieldLink RX9 130 "FaultTwins$Machine" "to" "[I") ∈ wsX9_of := List.mem_of_getElem? (i := 5) (by decide +kernel)
theorem q_X9_of_6 : (Cond.fieldLink RX9 26 "FaultTwins" "view" "LFaultTwins$View;") ∈ wsX9_of := List.mem_of_getElem? (i := 6) (by decide +kernel)
theorem q_X9_of_7 : (Cond.fieldLink RX9 133 "FaultTwins$View" "marks" "I") ∈ wsX9_of := List.mem_of_getElem? (i := 7) (by decide +kernel)
set_option maxHeartbeats 4000000 in
set_option maxRecDepth 100000 in
theorem c_X9_of (l : Launch) (Γ : ft_G) (hI : cC_I Γ) (a1 : Int32) (a2 : Int32) (σ : ft_St) (Φ : Int32 → ft_St → Prop) (hw : w_X9_of a1 a2 σ Φ) : cC_Mi l yX9_of wsX9_of ({ frames := 1, cells := 0, slots := 0, locals := 21 } : Room) Γ σ [.ref (Γ.2.2 0), .int a1, .int a2] Φ := by
  refine Met.ofW (cc := cX9_of) (maxL := 4) (ret := (some .int)) (by decide) rfl ?_
  intro p e s m args below meth c s₁ B hml hv
  obtain ⟨rfl, hP, hK, hN⟩ := hv
  have hx := B.exec
  have hb := B.bytes
  have hr := B.returns
  have hts := atoms_spec (ws := wsX9_of) B.pre
  have hown : s.vm.findClass RX9 = some m.cls := findClass_of_methodNamed B.named
  have hlocks := B.notSynchronized
  have i1 : ∀ w ∈ wsX10, w ∈ wsX9_of := fun w h => List.mem_cons_of_mem _ (List.mem_append_left _ (List.mem_append_right _ h))
  have i4 : ∀ w ∈ wsX40, w ∈ wsX9_of := fun w h => List.mem_cons_of_mem _ (List.mem_append_left _ (List.mem_append_left _ (List.mem_append_right _ h)))
  have i7 : ∀ w ∈ wsX70, w ∈ wsX9_of := fun w h => List.mem_cons_of_mem _ (List.mem_append_right _ h)
  have i9 : ∀ w ∈ wsX90, w ∈ wsX9_of := fun w h => List.mem_cons_of_mem _ (List.mem_append_left _ (List.mem_append_left _ (List.mem_append_left _ (List.mem_append_right _ h))))
  have hP : cC_P Γ s σ s.heap [] := ⟨hP, va_S.rf⟩
  have hl := lv_entry ([.ref (Γ.2.2 0), .int a1, .int a2]) (n := 4) (Nat.le_of_ble_eq_true rfl)
  rw [lg_entry_eq]
  generalize (lg_sl ([.ref (Γ.2.2 0), .int a1, .int a2]) ++ List.replicate (4 - (lg_sl ([.ref (Γ.2.2 0), .int a1, .int a2])).length) Slot.unset).toArray = ls at hl ⊢
  have hl : lv_has ls 4 [(0, .ref (Γ.2.2 0)), (1, .int a1), (2, .int a2)] := hl
  unfold w_X9_of at hw
  refine lv_aload_n hx hb dX9_of_0 rfl (lv_at hl 0 rfl) ?_
  refine lv_iload_n hx hb dX9_of_1 rfl (lv_at hl 1 rfl) ?_
  refine cC_Vip (rest := []) ⟨hx, hb, hml, hown, hts⟩ (c_X9_isWay l Γ hI a1 σ _ hw) (cwV 1 hts gX9_of_X9_isWay rfl rfl rfl (by decide +kernel) ⟨Nat.le_of_ble_eq_true rfl, Nat.le_of_ble_eq_true rfl⟩) hK hN hP (cC_lt hC_0 (by decide)) (cC_E9 hC_0) rfl rfl rfl hl.1 rfl (Nat.le_of_ble_eq_true rfl) dX9_of_2 ⟨Nat.le_refl _, Nat.le_refl _⟩ (fun r1 H locs hw hP => ?_)
  refine ft_cut (hw (∀ (H : Heap) (locs : List Loc) (ls : Array Slot), cC_P Γ s σ H locs → lv_has ls 4 [(0, .ref (Γ.2.2 0))] → cC_Wi p l e ({ frames := 1, cells := 0, slots := 0, locals := 21 } : Room) s m [.ref (Γ.2.2 0), .int a1, .int a2] below meth c Γ Φ H locs 16 ls []) (fun  hw H locs ls hP hl => ?_)) (fun hw => ?_)
  · refine lv_aload_n hx hb dX9_of_16 rfl (lv_at hl 0 rfl) ?_
    refine lv_bipush (v := (-2)) hx hb dX9_of_17 (by decide) ?_
    refine cC_Vi (rest := []) ⟨hx, hb, hml, hown, hts⟩ (c_X9_refuse l Γ hI (-2) σ _ hw) (cwV 1 hts gX9_of_X9_refuse rfl rfl rfl (by decide +kernel) ⟨Nat.le_of_ble_eq_true rfl, Nat.le_of_ble_eq_true rfl⟩) hK hN hP (cC_lt hC_0 (by decide)) (cC_E9 hC_0) rfl rfl rfl hl.1 rfl (Nat.le_of_ble_eq_true rfl) dX9_of_19 ⟨Nat.le_refl _, Nat.le_refl _⟩ (fun r3 s4 H locs hw hP => ?_)
    exact W.iret hx hb hr (cC_ri hP hw) hP.2.2.2 dX9_of_22
  · refine lv_if_eq (tgt := 16) hx hb dX9_of_5 (by decide) (fun h => ?_) (fun h => ?_)
    · replace hw := hw.1 h
      exact hw _ _ _ hP (lv_sub hl [0] rfl)
    · replace hw := hw.2 h
      refine lv_iload_n hx hb dX9_of_8 rfl (lv_at hl 2 rfl) ?_
      refine lv_iconst (v := 3) hx hb dX9_of_9 (by decide) ?_
      refine cC_Sip (rest := []) ⟨hx, hb, hml, hown, hts⟩ (c_X9_isWithin l Γ hI a2 3 σ _ hw) (va_cwS 2 hts gX9_of_X9_isWithin rfl rfl rfl (by decide +kernel) ⟨Nat.le_of_ble_eq_true rfl, Nat.le_of_ble_eq_true rfl⟩) hK hN hP rfl hl.1 rfl (Nat.le_of_ble_eq_true rfl) dX9_of_10 ⟨Nat.le_refl _, Nat.le_refl _⟩ (fun r5 H locs hw hP => ?_)
      refine lv_if_ne (tgt := 23) hx hb dX9_of_13 (by decide) (fun h => ?_) (fun h => ?_)
      · replace hw := hw.1 h
        refine lv_aload_n hx hb dX9_of_23 rfl (lv_at hl 0 rfl) ?_
        refine gC_9_0 hx hb hts i9 hown hK hP hC_0 (hts _ q_X9_of_1) dX9_of_24 ?_
        refine gC_4_0 hx hb hts i4 hown hK hP hC_1 (hts _ q_X9_of_2) dX9_of_27 ?_
        refine lv_astore_n (lv' := [(3, .ref (Γ.2.2 2)), (0, .ref (Γ.2.2 0)), (1, .int a1), (2, .int a2)]) hx hb dX9_of_30 rfl hl (by decide) rfl (fun ls hl => ?_)
        refine lv_iload_n hx hb dX9_of_31 rfl (lv_at hl 3 rfl) ?_
        rcases ft_tab3 a2 with h | h | h | h
        · replace hw := hw.2.2.2 h
          refine lv_tableOut (tgt := 81) hx hb dX9_of_32 h (by decide) ?_
          refine lv_aload_n hx hb dX9_of_81 rfl (lv_at hl 1 rfl) ?_
          refine gC_9_2 hx hb hts i9 hown hK hP hC_0 (hts _ q_X9_of_6) dX9_of_82 ?_
          refine gC_7_2 hx hb hts i7 hown hK hP hC_52 (hts _ q_X9_of_7) dX9_of_85 ?_
          refine lv_aload_n hx hb dX9_of_88 rfl (lv_at hl 0 rfl) ?_
          refine gC_1_0 hx hb hts i1 hown hK hP hC_2 (hts _ q_X9_of_3) dX9_of_89 ?_
          refine lv_iload_n hx hb dX9_of_92 rfl (lv_at hl 2 rfl) ?_
          refine aC_ld hx hb hK hP hC_3 mC_3 hw.1 dX9_of_93 ?_
          replace hw := hw.2
          refine cC_Sip (rest := []) ⟨hx, hb, hml, hown, hts⟩ (c_X9_hasPlace l Γ hI (σ.1 52 2) (σ.2.1 3 (Int32.toNatClampNeg a1)) σ _ hw) (va_cwS 2 hts gX9_of_X9_hasPlace rfl rfl rfl (by decide +kernel) ⟨Nat.le_of_ble_eq_true rfl, Nat.le_of_ble_eq_true rfl⟩) hK hN hP rfl hl.1 rfl (Nat.le_of_ble_eq_true rfl) dX9_of_94 ⟨Nat.le_refl _, Nat.le_refl _⟩ (fun r6 H locs hw hP => ?_)
          refine cC_Sip (rest := []) ⟨hx, hb, hml, hown, hts⟩ (c_X9_isOne l Γ hI r6 σ _ hw) (va_cwS 1 hts gX9_of_X9_isOne rfl rfl rfl (by decide +kernel) ⟨Nat.le_of_ble_eq_true rfl, Nat.le_of_ble_eq_true rfl⟩) hK hN hP rfl hl.1 rfl (Nat.le_of_ble_eq_true rfl) dX9_of_97 ⟨Nat.le_refl _, Nat.le_refl _⟩ (fun r7 H locs hw hP => ?_)
          exact W.iret hx hb hr (cC_ri hP hw) hP.2.2.2 dX9_of_100
        · replace hw := hw.1 h
          refine lv_tableIn (off := 28) (tgt := 60) hx hb dX9_of_32 (by rw [h]; decide) (by rw [h]; decide) (by rw [h]; rfl) (by decide) ?_
          refine lv_aload_n hx hb dX9_of_60 rfl (lv_at hl 0 rfl) ?_
          refine gC_1_0 hx hb hts i1 hown hK hP hC_2 (hts _ q_X9_of_3) dX9_of_61 ?_
          refine lv_iload_n hx hb dX9_of_64 rfl (lv_at hl 2 rfl) ?_
          refine aC_ld hx hb hK hP hC_3 mC_3 hw.1 dX9_of_65 ?_
          replace hw := hw.2
          exact W.iret hx hb hr (cC_ri hP hw) hP.2.2.2 dX9_of_66
        · replace hw := hw.2.1 h
          refine lv_tableIn (off := 35) (tgt := 67) hx hb dX9_of_32 (by rw [h]; decide) (by rw [h]; decide) (by rw [h]; rfl) (by decide) ?_
          refine lv_aload_n hx hb dX9_of_67 rfl (lv_at hl 0 rfl) ?_
          refine gC_1_1 hx hb hts i1 hown hK hP hC_2 (hts _ q_X9_of_4) dX9_of_68 ?_
          refine lv_iload_n hx hb dX9_of_71 rfl (lv_at hl 2 rfl) ?_
          refine aC_ld hx hb hK hP hC_4 mC_4 hw.1 dX9_of_72 ?_
          replace hw := hw.2
          exact W.iret hx hb hr (cC_ri hP hw) hP.2.2.2 dX9_of_73
        · replace hw := hw.2.2.1 h
          refine lv_tableIn (off := 42) (tgt := 74) hx hb dX9_of_32 (by rw [h]; decide) (by rw [h]; decide) (by rw [h]; rfl) (by decide) ?_
          refine lv_aload_n hx hb dX9_of_74 rfl (lv_at hl 0 rfl) ?_
          refine gC_1_2 hx hb hts i1 hown hK hP hC_2 (hts _ q_X9_of_5) dX9_of_75 ?_
          refine lv_iload_n hx hb dX9_of_78 rfl (lv_at hl 2 rfl) ?_
          refine aC_ld hx hb hK hP hC_5 mC_5 hw.1 dX9_of_79 ?_
          replace hw := hw.2
          exact W.iret hx hb hr (cC_ri hP hw) hP.2.2.2 dX9_of_80
      · replace hw := hw.2 h
        exact hw _ _ _ hP (lv_sub hl [0] rfl)
theorem q_X9_sees_1 : (Cond.fieldLink RX9 12 "FaultTwins" "now" "LFaultTwins$State;") ∈ wsX9_sees := List.mem_of_getElem? (i := 1) (by decide +kernel)
theorem q_X9_sees_2 : (Cond.fieldLink RX9 75 "FaultTwins$State" "machine" "LFaultTwins$Machine;") ∈ wsX9_sees := List.mem_of_getElem? (i := 2) (by decide +kernel)
theorem q_X9_sees_3 : (Cond.fieldLink RX9 26 "FaultTwins" "view" "LFaultTwins$View;") ∈ wsX9_sees := List.mem_of_getElem? (i := 3) (by decide +kernel)
theorem q_X9_sees_4 : (Cond.fieldLink RX9 146 "FaultTwins$State" "watch" "LFaultTwins$Watch;") ∈ wsX9_sees := List.mem_of_getElem? (i := 4) (by decide +kernel)
theorem q_X9_sees_5 : (Cond.fieldLink RX9 150 "FaultTwins$Watch" "set" "I") ∈ wsX9_sees := List.mem_of_getElem? (i := 5) (by decide +kernel)
theorem q_X9_sees_6 : (Cond.fieldLink RX9 19 "FaultTwins" "history" "LFaultTwins$History;") ∈ wsX9_sees := List.mem_of_getElem? (i := 6) (by decide +kernel)
set_option maxHeartbeats 4000000 in
set_option maxRecDepth 100000 in
theorem c_X9_sees (l : Launch) (Γ : ft_G) (hI : cC_I Γ) (a1 : Int32) (σ : ft_St) (Φ : Int32 → ft_St → Prop) (hw : w_X9_sees a1 σ Φ) : cC_Mi l yX9_sees wsX9_sees ({ frames := 4, cells := 0, slots := 0, locals := 123 } : Room) Γ σ [.ref (Γ.2.2 0), .int a1] Φ := by
  refine Met.ofW (cc := cX9_sees) (maxL := 3) (ret := (some .int)) (by decide) rfl ?_
  intro p e s m args below meth c s₁ B hml hv
  obtain ⟨rfl, hP, hK, hN⟩ := hv
  have hx := B.exec
  have hb := B.bytes
  have hr := B.returns
  have hts := atoms_spec (ws := wsX9_sees) B.pre
  have hown : s.vm.findClass RX9 = some m.cls := findClass_of_methodNamed B.named
  have hlocks := B.notSynchronized
  have i4 : ∀ w ∈ wsX40, w ∈ wsX9_sees := fun w h => List.mem_cons_of_mem _ (List.mem_append_left _ (List.mem_append_left _ (List.mem_append_left _ (List.mem_append_left _ (List.mem_append_right _ h)))))
  have i8 : ∀ w ∈ wsX80, w ∈ wsX9_sees := fun w h => List.mem_cons_of_mem _ (List.mem_append_left _ (List.mem_append_left _ (List.mem_append_left _ (List.mem_append_right _ h))))
  have i9 : ∀ w ∈ wsX90, w ∈ wsX9_sees := fun w h => List.mem_cons_of_mem _ (List.mem_append_left _ (List.mem_append_left _ (List.mem_append_left _ (List.mem_append_left _ (List.mem_append_left _ (List.mem_append_right _ h))))))
  have hP : cC_P Γ s σ s.heap [] := ⟨hP, va_S.rf⟩
  have hl := lv_entry ([.ref (Γ.2.2 0), .int a1]) (n := 3) (Nat.le_of_ble_eq_true rfl)
  rw [lg_entry_eq]
  generalize (lg_sl ([.ref (Γ.2.2 0), .int a1]) ++ List.replicate (3 - (lg_sl ([.ref (Γ.2.2 0), .int a1])).length) Slot.unset).toArray = ls at hl ⊢
  have hl : lv_has ls 3 [(0, .ref (Γ.2.2 0)), (1, .int a1)] := hl
  unfold w_X9_sees at hw
  refine lv_iload_n hx hb dX9_sees_0 rfl (lv_at hl 1 rfl) ?_
  refine cC_Sip (rest := []) ⟨hx, hb, hml, hown, hts⟩ (c_X9_isDeed l Γ hI a1 σ _ hw) (va_cwS 1 hts gX9_sees_X9_isDeed rfl rfl rfl (by decide +kernel) ⟨Nat.le_of_ble_eq_true rfl, Nat.le_of_ble_eq_true rfl⟩) hK hN hP rfl hl.1 rfl (Nat.le_of_ble_eq_true rfl) dX9_sees_1 ⟨Nat.le_refl _, Nat.le_refl _⟩ (fun r1 H locs hw hP => ?_)
  refine lv_if_ne (tgt := 14) hx hb dX9_sees_4 (by decide) (fun h => ?_) (fun h => ?_)
  · replace hw := hw.1 h
    refine lv_aload_n hx hb dX9_sees_14 rfl (lv_at hl 0 rfl) ?_
    refine gC_9_0 hx hb hts i9 hown hK hP hC_0 (hts _ q_X9_sees_1) dX9_sees_15 ?_
    refine gC_4_0 hx hb hts i4 hown hK hP hC_1 (hts _ q_X9_sees_2) dX9_sees_18 ?_
    refine lv_iload_n hx hb dX9_sees_21 rfl (lv_at hl 1 rfl) ?_
    refine cC_Vip (rest := []) ⟨hx, hb, hml, hown, hts⟩ (c_X1_isSeen l Γ hI 2 hC_2 a1 σ _ hw) (cwV 1 hts gX9_sees_X1_isSeen rfl rfl rfl (by decide +kernel) ⟨Nat.le_of_ble_eq_true rfl, Nat.le_of_ble_eq_true rfl⟩) hK hN hP (cC_lt hC_2 (by decide)) (cC_E1 hC_2) rfl rfl rfl hl.1 rfl (Nat.le_of_ble_eq_true rfl) dX9_sees_22 ⟨Nat.le_refl _, Nat.le_refl _⟩ (fun r2 H locs hw hP => ?_)
    refine lv_if_ne (tgt := 35) hx hb dX9_sees_25 (by decide) (fun h => ?_) (fun h => ?_)
    · replace hw := hw.1 h
      refine lv_aload_n hx hb dX9_sees_35 rfl (lv_at hl 0 rfl) ?_
      refine gC_9_2 hx hb hts i9 hown hK hP hC_0 (hts _ q_X9_sees_3) dX9_sees_36 ?_
      refine lv_aload_n hx hb dX9_sees_39 rfl (lv_at hl 0 rfl) ?_
      refine gC_9_0 hx hb hts i9 hown hK hP hC_0 (hts _ q_X9_sees_1) dX9_sees_40 ?_
      refine gC_4_1 hx hb hts i4 hown hK hP hC_1 (hts _ q_X9_sees_4) dX9_sees_43 ?_
      refine gC_8_2 hx hb hts i8 hown hK hP hC_6 (hts _ q_X9_sees_5) dX9_sees_46 ?_
      refine lv_iload_n hx hb dX9_sees_49 rfl (lv_at hl 1 rfl) ?_
      refine cC_Vip (rest := []) ⟨hx, hb, hml, hown, hts⟩ (c_X7_after l Γ hI 52 hC_52 (σ.1 6 2) a1 σ _ hw) (cwV 2 hts gX9_sees_X7_after rfl rfl rfl (by decide +kernel) ⟨Nat.le_of_ble_eq_true rfl, Nat.le_of_ble_eq_true rfl⟩) hK hN hP (cC_lt hC_52 (by decide)) (cC_E7 hC_52) rfl rfl rfl hl.1 rfl (Nat.le_of_ble_eq_true rfl) dX9_sees_50 ⟨Nat.le_refl _, Nat.le_refl _⟩ (fun r3 H locs hw hP => ?_)
      refine lv_istore_n (lv' := [(2, .int r3), (0, .ref (Γ.2.2 0)), (1, .int a1)]) hx hb dX9_sees_53 rfl hl (by decide) rfl (fun ls hl => ?_)
      refine lv_iload_n hx hb dX9_sees_54 rfl (lv_at hl 0 rfl) ?_
      refine lv_if_ne (tgt := 65) hx hb dX9_sees_55 (by decide) (fun h => ?_) (fun h => ?_)
      · replace hw := hw.1 h
        refine lv_aload_n hx hb dX9_sees_65 rfl (lv_at hl 1 rfl) ?_
        refine gC_9_1 hx hb hts i9 hown hK hP hC_0 (hts _ q_X9_sees_6) dX9_sees_66 ?_
        refine lv_aload_n hx hb dX9_sees_69 rfl (lv_at hl 1 rfl) ?_
        refine gC_9_0 hx hb hts i9 hown hK hP hC_0 (hts _ q_X9_sees_1) dX9_sees_70 ?_
        refine cC_Vv (rest := []) ⟨hx, hb, hml, hown, hts⟩ (c_X0_keep l Γ hI 8 hC_8 1 hC_1 σ _ hw) (cwV 1 hts gX9_sees_X0_keep rfl rfl rfl (by decide +kernel) ⟨Nat.le_of_ble_eq_true rfl, Nat.le_of_ble_eq_true rfl⟩) hK hN hP (cC_lt hC_8 (by decide)) (cC_E0 hC_8) rfl rfl rfl hl.1 rfl (Nat.le_of_ble_eq_true rfl) dX9_sees_73 ⟨Nat.le_refl _, Nat.le_refl _⟩ (fun s4 H locs hw hP => ?_)
        refine lv_aload_n hx hb dX9_sees_76 rfl (lv_at hl 1 rfl) ?_
        refine gC_9_0 hx hb hts i9 hown hK hP hC_0 (hts _ q_X9_sees_1) dX9_sees_77 ?_
        refine gC_4_1 hx hb hts i4 hown hK hP hC_1 (hts _ q_X9_sees_4) dX9_sees_80 ?_
        refine lv_iload_n hx hb dX9_sees_83 rfl (lv_at hl 2 rfl) ?_
        refine lv_iload_n hx hb dX9_sees_84 rfl (lv_at hl 0 rfl) ?_
        refine cC_Vv (rest := []) ⟨hx, hb, hml, hown, hts⟩ (c_X8_add l Γ hI 6 hC_6 a1 r3 s4 _ hw) (cwV 2 hts gX9_sees_X8_add rfl rfl rfl (by decide +kernel) ⟨Nat.le_of_ble_eq_true rfl, Nat.le_of_ble_eq_true rfl⟩) hK hN hP (cC_lt hC_6 (by decide)) (cC_E8 hC_6) rfl rfl rfl hl.1 rfl (Nat.le_of_ble_eq_true rfl) dX9_sees_85 ⟨Nat.le_refl _, Nat.le_refl _⟩ (fun s5 H locs hw hP => ?_)
        refine lv_iload_n hx hb dX9_sees_88 rfl (lv_at hl 0 rfl) ?_
        refine cC_Sip (rest := []) ⟨hx, hb, hml, hown, hts⟩ (c_X9_verdict l Γ hI r3 s5 _ hw) (va_cwS 1 hts gX9_sees_X9_verdict rfl rfl rfl (by decide +kernel) ⟨Nat.le_of_ble_eq_true rfl, Nat.le_of_ble_eq_true rfl⟩) hK hN hP rfl hl.1 rfl (Nat.le_of_ble_eq_true rfl) dX9_sees_89 ⟨Nat.le_refl _, Nat.le_refl _⟩ (fun r6 H locs hw hP => ?_)
        exact W.iret hx hb hr (cC_ri hP hw) hP.2.2.2 dX9_sees_92
      · replace hw := hw.2 h
        refine lv_aload_n hx hb dX9_sees_58 rfl (lv_at hl 1 rfl) ?_
        refine lv_bipush (v := (-3)) hx hb dX9_sees_59 (by decide) ?_
        refine cC_Vi (rest := []) ⟨hx, hb, hml, hown, hts⟩ (c_X9_refuse l Γ hI (-3) σ _ hw) (cwV 1 hts gX9_sees_X9_refuse rfl rfl rfl (by decide +kernel) ⟨Nat.le_of_ble_eq_true rfl, Nat.le_of_ble_eq_true rfl⟩) hK hN hP (cC_lt hC_0 (by decide)) (cC_E9 hC_0) rfl rfl rfl hl.1 rfl (Nat.le_of_ble_eq_true rfl) dX9_sees_61 ⟨Nat.le_refl _, Nat.le_refl _⟩ (fun r7 s8 H locs hw hP => ?_)
        exact W.iret hx hb hr (cC_ri hP hw) hP.2.2.2 dX9_sees_64
    · replace hw := hw.2 h
      refine lv_aload_n hx hb dX9_sees_28 rfl (lv_at hl 0 rfl) ?_
      refine lv_bipush (v := (-3)) hx hb dX9_sees_29 (by decide) ?_
      refine cC_Vi (rest := []) ⟨hx, hb, hml, hown, hts⟩ (c_X9_refuse l Γ hI (-3) σ _ hw) (cwV 1 hts gX9_sees_X9_refuse rfl rfl rfl (by decide +kernel) ⟨Nat.le_of_ble_eq_true rfl, Nat.le_of_ble_eq_true rfl⟩) hK hN hP (cC_lt hC_0 (by decide)) (cC_E9 hC_0) rfl rfl rfl hl.1 rfl (Nat.le_of_ble_eq_true rfl) dX9_sees_31 ⟨Nat.le_refl _, Nat.le_refl _⟩ (fun r9 s10 H locs hw hP => ?_)
      exact W.iret hx hb hr (cC_ri hP hw) hP.2.2.2 dX9_sees_34
  · replace hw := hw.2 h
    refine lv_aload_n hx hb dX9_sees_7 rfl (lv_at hl 0 rfl) ?_
    refine lv_bipush (v := (-2)) hx hb dX9_sees_8 (by decide) ?_
    refine cC_Vi (rest := []) ⟨hx, hb, hml, hown, hts⟩ (c_X9_refuse l Γ hI (-2) σ _ hw) (cwV 1 hts gX9_sees_X9_refuse rfl rfl rfl (by decide +kernel) ⟨Nat.le_of_ble_eq_true rfl, Nat.le_of_ble_eq_true rfl⟩) hK hN hP (cC_lt hC_0 (by decide)) (cC_E9 hC_0) rfl rfl rfl hl.1 rfl (Nat.le_of_ble_eq_true rfl) dX9_sees_10 ⟨Nat.le_refl _, Nat.le_refl _⟩ (fun r11 s12 H locs hw hP => ?_)
    exact W.iret hx hb hr (cC_ri hP hw) hP.2.2.2 dX9_sees_13
theorem q_X9_restarts_1 : (Cond.fieldLink RX9 19 "FaultTwins" "history" "LFaultTwins$History;") ∈ wsX9_restarts := List.mem_of_getElem? (i := 1) (by decide +kernel)
theorem q_X9_restarts_2 : (Cond.fieldLink RX9 12 "FaultTwins" "now" "LFaultTwins$State;") ∈ wsX9_restarts := List.mem_of_getElem? (i := 2) (by decide +kernel)
theorem q_X9_restarts_3 : (Cond.fieldLink RX9 146 "FaultTwins$State" "watch" "LFaultTwins$Watch;") ∈ wsX9_restarts := List.mem_of_getElem? (i := 3) (by decide +kernel)
theorem q_X9_restarts_4 : (Cond.fieldLink RX9 26 "FaultTwins" "view" "LFaultTwins$View;") ∈ wsX9_restarts := List.mem_of_getElem? (i := 4) (by decide +kernel)
theorem q_X9_restarts_5 : (Cond.fieldLink RX9 150 "FaultTwins$Watch" "set" "I") ∈ wsX9_restarts := List.mem_of_getElem? (i := 5) (by decide +kernel)
set_option maxHeartbeats 4000000 in
set_option maxRecDepth 100000 in
theorem c_X9_restarts (l : Launch) (Γ : ft_G) (hI : cC_I Γ)  (σ : ft_St) (Φ : Int32 → ft_St → Prop) (hw : w_X9_restarts  σ Φ) : cC_Mi l yX9_restarts wsX9_restarts ({ frames := 4, cells := 0, slots := 0, locals := 123 } : Room) Γ σ [.ref (Γ.2.2 0)] Φ := by
  refine Met.ofW (cc := cX9_restarts) (maxL := 1) (ret := (some .int)) (by decide) rfl ?_
  intro p e s m args below meth c s₁ B hml hv
  obtain ⟨rfl, hP, hK, hN⟩ := hv
  have hx := B.exec
  have hb := B.bytes
  have hr := B.returns
  have hts := atoms_spec (ws := wsX9_restarts) B.pre
  have hown : s.vm.findClass RX9 = some m.cls := findClass_of_methodNamed B.named
  have hlocks := B.notSynchronized
  have i4 : ∀ w ∈ wsX40, w ∈ wsX9_restarts := fun w h => List.mem_cons_of_mem _ (List.mem_append_left _ (List.mem_append_left _ (List.mem_append_left _ (List.mem_append_left _ (List.mem_append_right _ h)))))
  have i8 : ∀ w ∈ wsX80, w ∈ wsX9_restarts := fun w h => List.mem_cons_of_mem _ (List.mem_append_left _ (List.mem_append_left _ (List.mem_append_left _ (List.mem_append_right _ h))))
  have i9 : ∀ w ∈ wsX90, w ∈ wsX9_restarts := fun w h => List.mem_cons_of_mem _ (List.mem_append_left _ (List.mem_append_left _ (List.mem_append_left _ (List.mem_append_left _ (List.mem_append_left _ (List.mem_append_right _ h))))))
  have hP : cC_P Γ s σ s.heap [] := ⟨hP, va_S.rf⟩
  have hl := lv_entry ([.ref (Γ.2.2 0)]) (n := 1) (Nat.le_of_ble_eq_true rfl)
  rw [lg_entry_eq]
  generalize (lg_sl ([.ref (Γ.2.2 0)]) ++ List.replicate (1 - (lg_sl ([.ref (Γ.2.2 0)])).length) Slot.unset).toArray = ls at hl ⊢
  have hl : lv_has ls 1 [(0, .ref (Γ.2.2 0))] := hl
  unfold w_X9_restarts at hw
  refine lv_aload_n hx hb dX9_restarts_0 rfl (lv_at hl 0 rfl) ?_
  refine gC_9_1 hx hb hts i9 hown hK hP hC_0 (hts _ q_X9_restarts_1) dX9_restarts_1 ?_
  refine lv_aload_n hx hb dX9_restarts_4 rfl (lv_at hl 0 rfl) ?_
  refine gC_9_0 hx hb hts i9 hown hK hP hC_0 (hts _ q_X9_restarts_2) dX9_restarts_5 ?_
  refine cC_Vv (rest := []) ⟨hx, hb, hml, hown, hts⟩ (c_X0_keep l Γ hI 8 hC_8 1 hC_1 σ _ hw) (cwV 1 hts gX9_restarts_X0_keep rfl rfl rfl (by decide +kernel) ⟨Nat.le_of_ble_eq_true rfl, Nat.le_of_ble_eq_true rfl⟩) hK hN hP (cC_lt hC_8 (by decide)) (cC_E0 hC_8) rfl rfl rfl hl.1 rfl (Nat.le_of_ble_eq_true rfl) dX9_restarts_8 ⟨Nat.le_refl _, Nat.le_refl _⟩ (fun s1 H locs hw hP => ?_)
  refine lv_aload_n hx hb dX9_restarts_11 rfl (lv_at hl 0 rfl) ?_
  refine gC_9_0 hx hb hts i9 hown hK hP hC_0 (hts _ q_X9_restarts_2) dX9_restarts_12 ?_
  refine gC_4_1 hx hb hts i4 hown hK hP hC_1 (hts _ q_X9_restarts_3) dX9_restarts_15 ?_
  refine lv_aload_n hx hb dX9_restarts_18 rfl (lv_at hl 0 rfl) ?_
  refine gC_9_2 hx hb hts i9 hown hK hP hC_0 (hts _ q_X9_restarts_4) dX9_restarts_19 ?_
  refine cC_Vip (rest := [.ref (Γ.2.2 6)]) ⟨hx, hb, hml, hown, hts⟩ (c_X7_first l Γ hI 52 hC_52 s1 _ hw) (cwV 0 hts gX9_restarts_X7_first rfl rfl rfl (by decide +kernel) ⟨Nat.le_of_ble_eq_true rfl, Nat.le_of_ble_eq_true rfl⟩) hK hN hP (cC_lt hC_52 (by decide)) (cC_E7 hC_52) rfl rfl rfl hl.1 rfl (Nat.le_of_ble_eq_true rfl) dX9_restarts_22 ⟨Nat.le_refl _, Nat.le_refl _⟩ (fun r2 H locs hw hP => ?_)
  refine cC_Vv (rest := []) ⟨hx, hb, hml, hown, hts⟩ (c_X8_begin l Γ hI 6 hC_6 r2 s1 _ hw) (cwV 1 hts gX9_restarts_X8_begin rfl rfl rfl (by decide +kernel) ⟨Nat.le_of_ble_eq_true rfl, Nat.le_of_ble_eq_true rfl⟩) hK hN hP (cC_lt hC_6 (by decide)) (cC_E8 hC_6) rfl rfl rfl hl.1 rfl (Nat.le_of_ble_eq_true rfl) dX9_restarts_25 ⟨Nat.le_refl _, Nat.le_refl _⟩ (fun s3 H locs hw hP => ?_)
  refine lv_aload_n hx hb dX9_restarts_28 rfl (lv_at hl 0 rfl) ?_
  refine gC_9_0 hx hb hts i9 hown hK hP hC_0 (hts _ q_X9_restarts_2) dX9_restarts_29 ?_
  refine gC_4_1 hx hb hts i4 hown hK hP hC_1 (hts _ q_X9_restarts_3) dX9_restarts_32 ?_
  refine gC_8_2 hx hb hts i8 hown hK hP hC_6 (hts _ q_X9_restarts_5) dX9_restarts_35 ?_
  refine cC_Sip (rest := []) ⟨hx, hb, hml, hown, hts⟩ (c_X9_verdict l Γ hI (s3.1 6 2) s3 _ hw) (va_cwS 1 hts gX9_restarts_X9_verdict rfl rfl rfl (by decide +kernel) ⟨Nat.le_of_ble_eq_true rfl, Nat.le_of_ble_eq_true rfl⟩) hK hN hP rfl hl.1 rfl (Nat.le_of_ble_eq_true rfl) dX9_restarts_38 ⟨Nat.le_refl _, Nat.le_refl _⟩ (fun r4 H locs hw hP => ?_)
  exact W.iret hx hb hr (cC_ri hP hw) hP.2.2.2 dX9_restarts_41
theorem q_X9_canGoUnseen_1 : (Cond.fieldLink RX9 12 "FaultTwins" "now" "LFaultTwins$State;") ∈ wsX9_canGoUnseen := List.mem_of_getElem? (i := 1) (by decide +kernel)
theorem q_X9_canGoUnseen_2 : (Cond.fieldLink RX9 75 "FaultTwins$State" "machine" "LFaultTwins$Machine;") ∈ wsX9_canGoUnseen := List.mem_of_getElem? (i := 2) (by decide +kernel)
theorem q_X9_canGoUnseen_3 : (Cond.fieldLink RX9 97 "FaultTwins$Machine" "ways" "I") ∈ wsX9_canGoUnseen := List.mem_of_getElem? (i := 3) (by decide +kernel)
theorem q_X9_canGoUnseen_4 : (Cond.fieldLink RX9 127 "FaultTwins$Machine" "by" "[I") ∈ wsX9_canGoUnseen := List.mem_of_getElem? (i := 4) (by decide +kernel)
theorem q_X9_canGoUnseen_5 : (Cond.fieldLink RX9 123 "FaultTwins$Machine" "from" "[I") ∈ wsX9_canGoUnseen := List.mem_of_getElem? (i := 5) (by decide +kernel)
set_option maxHeartbeats 4000000 in
set_option maxRecDepth 100000 in
theorem c_X9_canGoUnseen (l : Launch) (Γ : ft_G) (hI : cC_I Γ) (a1 : Int32) (σ : ft_St) (Φ : Int32 → Prop) (hw : w_X9_canGoUnseen a1 σ Φ) : cC_Mip l yX9_canGoUnseen wsX9_canGoUnseen ({ frames := 1, cells := 0, slots := 0, locals := 21 } : Room) Γ σ [.ref (Γ.2.2 0), .int a1] Φ := by
  refine Met.ofW (cc := cX9_canGoUnseen) (maxL := 4) (ret := (some .boolean)) (by decide) rfl ?_
  intro p e s m args below meth c s₁ B hml hv
  obtain ⟨rfl, hP, hK, hN⟩ := hv
  have hx := B.exec
  have hb := B.bytes
  have hr := B.returns
  have hts := atoms_spec (ws := wsX9_canGoUnseen) B.pre
  have hown : s.vm.findClass RX9 = some m.cls := findClass_of_methodNamed B.named
  have hlocks := B.notSynchronized
  have i1 : ∀ w ∈ wsX10, w ∈ wsX9_canGoUnseen := fun w h => List.mem_cons_of_mem _ (List.mem_append_right _ h)
  have i4 : ∀ w ∈ wsX40, w ∈ wsX9_canGoUnseen := fun w h => List.mem_cons_of_mem _ (List.mem_append_left _ (List.mem_append_right _ h))
  have i9 : ∀ w ∈ wsX90, w ∈ wsX9_canGoUnseen := fun w h => List.mem_cons_of_mem _ (List.mem_append_left _ (List.mem_append_left _ (List.mem_append_right _ h)))
  have hP : cC_P Γ s σ s.heap [] := ⟨hP, va_S.rf⟩
  have hl := lv_entry ([.ref (Γ.2.2 0), .int a1]) (n := 4) (Nat.le_of_ble_eq_true rfl)
  rw [lg_entry_eq]
  generalize (lg_sl ([.ref (Γ.2.2 0), .int a1]) ++ List.replicate (4 - (lg_sl ([.ref (Γ.2.2 0), .int a1])).length) Slot.unset).toArray = ls at hl ⊢
  have hl : lv_has ls 4 [(0, .ref (Γ.2.2 0)), (1, .int a1)] := hl
  unfold w_X9_canGoUnseen at hw
  refine lv_aload_n hx hb dX9_canGoUnseen_0 rfl (lv_at hl 0 rfl) ?_
  refine gC_9_0 hx hb hts i9 hown hK hP hC_0 (hts _ q_X9_canGoUnseen_1) dX9_canGoUnseen_1 ?_
  refine gC_4_0 hx hb hts i4 hown hK hP hC_1 (hts _ q_X9_canGoUnseen_2) dX9_canGoUnseen_4 ?_
  refine lv_astore_n (lv' := [(2, .ref (Γ.2.2 2)), (0, .ref (Γ.2.2 0)), (1, .int a1)]) hx hb dX9_canGoUnseen_7 rfl hl (by decide) rfl (fun ls hl => ?_)
  refine lv_iconst (v := 0) hx hb dX9_canGoUnseen_8 (by decide) ?_
  refine lv_istore_n (lv' := [(3, .int 0), (2, .ref (Γ.2.2 2)), (0, .ref (Γ.2.2 0)), (1, .int a1)]) hx hb dX9_canGoUnseen_9 rfl hl (by decide) rfl (fun ls hl => ?_)
  refine hw (fun (x1 : Int32) => ∀ (H : Heap) (locs : List Loc) (ls : Array Slot), cC_P Γ s σ H locs → lv_has ls 4 [(1, .int a1), (2, .ref (Γ.2.2 2)), (3, .int x1)] → cC_Wi p l e ({ frames := 1, cells := 0, slots := 0, locals := 21 } : Room) s m [.ref (Γ.2.2 0), .int a1] below meth c Γ (fun r u => u = σ ∧ Φ r) H locs 10 ls []) (fun x1 hw H locs ls hP hl => ?_) _ _ _ hP (lv_sub hl [3, 1, 0] rfl)
  refine lv_iload_n hx hb dX9_canGoUnseen_10 rfl (lv_at hl 2 rfl) ?_
  refine lv_aload_n hx hb dX9_canGoUnseen_11 rfl (lv_at hl 1 rfl) ?_
  refine gC_1_3 hx hb hts i1 hown hK hP hC_2 (hts _ q_X9_canGoUnseen_3) dX9_canGoUnseen_12 ?_
  refine lv_icmp_ge (tgt := 52) hx hb dX9_canGoUnseen_15 (by decide) (fun h => ?_) (fun h => ?_)
  · replace hw := hw.1 h
    refine lv_iconst (v := 0) hx hb dX9_canGoUnseen_52 (by decide) ?_
    exact W.zret hx hb hr rfl (cC_ri hP ⟨rfl, hw⟩) hP.2.2.2 dX9_canGoUnseen_53
  · replace hw := hw.2 h
    refine lv_aload_n hx hb dX9_canGoUnseen_18 rfl (lv_at hl 1 rfl) ?_
    refine lv_aload_n hx hb dX9_canGoUnseen_19 rfl (lv_at hl 1 rfl) ?_
    refine gC_1_1 hx hb hts i1 hown hK hP hC_2 (hts _ q_X9_canGoUnseen_4) dX9_canGoUnseen_20 ?_
    refine lv_iload_n hx hb dX9_canGoUnseen_23 rfl (lv_at hl 2 rfl) ?_
    refine aC_ld hx hb hK hP hC_4 mC_4 hw.1 dX9_canGoUnseen_24 ?_
    replace hw := hw.2
    refine cC_Vip (rest := []) ⟨hx, hb, hml, hown, hts⟩ (c_X1_isSeen l Γ hI 2 hC_2 (σ.2.1 4 (Int32.toNatClampNeg x1)) σ _ hw) (cwV 1 hts gX9_canGoUnseen_X1_isSeen rfl rfl rfl (by decide +kernel) ⟨Nat.le_of_ble_eq_true rfl, Nat.le_of_ble_eq_true rfl⟩) hK hN hP (cC_lt hC_2 (by decide)) (cC_E1 hC_2) rfl rfl rfl hl.1 rfl (Nat.le_of_ble_eq_true rfl) dX9_canGoUnseen_25 ⟨Nat.le_refl _, Nat.le_refl _⟩ (fun r3 H locs hw hP => ?_)
    refine lv_if_ne (tgt := 46) hx hb dX9_canGoUnseen_28 (by decide) (fun h => ?_) (fun h => ?_)
    · replace hw := hw.1 h
      refine lv_iinc (v := x1 + 1) (lv' := [(3, .int (x1 + 1)), (1, .int a1), (2, .ref (Γ.2.2 2))]) hx hb dX9_canGoUnseen_46 hl (k := 2) rfl (congrArg (fun z => x1 + z) (by decide)) (by decide) rfl (fun ls hl => ?_)
      refine lv_goto (tgt := 10) hx hb dX9_canGoUnseen_49 (by decide) ?_
      exact hw _ _ _ hP (lv_sub hl [1, 2, 0] rfl)
    · replace hw := hw.2 h
      refine lv_iload_n hx hb dX9_canGoUnseen_31 rfl (lv_at hl 0 rfl) ?_
      refine lv_aload_n hx hb dX9_canGoUnseen_32 rfl (lv_at hl 1 rfl) ?_
      refine gC_1_0 hx hb hts i1 hown hK hP hC_2 (hts _ q_X9_canGoUnseen_5) dX9_canGoUnseen_33 ?_
      refine lv_iload_n hx hb dX9_canGoUnseen_36 rfl (lv_at hl 2 rfl) ?_
      refine aC_ld hx hb hK hP hC_3 mC_3 hw.1 dX9_canGoUnseen_37 ?_
      replace hw := hw.2
      refine cC_Sip (rest := []) ⟨hx, hb, hml, hown, hts⟩ (c_X9_hasPlace l Γ hI a1 (σ.2.1 3 (Int32.toNatClampNeg x1)) σ _ hw) (va_cwS 2 hts gX9_canGoUnseen_X9_hasPlace rfl rfl rfl (by decide +kernel) ⟨Nat.le_of_ble_eq_true rfl, Nat.le_of_ble_eq_true rfl⟩) hK hN hP rfl hl.1 rfl (Nat.le_of_ble_eq_true rfl) dX9_canGoUnseen_38 ⟨Nat.le_refl _, Nat.le_refl _⟩ (fun r4 H locs hw hP => ?_)
      refine lv_if_eq (tgt := 46) hx hb dX9_canGoUnseen_41 (by decide) (fun h => ?_) (fun h => ?_)
      · replace hw := hw.1 h
        refine lv_iinc (v := x1 + 1) (lv' := [(3, .int (x1 + 1)), (1, .int a1), (2, .ref (Γ.2.2 2))]) hx hb dX9_canGoUnseen_46 hl (k := 2) rfl (congrArg (fun z => x1 + z) (by decide)) (by decide) rfl (fun ls hl => ?_)
        refine lv_goto (tgt := 10) hx hb dX9_canGoUnseen_49 (by decide) ?_
        exact hw _ _ _ hP (lv_sub hl [1, 2, 0] rfl)
      · replace hw := hw.2 h
        refine lv_iconst (v := 1) hx hb dX9_canGoUnseen_44 (by decide) ?_
        exact W.zret hx hb hr rfl (cC_ri hP ⟨rfl, hw⟩) hP.2.2.2 dX9_canGoUnseen_45
theorem q_X9_known_1 : (Cond.fieldLink RX9 12 "FaultTwins" "now" "LFaultTwins$State;") ∈ wsX9_known := List.mem_of_getElem? (i := 1) (by decide +kernel)
theorem q_X9_known_2 : (Cond.fieldLink RX9 146 "FaultTwins$State" "watch" "LFaultTwins$Watch;") ∈ wsX9_known := List.mem_of_getElem? (i := 2) (by decide +kernel)
theorem q_X9_known_3 : (Cond.fieldLink RX9 150 "FaultTwins$Watch" "set" "I") ∈ wsX9_known := List.mem_of_getElem? (i := 3) (by decide +kernel)
theorem q_X9_known_4 : (Cond.fieldLink RX9 26 "FaultTwins" "view" "LFaultTwins$View;") ∈ wsX9_known := List.mem_of_getElem? (i := 4) (by decide +kernel)
set_option maxHeartbeats 4000000 in
set_option maxRecDepth 100000 in
theorem c_X9_known (l : Launch) (Γ : ft_G) (hI : cC_I Γ) (a1 : Int32) (σ : ft_St) (Φ : Int32 → ft_St → Prop) (hw : w_X9_known a1 σ Φ) : cC_Mi l yX9_known wsX9_known ({ frames := 2, cells := 0, slots := 0, locals := 47 } : Room) Γ σ [.ref (Γ.2.2 0), .int a1] Φ := by
  refine Met.ofW (cc := cX9_known) (maxL := 3) (ret := (some .int)) (by decide) rfl ?_
  intro p e s m args below meth c s₁ B hml hv
  obtain ⟨rfl, hP, hK, hN⟩ := hv
  have hx := B.exec
  have hb := B.bytes
  have hr := B.returns
  have hts := atoms_spec (ws := wsX9_known) B.pre
  have hown : s.vm.findClass RX9 = some m.cls := findClass_of_methodNamed B.named
  have hlocks := B.notSynchronized
  have i4 : ∀ w ∈ wsX40, w ∈ wsX9_known := fun w h => List.mem_cons_of_mem _ (List.mem_append_left _ (List.mem_append_left _ (List.mem_append_left _ (List.mem_append_right _ h))))
  have i8 : ∀ w ∈ wsX80, w ∈ wsX9_known := fun w h => List.mem_cons_of_mem _ (List.mem_append_left _ (List.mem_append_left _ (List.mem_append_right _ h)))
  have i9 : ∀ w ∈ wsX90, w ∈ wsX9_known := fun w h => List.mem_cons_of_mem _ (List.mem_append_left _ (List.mem_append_left _ (List.mem_append_left _ (List.mem_append_left _ (List.mem_append_right _ h)))))
  have hP : cC_P Γ s σ s.heap [] := ⟨hP, va_S.rf⟩
  have hl := lv_entry ([.ref (Γ.2.2 0), .int a1]) (n := 3) (Nat.le_of_ble_eq_true rfl)
  rw [lg_entry_eq]
  generalize (lg_sl ([.ref (Γ.2.2 0), .int a1]) ++ List.replicate (3 - (lg_sl ([.ref (Γ.2.2 0), .int a1])).length) Slot.unset).toArray = ls at hl ⊢
  have hl : lv_has ls 3 [(0, .ref (Γ.2.2 0)), (1, .int a1)] := hl
  unfold w_X9_known at hw
  refine lv_iload_n hx hb dX9_known_0 rfl (lv_at hl 1 rfl) ?_
  refine lv_iconst (v := 4) hx hb dX9_known_1 (by decide) ?_
  refine cC_Sip (rest := []) ⟨hx, hb, hml, hown, hts⟩ (c_X9_isWithin l Γ hI a1 4 σ _ hw) (va_cwS 2 hts gX9_known_X9_isWithin rfl rfl rfl (by decide +kernel) ⟨Nat.le_of_ble_eq_true rfl, Nat.le_of_ble_eq_true rfl⟩) hK hN hP rfl hl.1 rfl (Nat.le_of_ble_eq_true rfl) dX9_known_2 ⟨Nat.le_refl _, Nat.le_refl _⟩ (fun r1 H locs hw hP => ?_)
  refine lv_if_ne (tgt := 15) hx hb dX9_known_5 (by decide) (fun h => ?_) (fun h => ?_)
  · replace hw := hw.1 h
    refine lv_aload_n hx hb dX9_known_15 rfl (lv_at hl 0 rfl) ?_
    refine gC_9_0 hx hb hts i9 hown hK hP hC_0 (hts _ q_X9_known_1) dX9_known_16 ?_
    refine gC_4_1 hx hb hts i4 hown hK hP hC_1 (hts _ q_X9_known_2) dX9_known_19 ?_
    refine gC_8_2 hx hb hts i8 hown hK hP hC_6 (hts _ q_X9_known_3) dX9_known_22 ?_
    refine lv_istore_n (lv' := [(2, .int (σ.1 6 2)), (0, .ref (Γ.2.2 0)), (1, .int a1)]) hx hb dX9_known_25 rfl hl (by decide) rfl (fun ls hl => ?_)
    refine lv_iload_n hx hb dX9_known_26 rfl (lv_at hl 2 rfl) ?_
    rcases ft_tab4 a1 with h | h | h | h | h
    · replace hw := hw.2.2.2.2 h
      refine lv_tableOut (tgt := 77) hx hb dX9_known_27 h (by decide) ?_
      refine lv_aload_n hx hb dX9_known_77 rfl (lv_at hl 1 rfl) ?_
      refine lv_iload_n hx hb dX9_known_78 rfl (lv_at hl 0 rfl) ?_
      refine cC_Vip (rest := []) ⟨hx, hb, hml, hown, hts⟩ (c_X9_canGoUnseen l Γ hI (σ.1 6 2) σ _ hw) (cwV 1 hts gX9_known_X9_canGoUnseen rfl rfl rfl (by decide +kernel) ⟨Nat.le_of_ble_eq_true rfl, Nat.le_of_ble_eq_true rfl⟩) hK hN hP (cC_lt hC_0 (by decide)) (cC_E9 hC_0) rfl rfl rfl hl.1 rfl (Nat.le_of_ble_eq_true rfl) dX9_known_79 ⟨Nat.le_refl _, Nat.le_refl _⟩ (fun r2 H locs hw hP => ?_)
      refine cC_Sip (rest := []) ⟨hx, hb, hml, hown, hts⟩ (c_X9_isOne l Γ hI r2 σ _ hw) (va_cwS 1 hts gX9_known_X9_isOne rfl rfl rfl (by decide +kernel) ⟨Nat.le_of_ble_eq_true rfl, Nat.le_of_ble_eq_true rfl⟩) hK hN hP rfl hl.1 rfl (Nat.le_of_ble_eq_true rfl) dX9_known_82 ⟨Nat.le_refl _, Nat.le_refl _⟩ (fun r3 H locs hw hP => ?_)
      exact W.iret hx hb hr (cC_ri hP hw) hP.2.2.2 dX9_known_85
    · replace hw := hw.1 h
      refine lv_tableIn (off := 29) (tgt := 56) hx hb dX9_known_27 (by rw [h]; decide) (by rw [h]; decide) (by rw [h]; rfl) (by decide) ?_
      refine lv_iload_n hx hb dX9_known_56 rfl (lv_at hl 0 rfl) ?_
      exact W.iret hx hb hr (cC_ri hP hw) hP.2.2.2 dX9_known_57
    · replace hw := hw.2.1 h
      refine lv_tableIn (off := 31) (tgt := 58) hx hb dX9_known_27 (by rw [h]; decide) (by rw [h]; decide) (by rw [h]; rfl) (by decide) ?_
      refine lv_iload_n hx hb dX9_known_58 rfl (lv_at hl 0 rfl) ?_
      refine cC_Sip (rest := []) ⟨hx, hb, hml, hown, hts⟩ (c_X9_verdict l Γ hI (σ.1 6 2) σ _ hw) (va_cwS 1 hts gX9_known_X9_verdict rfl rfl rfl (by decide +kernel) ⟨Nat.le_of_ble_eq_true rfl, Nat.le_of_ble_eq_true rfl⟩) hK hN hP rfl hl.1 rfl (Nat.le_of_ble_eq_true rfl) dX9_known_59 ⟨Nat.le_refl _, Nat.le_refl _⟩ (fun r4 H locs hw hP => ?_)
      exact W.iret hx hb hr (cC_ri hP hw) hP.2.2.2 dX9_known_62
    · replace hw := hw.2.2.1 h
      refine lv_tableIn (off := 36) (tgt := 63) hx hb dX9_known_27 (by rw [h]; decide) (by rw [h]; decide) (by rw [h]; rfl) (by decide) ?_
      refine lv_iload_n hx hb dX9_known_63 rfl (lv_at hl 0 rfl) ?_
      refine cC_Sip (rest := []) ⟨hx, hb, hml, hown, hts⟩ (c_J6_bitCount_0f7a4 l Γ hI (σ.1 6 2) σ _ hw) (va_cwS 1 hts gX9_known_J6_bitCount_0f7a4 rfl rfl rfl (by decide +kernel) ⟨Nat.le_of_ble_eq_true rfl, Nat.le_of_ble_eq_true rfl⟩) hK hN hP rfl hl.1 rfl (Nat.le_of_ble_eq_true rfl) dX9_known_64 ⟨Nat.le_refl _, Nat.le_refl _⟩ (fun r5 H locs hw hP => ?_)
      exact W.iret hx hb hr (cC_ri hP hw) hP.2.2.2 dX9_known_67
    · replace hw := hw.2.2.2.1 h
      refine lv_tableIn (off := 41) (tgt := 68) hx hb dX9_known_27 (by rw [h]; decide) (by rw [h]; decide) (by rw [h]; rfl) (by decide) ?_
      refine lv_aload_n hx hb dX9_known_68 rfl (lv_at hl 1 rfl) ?_
      refine gC_9_2 hx hb hts i9 hown hK hP hC_0 (hts _ q_X9_known_4) dX9_known_69 ?_
      refine lv_iload_n hx hb dX9_known_72 rfl (lv_at hl 0 rfl) ?_
      refine cC_Vip (rest := []) ⟨hx, hb, hml, hown, hts⟩ (c_X7_nextSights l Γ hI 52 hC_52 (σ.1 6 2) σ _ hw) (cwV 1 hts gX9_known_X7_nextSights rfl rfl rfl (by decide +kernel) ⟨Nat.le_of_ble_eq_true rfl, Nat.le_of_ble_eq_true rfl⟩) hK hN hP (cC_lt hC_52 (by decide)) (cC_E7 hC_52) rfl rfl rfl hl.1 rfl (Nat.le_of_ble_eq_true rfl) dX9_known_73 ⟨Nat.le_refl _, Nat.le_refl _⟩ (fun r6 H locs hw hP => ?_)
      exact W.iret hx hb hr (cC_ri hP hw) hP.2.2.2 dX9_known_76
  · replace hw := hw.2 h
    refine lv_aload_n hx hb dX9_known_8 rfl (lv_at hl 0 rfl) ?_
    refine lv_bipush (v := (-2)) hx hb dX9_known_9 (by decide) ?_
    refine cC_Vi (rest := []) ⟨hx, hb, hml, hown, hts⟩ (c_X9_refuse l Γ hI (-2) σ _ hw) (cwV 1 hts gX9_known_X9_refuse rfl rfl rfl (by decide +kernel) ⟨Nat.le_of_ble_eq_true rfl, Nat.le_of_ble_eq_true rfl⟩) hK hN hP (cC_lt hC_0 (by decide)) (cC_E9 hC_0) rfl rfl rfl hl.1 rfl (Nat.le_of_ble_eq_true rfl) dX9_known_11 ⟨Nat.le_refl _, Nat.le_refl _⟩ (fun r7 s8 H locs hw hP => ?_)
    exact W.iret hx hb hr (cC_ri hP hw) hP.2.2.2 dX9_known_14
theorem q_X9_would_1 : (Cond.fieldLink RX9 12 "FaultTwins" "now" "LFaultTwins$State;") ∈ wsX9_would := List.mem_of_getElem? (i := 1) (by decide +kernel)
theorem q_X9_would_2 : (Cond.fieldLink RX9 75 "FaultTwins$State" "machine" "LFaultTwins$Machine;") ∈ wsX9_would := List.mem_of_getElem? (i := 2) (by decide +kernel)
theorem q_X9_would_3 : (Cond.fieldLink RX9 26 "FaultTwins" "view" "LFaultTwins$View;") ∈ wsX9_would := List.mem_of_getElem? (i := 3) (by decide +kernel)
theorem q_X9_would_4 : (Cond.fieldLink RX9 146 "FaultTwins$State" "watch" "LFaultTwins$Watch;") ∈ wsX9_would := List.mem_of_getElem? (i := 4) (by decide +kernel)
theorem q_X9_would_5 : (Cond.fieldLink RX9 150 "FaultTwins$Watch" "set" "I") ∈ wsX9_would := List.mem_of_getElem? (i := 5) (by decide +kernel)
set_option maxHeartbeats 4000000 in
set_option maxRecDepth 100000 in
theorem c_X9_would (l : Launch) (Γ : ft_G) (hI : cC_I Γ) (a1 : Int32) (σ : ft_St) (Φ : Int32 → ft_St → Prop) (hw : w_X9_would a1 σ Φ) : cC_Mi l yX9_would wsX9_would ({ frames := 2, cells := 0, slots := 0, locals := 41 } : Room) Γ σ [.ref (Γ.2.2 0), .int a1] Φ := by
  refine Met.ofW (cc := cX9_would) (maxL := 3) (ret := (some .int)) (by decide) rfl ?_
  intro p e s m args below meth c s₁ B hml hv
  obtain ⟨rfl, hP, hK, hN⟩ := hv
  have hx := B.exec
  have hb := B.bytes
  have hr := B.returns
  have hts := atoms_spec (ws := wsX9_would) B.pre
  have hown : s.vm.findClass RX9 = some m.cls := findClass_of_methodNamed B.named
  have hlocks := B.notSynchronized
  have i4 : ∀ w ∈ wsX40, w ∈ wsX9_would := fun w h => List.mem_cons_of_mem _ (List.mem_append_left _ (List.mem_append_left _ (List.mem_append_left _ (List.mem_append_right _ h))))
  have i8 : ∀ w ∈ wsX80, w ∈ wsX9_would := fun w h => List.mem_cons_of_mem _ (List.mem_append_left _ (List.mem_append_left _ (List.mem_append_right _ h)))
  have i9 : ∀ w ∈ wsX90, w ∈ wsX9_would := fun w h => List.mem_cons_of_mem _ (List.mem_append_left _ (List.mem_append_left _ (List.mem_append_left _ (List.mem_append_left _ (List.mem_append_right _ h)))))
  have hP : cC_P Γ s σ s.heap [] := ⟨hP, va_S.rf⟩
  have hl := lv_entry ([.ref (Γ.2.2 0), .int a1]) (n := 3) (Nat.le_of_ble_eq_true rfl)
  rw [lg_entry_eq]
  generalize (lg_sl ([.ref (Γ.2.2 0), .int a1]) ++ List.replicate (3 - (lg_sl ([.ref (Γ.2.2 0), .int a1])).length) Slot.unset).toArray = ls at hl ⊢
  have hl : lv_has ls 3 [(0, .ref (Γ.2.2 0)), (1, .int a1)] := hl
  unfold w_X9_would at hw
  refine lv_iload_n hx hb dX9_would_0 rfl (lv_at hl 1 rfl) ?_
  refine cC_Sip (rest := []) ⟨hx, hb, hml, hown, hts⟩ (c_X9_isDeed l Γ hI a1 σ _ hw) (va_cwS 1 hts gX9_would_X9_isDeed rfl rfl rfl (by decide +kernel) ⟨Nat.le_of_ble_eq_true rfl, Nat.le_of_ble_eq_true rfl⟩) hK hN hP rfl hl.1 rfl (Nat.le_of_ble_eq_true rfl) dX9_would_1 ⟨Nat.le_refl _, Nat.le_refl _⟩ (fun r1 H locs hw hP => ?_)
  refine lv_if_ne (tgt := 14) hx hb dX9_would_4 (by decide) (fun h => ?_) (fun h => ?_)
  · replace hw := hw.1 h
    refine lv_aload_n hx hb dX9_would_14 rfl (lv_at hl 0 rfl) ?_
    refine gC_9_0 hx hb hts i9 hown hK hP hC_0 (hts _ q_X9_would_1) dX9_would_15 ?_
    refine gC_4_0 hx hb hts i4 hown hK hP hC_1 (hts _ q_X9_would_2) dX9_would_18 ?_
    refine lv_iload_n hx hb dX9_would_21 rfl (lv_at hl 1 rfl) ?_
    refine cC_Vip (rest := []) ⟨hx, hb, hml, hown, hts⟩ (c_X1_isSeen l Γ hI 2 hC_2 a1 σ _ hw) (cwV 1 hts gX9_would_X1_isSeen rfl rfl rfl (by decide +kernel) ⟨Nat.le_of_ble_eq_true rfl, Nat.le_of_ble_eq_true rfl⟩) hK hN hP (cC_lt hC_2 (by decide)) (cC_E1 hC_2) rfl rfl rfl hl.1 rfl (Nat.le_of_ble_eq_true rfl) dX9_would_22 ⟨Nat.le_refl _, Nat.le_refl _⟩ (fun r2 H locs hw hP => ?_)
    refine lv_if_ne (tgt := 35) hx hb dX9_would_25 (by decide) (fun h => ?_) (fun h => ?_)
    · replace hw := hw.1 h
      refine lv_aload_n hx hb dX9_would_35 rfl (lv_at hl 0 rfl) ?_
      refine gC_9_2 hx hb hts i9 hown hK hP hC_0 (hts _ q_X9_would_3) dX9_would_36 ?_
      refine lv_aload_n hx hb dX9_would_39 rfl (lv_at hl 0 rfl) ?_
      refine gC_9_0 hx hb hts i9 hown hK hP hC_0 (hts _ q_X9_would_1) dX9_would_40 ?_
      refine gC_4_1 hx hb hts i4 hown hK hP hC_1 (hts _ q_X9_would_4) dX9_would_43 ?_
      refine gC_8_2 hx hb hts i8 hown hK hP hC_6 (hts _ q_X9_would_5) dX9_would_46 ?_
      refine lv_iload_n hx hb dX9_would_49 rfl (lv_at hl 1 rfl) ?_
      refine cC_Vip (rest := []) ⟨hx, hb, hml, hown, hts⟩ (c_X7_after l Γ hI 52 hC_52 (σ.1 6 2) a1 σ _ hw) (cwV 2 hts gX9_would_X7_after rfl rfl rfl (by decide +kernel) ⟨Nat.le_of_ble_eq_true rfl, Nat.le_of_ble_eq_true rfl⟩) hK hN hP (cC_lt hC_52 (by decide)) (cC_E7 hC_52) rfl rfl rfl hl.1 rfl (Nat.le_of_ble_eq_true rfl) dX9_would_50 ⟨Nat.le_refl _, Nat.le_refl _⟩ (fun r3 H locs hw hP => ?_)
      refine lv_istore_n (lv' := [(2, .int r3), (0, .ref (Γ.2.2 0)), (1, .int a1)]) hx hb dX9_would_53 rfl hl (by decide) rfl (fun ls hl => ?_)
      refine lv_iload_n hx hb dX9_would_54 rfl (lv_at hl 0 rfl) ?_
      refine lv_if_ne (tgt := 62) hx hb dX9_would_55 (by decide) (fun h => ?_) (fun h => ?_)
      · replace hw := hw.1 h
        refine lv_iload_n hx hb dX9_would_62 rfl (lv_at hl 0 rfl) ?_
        refine cC_Sip (rest := []) ⟨hx, hb, hml, hown, hts⟩ (c_X9_verdict l Γ hI r3 σ _ hw) (va_cwS 1 hts gX9_would_X9_verdict rfl rfl rfl (by decide +kernel) ⟨Nat.le_of_ble_eq_true rfl, Nat.le_of_ble_eq_true rfl⟩) hK hN hP rfl hl.1 rfl (Nat.le_of_ble_eq_true rfl) dX9_would_63 ⟨Nat.le_refl _, Nat.le_refl _⟩ (fun r4 H locs hw hP => ?_)
        exact W.iret hx hb hr (cC_ri hP hw) hP.2.2.2 dX9_would_66
      · replace hw := hw.2 h
        refine lv_iconst (v := (-1)) hx hb dX9_would_58 (by decide) ?_
        refine lv_goto (tgt := 66) hx hb dX9_would_59 (by decide) ?_
        exact W.iret hx hb hr (cC_ri hP hw) hP.2.2.2 dX9_would_66
    · replace hw := hw.2 h
      refine lv_aload_n hx hb dX9_would_28 rfl (lv_at hl 0 rfl) ?_
      refine lv_bipush (v := (-3)) hx hb dX9_would_29 (by decide) ?_
      refine cC_Vi (rest := []) ⟨hx, hb, hml, hown, hts⟩ (c_X9_refuse l Γ hI (-3) σ _ hw) (cwV 1 hts gX9_would_X9_refuse rfl rfl rfl (by decide +kernel) ⟨Nat.le_of_ble_eq_true rfl, Nat.le_of_ble_eq_true rfl⟩) hK hN hP (cC_lt hC_0 (by decide)) (cC_E9 hC_0) rfl rfl rfl hl.1 rfl (Nat.le_of_ble_eq_true rfl) dX9_would_31 ⟨Nat.le_refl _, Nat.le_refl _⟩ (fun r5 s6 H locs hw hP => ?_)
      exact W.iret hx hb hr (cC_ri hP hw) hP.2.2.2 dX9_would_34
  · replace hw := hw.2 h
    refine lv_aload_n hx hb dX9_would_7 rfl (lv_at hl 0 rfl) ?_
    refine lv_bipush (v := (-2)) hx hb dX9_would_8 (by decide) ?_
    refine cC_Vi (rest := []) ⟨hx, hb, hml, hown, hts⟩ (c_X9_refuse l Γ hI (-2) σ _ hw) (cwV 1 hts gX9_would_X9_refuse rfl rfl rfl (by decide +kernel) ⟨Nat.le_of_ble_eq_true rfl, Nat.le_of_ble_eq_true rfl⟩) hK hN hP (cC_lt hC_0 (by decide)) (cC_E9 hC_0) rfl rfl rfl hl.1 rfl (Nat.le_of_ble_eq_true rfl) dX9_would_10 ⟨Nat.le_refl _, Nat.le_refl _⟩ (fun r7 s8 H locs hw hP => ?_)
    exact W.iret hx hb hr (cC_ri hP hw) hP.2.2.2 dX9_would_13
theorem q_X9_sight_1 : (Cond.fieldLink RX9 12 "FaultTwins" "now" "LFaultTwins$State;") ∈ wsX9_sight := List.mem_of_getElem? (i := 1) (by decide +kernel)
theorem q_X9_sight_2 : (Cond.fieldLink RX9 146 "FaultTwins$State" "watch" "LFaultTwins$Watch;") ∈ wsX9_sight := List.mem_of_getElem? (i := 2) (by decide +kernel)
theorem q_X9_sight_3 : (Cond.fieldLink RX9 182 "FaultTwins$Watch" "count" "I") ∈ wsX9_sight := List.mem_of_getElem? (i := 3) (by decide +kernel)
theorem q_X9_sight_4 : (Cond.fieldLink RX9 185 "FaultTwins$Watch" "sights" "[I") ∈ wsX9_sight := List.mem_of_getElem? (i := 4) (by decide +kernel)
set_option maxHeartbeats 4000000 in
set_option maxRecDepth 100000 in
theorem c_X9_sight (l : Launch) (Γ : ft_G) (hI : cC_I Γ) (a1 : Int32) (σ : ft_St) (Φ : Int32 → ft_St → Prop) (hw : w_X9_sight a1 σ Φ) : cC_Mi l yX9_sight wsX9_sight ({ frames := 1, cells := 0, slots := 0, locals := 21 } : Room) Γ σ [.ref (Γ.2.2 0), .int a1] Φ := by
  refine Met.ofW (cc := cX9_sight) (maxL := 2) (ret := (some .int)) (by decide) rfl ?_
  intro p e s m args below meth c s₁ B hml hv
  obtain ⟨rfl, hP, hK, hN⟩ := hv
  have hx := B.exec
  have hb := B.bytes
  have hr := B.returns
  have hts := atoms_spec (ws := wsX9_sight) B.pre
  have hown : s.vm.findClass RX9 = some m.cls := findClass_of_methodNamed B.named
  have hlocks := B.notSynchronized
  have i4 : ∀ w ∈ wsX40, w ∈ wsX9_sight := fun w h => List.mem_cons_of_mem _ (List.mem_append_left _ (List.mem_append_right _ h))
  have i8 : ∀ w ∈ wsX80, w ∈ wsX9_sight := fun w h => List.mem_cons_of_mem _ (List.mem_append_right _ h)
  have i9 : ∀ w ∈ wsX90, w ∈ wsX9_sight := fun w h => List.mem_cons_of_mem _ (List.mem_append_left _ (List.mem_append_left _ (List.mem_append_right _ h)))
  have hP : cC_P Γ s σ s.heap [] := ⟨hP, va_S.rf⟩
  have hl := lv_entry ([.ref (Γ.2.2 0), .int a1]) (n := 2) (Nat.le_of_ble_eq_true rfl)
  rw [lg_entry_eq]
  generalize (lg_sl ([.ref (Γ.2.2 0), .int a1]) ++ List.replicate (2 - (lg_sl ([.ref (Γ.2.2 0), .int a1])).length) Slot.unset).toArray = ls at hl ⊢
  have hl : lv_has ls 2 [(0, .ref (Γ.2.2 0)), (1, .int a1)] := hl
  unfold w_X9_sight at hw
  refine lv_iload_n hx hb dX9_sight_0 rfl (lv_at hl 1 rfl) ?_
  refine lv_if_ge (tgt := 11) hx hb dX9_sight_1 (by decide) (fun h => ?_) (fun h => ?_)
  · replace hw := hw.1 h
    refine lv_iload_n hx hb dX9_sight_11 rfl (lv_at hl 1 rfl) ?_
    refine lv_aload_n hx hb dX9_sight_12 rfl (lv_at hl 0 rfl) ?_
    refine gC_9_0 hx hb hts i9 hown hK hP hC_0 (hts _ q_X9_sight_1) dX9_sight_13 ?_
    refine gC_4_1 hx hb hts i4 hown hK hP hC_1 (hts _ q_X9_sight_2) dX9_sight_16 ?_
    refine gC_8_1 hx hb hts i8 hown hK hP hC_6 (hts _ q_X9_sight_3) dX9_sight_19 ?_
    refine lv_icmp_ge (tgt := 40) hx hb dX9_sight_22 (by decide) (fun h => ?_) (fun h => ?_)
    · replace hw := hw.1 h
      refine lv_iconst (v := (-1)) hx hb dX9_sight_40 (by decide) ?_
      exact W.iret hx hb hr (cC_ri hP hw) hP.2.2.2 dX9_sight_41
    · replace hw := hw.2 h
      refine lv_aload_n hx hb dX9_sight_25 rfl (lv_at hl 0 rfl) ?_
      refine gC_9_0 hx hb hts i9 hown hK hP hC_0 (hts _ q_X9_sight_1) dX9_sight_26 ?_
      refine gC_4_1 hx hb hts i4 hown hK hP hC_1 (hts _ q_X9_sight_2) dX9_sight_29 ?_
      refine gC_8_0 hx hb hts i8 hown hK hP hC_6 (hts _ q_X9_sight_4) dX9_sight_32 ?_
      refine lv_iload_n hx hb dX9_sight_35 rfl (lv_at hl 1 rfl) ?_
      refine aC_ld hx hb hK hP hC_7 mC_7 hw.1 dX9_sight_36 ?_
      replace hw := hw.2
      refine lv_goto (tgt := 41) hx hb dX9_sight_37 (by decide) ?_
      exact W.iret hx hb hr (cC_ri hP hw) hP.2.2.2 dX9_sight_41
  · replace hw := hw.2 h
    refine lv_aload_n hx hb dX9_sight_4 rfl (lv_at hl 0 rfl) ?_
    refine lv_bipush (v := (-2)) hx hb dX9_sight_5 (by decide) ?_
    refine cC_Vi (rest := []) ⟨hx, hb, hml, hown, hts⟩ (c_X9_refuse l Γ hI (-2) σ _ hw) (cwV 1 hts gX9_sight_X9_refuse rfl rfl rfl (by decide +kernel) ⟨Nat.le_of_ble_eq_true rfl, Nat.le_of_ble_eq_true rfl⟩) hK hN hP (cC_lt hC_0 (by decide)) (cC_E9 hC_0) rfl rfl rfl hl.1 rfl (Nat.le_of_ble_eq_true rfl) dX9_sight_7 ⟨Nat.le_refl _, Nat.le_refl _⟩ (fun r1 s2 H locs hw hP => ?_)
    exact W.iret hx hb hr (cC_ri hP hw) hP.2.2.2 dX9_sight_10
theorem q_X9_foundSets_1 : (Cond.fieldLink RX9 288 "FaultTwins" "setsHold" "Z") ∈ wsX9_foundSets := List.mem_of_getElem? (i := 1) (by decide +kernel)
theorem q_X9_foundSets_2 : (Cond.fieldLink RX9 33 "FaultTwins" "sets" "LFaultTwins$Sets;") ∈ wsX9_foundSets := List.mem_of_getElem? (i := 2) (by decide +kernel)
theorem q_X9_foundSets_3 : (Cond.fieldLink RX9 26 "FaultTwins" "view" "LFaultTwins$View;") ∈ wsX9_foundSets := List.mem_of_getElem? (i := 3) (by decide +kernel)
set_option maxHeartbeats 4000000 in
set_option maxRecDepth 100000 in
theorem c_X9_foundSets (l : Launch) (Γ : ft_G) (hI : cC_I Γ)  (σ : ft_St) (Φ : ft_St → Prop) (hw : w_X9_foundSets  σ Φ) : cC_Mr l yX9_foundSets wsX9_foundSets ({ frames := 2, cells := 0, slots := 0, locals := 49 } : Room) Γ σ [.ref (Γ.2.2 0)] 55 Φ := by
  refine Met.ofW (cc := cX9_foundSets) (maxL := 1) (ret := (some (.object "FaultTwins$Sets"))) (by decide) rfl ?_
  intro p e s m args below meth c s₁ B hml hv
  obtain ⟨rfl, hP, hK, hN⟩ := hv
  have hx := B.exec
  have hb := B.bytes
  have hr := B.returns
  have hts := atoms_spec (ws := wsX9_foundSets) B.pre
  have hown : s.vm.findClass RX9 = some m.cls := findClass_of_methodNamed B.named
  have hlocks := B.notSynchronized
  have i9 : ∀ w ∈ wsX90, w ∈ wsX9_foundSets := fun w h => List.mem_cons_of_mem _ (List.mem_append_left _ (List.mem_append_left _ (List.mem_append_right _ h)))
  have hP : cC_P Γ s σ s.heap [] := ⟨hP, va_S.rf⟩
  have hl := lv_entry ([.ref (Γ.2.2 0)]) (n := 1) (Nat.le_of_ble_eq_true rfl)
  rw [lg_entry_eq]
  generalize (lg_sl ([.ref (Γ.2.2 0)]) ++ List.replicate (1 - (lg_sl ([.ref (Γ.2.2 0)])).length) Slot.unset).toArray = ls at hl ⊢
  have hl : lv_has ls 1 [(0, .ref (Γ.2.2 0))] := hl
  unfold w_X9_foundSets at hw
  refine lv_aload_n hx hb dX9_foundSets_0 rfl (lv_at hl 0 rfl) ?_
  refine gC_9_12 hx hb hts i9 hown hK hP hC_0 (hts _ q_X9_foundSets_1) dX9_foundSets_1 ?_
  refine ft_cut (hw (fun (s1 : ft_St) => ∀ (H : Heap) (locs : List Loc) (ls : Array Slot), cC_P Γ s s1 H locs → lv_has ls 1 [(0, .ref (Γ.2.2 0))] → cC_Wr p l e ({ frames := 2, cells := 0, slots := 0, locals := 49 } : Room) s m [.ref (Γ.2.2 0)] below meth c Γ 55 Φ H locs 23 ls []) (fun s1 hw H locs ls hP hl => ?_)) (fun hw => ?_)
  · refine lv_aload_n hx hb dX9_foundSets_23 rfl (lv_at hl 0 rfl) ?_
    refine gC_9_3 hx hb hts i9 hown hK hP hC_0 (hts _ q_X9_foundSets_2) dX9_foundSets_24 ?_
    exact W.aret hx hb hr (Or.inl ⟨_, rfl⟩) (Or.inr ⟨_, rfl⟩) (cC_rr hP hw) hP.2.2.2 dX9_foundSets_27
  · refine lv_if_ne (tgt := 23) hx hb dX9_foundSets_4 (by decide) (fun h => ?_) (fun h => ?_)
    · replace hw := hw.1 h
      exact hw _ _ _ hP (lv_sub hl [0] rfl)
    · replace hw := hw.2 h
      refine lv_aload_n hx hb dX9_foundSets_7 rfl (lv_at hl 0 rfl) ?_
      refine gC_9_3 hx hb hts i9 hown hK hP hC_0 (hts _ q_X9_foundSets_2) dX9_foundSets_8 ?_
      refine lv_aload_n hx hb dX9_foundSets_11 rfl (lv_at hl 0 rfl) ?_
      refine gC_9_2 hx hb hts i9 hown hK hP hC_0 (hts _ q_X9_foundSets_3) dX9_foundSets_12 ?_
      refine cC_Vv (rest := []) ⟨hx, hb, hml, hown, hts⟩ (c_X3_find l Γ hI 55 hC_55 52 hC_52 σ _ hw) (cwV 1 hts gX9_foundSets_X3_find rfl rfl rfl (by decide +kernel) ⟨Nat.le_of_ble_eq_true rfl, Nat.le_of_ble_eq_true rfl⟩) hK hN hP (cC_lt hC_55 (by decide)) (cC_E3 hC_55) rfl rfl rfl hl.1 rfl (Nat.le_of_ble_eq_true rfl) dX9_foundSets_15 ⟨Nat.le_refl _, Nat.le_refl _⟩ (fun s3 H locs hw hP => ?_)
      refine lv_aload_n hx hb dX9_foundSets_18 rfl (lv_at hl 0 rfl) ?_
      refine lv_iconst (v := 1) hx hb dX9_foundSets_19 (by decide) ?_
      refine pC_9_12 hx hb hts i9 hown hK hI hP hC_0 (hts _ q_X9_foundSets_1) (Or.inr rfl) dX9_foundSets_20 (fun H locs hP => ?_)
      obtain ⟨s4, hs4⟩ : ∃ u, u = ft_sF s3 0 12 1 := ⟨_, rfl⟩
      rw [← hs4] at hP
      replace hw := hw s4 hs4
      exact hw _ _ _ hP (lv_sub hl [0] rfl)
theorem q_X9_foundTwins_1 : (Cond.fieldLink RX9 291 "FaultTwins" "twinsHold" "Z") ∈ wsX9_foundTwins := List.mem_of_getElem? (i := 1) (by decide +kernel)
theorem q_X9_foundTwins_2 : (Cond.fieldLink RX9 40 "FaultTwins" "twins" "LFaultTwins$Twins;") ∈ wsX9_foundTwins := List.mem_of_getElem? (i := 2) (by decide +kernel)
theorem q_X9_foundTwins_3 : (Cond.fieldLink RX9 12 "FaultTwins" "now" "LFaultTwins$State;") ∈ wsX9_foundTwins := List.mem_of_getElem? (i := 3) (by decide +kernel)
theorem q_X9_foundTwins_4 : (Cond.fieldLink RX9 75 "FaultTwins$State" "machine" "LFaultTwins$Machine;") ∈ wsX9_foundTwins := List.mem_of_getElem? (i := 4) (by decide +kernel)
theorem q_X9_foundTwins_5 : (Cond.fieldLink RX9 112 "FaultTwins$Machine" "seen" "I") ∈ wsX9_foundTwins := List.mem_of_getElem? (i := 5) (by decide +kernel)
set_option maxHeartbeats 4000000 in
set_option maxRecDepth 100000 in
theorem c_X9_foundTwins (l : Launch) (Γ : ft_G) (hI : cC_I Γ)  (σ : ft_St) (Φ : ft_St → Prop) (hw : w_X9_foundTwins  σ Φ) : cC_Mr l yX9_foundTwins wsX9_foundTwins ({ frames := 4, cells := 0, slots := 0, locals := 106 } : Room) Γ σ [.ref (Γ.2.2 0)] 59 Φ := by
  refine Met.ofW (cc := cX9_foundTwins) (maxL := 1) (ret := (some (.object "FaultTwins$Twins"))) (by decide) rfl ?_
  intro p e s m args below meth c s₁ B hml hv
  obtain ⟨rfl, hP, hK, hN⟩ := hv
  have hx := B.exec
  have hb := B.bytes
  have hr := B.returns
  have hts := atoms_spec (ws := wsX9_foundTwins) B.pre
  have hown : s.vm.findClass RX9 = some m.cls := findClass_of_methodNamed B.named
  have hlocks := B.notSynchronized
  have i1 : ∀ w ∈ wsX10, w ∈ wsX9_foundTwins := fun w h => List.mem_cons_of_mem _ (List.mem_append_left _ (List.mem_append_right _ h))
  have i4 : ∀ w ∈ wsX40, w ∈ wsX9_foundTwins := fun w h => List.mem_cons_of_mem _ (List.mem_append_left _ (List.mem_append_left _ (List.mem_append_right _ h)))
  have i9 : ∀ w ∈ wsX90, w ∈ wsX9_foundTwins := fun w h => List.mem_cons_of_mem _ (List.mem_append_left _ (List.mem_append_left _ (List.mem_append_left _ (List.mem_append_right _ h))))
  have hP : cC_P Γ s σ s.heap [] := ⟨hP, va_S.rf⟩
  have hl := lv_entry ([.ref (Γ.2.2 0)]) (n := 1) (Nat.le_of_ble_eq_true rfl)
  rw [lg_entry_eq]
  generalize (lg_sl ([.ref (Γ.2.2 0)]) ++ List.replicate (1 - (lg_sl ([.ref (Γ.2.2 0)])).length) Slot.unset).toArray = ls at hl ⊢
  have hl : lv_has ls 1 [(0, .ref (Γ.2.2 0))] := hl
  unfold w_X9_foundTwins at hw
  refine lv_aload_n hx hb dX9_foundTwins_0 rfl (lv_at hl 0 rfl) ?_
  refine gC_9_13 hx hb hts i9 hown hK hP hC_0 (hts _ q_X9_foundTwins_1) dX9_foundTwins_1 ?_
  refine ft_cut (hw (fun (s1 : ft_St) => ∀ (H : Heap) (locs : List Loc) (ls : Array Slot), cC_P Γ s s1 H locs → lv_has ls 1 [(0, .ref (Γ.2.2 0))] → cC_Wr p l e ({ frames := 4, cells := 0, slots := 0, locals := 106 } : Room) s m [.ref (Γ.2.2 0)] below meth c Γ 59 Φ H locs 36 ls []) (fun s1 hw H locs ls hP hl => ?_)) (fun hw => ?_)
  · refine lv_aload_n hx hb dX9_foundTwins_36 rfl (lv_at hl 0 rfl) ?_
    refine gC_9_4 hx hb hts i9 hown hK hP hC_0 (hts _ q_X9_foundTwins_2) dX9_foundTwins_37 ?_
    exact W.aret hx hb hr (Or.inl ⟨_, rfl⟩) (Or.inr ⟨_, rfl⟩) (cC_rr hP hw) hP.2.2.2 dX9_foundTwins_40
  · refine lv_if_ne (tgt := 36) hx hb dX9_foundTwins_4 (by decide) (fun h => ?_) (fun h => ?_)
    · replace hw := hw.1 h
      exact hw _ _ _ hP (lv_sub hl [0] rfl)
    · replace hw := hw.2 h
      refine lv_aload_n hx hb dX9_foundTwins_7 rfl (lv_at hl 0 rfl) ?_
      refine gC_9_4 hx hb hts i9 hown hK hP hC_0 (hts _ q_X9_foundTwins_2) dX9_foundTwins_8 ?_
      refine lv_aload_n hx hb dX9_foundTwins_11 rfl (lv_at hl 0 rfl) ?_
      refine gC_9_0 hx hb hts i9 hown hK hP hC_0 (hts _ q_X9_foundTwins_3) dX9_foundTwins_12 ?_
      refine gC_4_0 hx hb hts i4 hown hK hP hC_1 (hts _ q_X9_foundTwins_4) dX9_foundTwins_15 ?_
      refine lv_aload_n hx hb dX9_foundTwins_18 rfl (lv_at hl 0 rfl) ?_
      refine gC_9_0 hx hb hts i9 hown hK hP hC_0 (hts _ q_X9_foundTwins_3) dX9_foundTwins_19 ?_
      refine gC_4_0 hx hb hts i4 hown hK hP hC_1 (hts _ q_X9_foundTwins_4) dX9_foundTwins_22 ?_
      refine gC_1_4 hx hb hts i1 hown hK hP hC_2 (hts _ q_X9_foundTwins_5) dX9_foundTwins_25 ?_
      refine cC_Vv (rest := []) ⟨hx, hb, hml, hown, hts⟩ (c_X6_find l Γ hI 59 hC_59 (σ.1 2 4) σ _ hw) (cwV 2 hts gX9_foundTwins_X6_find rfl rfl rfl (by decide +kernel) ⟨Nat.le_of_ble_eq_true rfl, Nat.le_of_ble_eq_true rfl⟩) hK hN hP (cC_lt hC_59 (by decide)) (cC_E6 hC_59) rfl rfl rfl hl.1 rfl (Nat.le_of_ble_eq_true rfl) dX9_foundTwins_28 ⟨Nat.le_refl _, Nat.le_refl _⟩ (fun s3 H locs hw hP => ?_)
      refine lv_aload_n hx hb dX9_foundTwins_31 rfl (lv_at hl 0 rfl) ?_
      refine lv_iconst (v := 1) hx hb dX9_foundTwins_32 (by decide) ?_
      refine pC_9_13 hx hb hts i9 hown hK hI hP hC_0 (hts _ q_X9_foundTwins_1) (Or.inr rfl) dX9_foundTwins_33 (fun H locs hP => ?_)
      obtain ⟨s4, hs4⟩ : ∃ u, u = ft_sF s3 0 13 1 := ⟨_, rfl⟩
      rw [← hs4] at hP
      replace hw := hw s4 hs4
      exact hw _ _ _ hP (lv_sub hl [0] rfl)
theorem q_X9_all_1 : (Cond.fieldLink RX9 26 "FaultTwins" "view" "LFaultTwins$View;") ∈ wsX9_all := List.mem_of_getElem? (i := 1) (by decide +kernel)
theorem q_X9_all_2 : (Cond.fieldLink RX9 133 "FaultTwins$View" "marks" "I") ∈ wsX9_all := List.mem_of_getElem? (i := 2) (by decide +kernel)
theorem q_X9_all_3 : (Cond.fieldLink RX9 192 "FaultTwins$Sets" "count" "I") ∈ wsX9_all := List.mem_of_getElem? (i := 3) (by decide +kernel)
set_option maxHeartbeats 4000000 in
set_option maxRecDepth 100000 in
theorem c_X9_all (l : Launch) (Γ : ft_G) (hI : cC_I Γ) (a1 : Int32) (σ : ft_St) (Φ : Int32 → ft_St → Prop) (hw : w_X9_all a1 σ Φ) : cC_Mi l yX9_all wsX9_all ({ frames := 5, cells := 0, slots := 0, locals := 126 } : Room) Γ σ [.ref (Γ.2.2 0), .int a1] Φ := by
  refine Met.ofW (cc := cX9_all) (maxL := 2) (ret := (some .int)) (by decide) rfl ?_
  intro p e s m args below meth c s₁ B hml hv
  obtain ⟨rfl, hP, hK, hN⟩ := hv
  have hx := B.exec
  have hb := B.bytes
  have hr := B.returns
  have hts := atoms_spec (ws := wsX9_all) B.pre
  have hown : s.vm.findClass RX9 = some m.cls := findClass_of_methodNamed B.named
  have hlocks := B.notSynchronized
  have i3 : ∀ w ∈ wsX30, w ∈ wsX9_all := fun w h => List.mem_cons_of_mem _ (List.mem_append_left _ (List.mem_append_left _ (List.mem_append_left _ (List.mem_append_right _ h))))
  have i7 : ∀ w ∈ wsX70, w ∈ wsX9_all := fun w h => List.mem_cons_of_mem _ (List.mem_append_left _ (List.mem_append_left _ (List.mem_append_left _ (List.mem_append_left _ (List.mem_append_right _ h)))))
  have i9 : ∀ w ∈ wsX90, w ∈ wsX9_all := fun w h => List.mem_cons_of_mem _ (List.mem_append_left _ (List.mem_append_left _ (List.mem_append_left _ (List.mem_append_left _ (List.mem_append_left _ (List.mem_append_right _ h))))))
  have hP : cC_P Γ s σ s.heap [] := ⟨hP, va_S.rf⟩
  have hl := lv_entry ([.ref (Γ.2.2 0), .int a1]) (n := 2) (Nat.le_of_ble_eq_true rfl)
  rw [lg_entry_eq]
  generalize (lg_sl ([.ref (Γ.2.2 0), .int a1]) ++ List.replicate (2 - (lg_sl ([.ref (Γ.2.2 0), .int a1])).length) Slot.unset).toArray = ls at hl ⊢
  have hl : lv_has ls 2 [(0, .ref (Γ.2.2 0)), (1, .int a1)] := hl
  unfold w_X9_all at hw
  refine lv_iload_n hx hb dX9_all_0 rfl (lv_at hl 1 rfl) ?_
  refine lv_iconst (v := 5) hx hb dX9_all_1 (by decide) ?_
  refine cC_Sip (rest := []) ⟨hx, hb, hml, hown, hts⟩ (c_X9_isWithin l Γ hI a1 5 σ _ hw) (va_cwS 2 hts gX9_all_X9_isWithin rfl rfl rfl (by decide +kernel) ⟨Nat.le_of_ble_eq_true rfl, Nat.le_of_ble_eq_true rfl⟩) hK hN hP rfl hl.1 rfl (Nat.le_of_ble_eq_true rfl) dX9_all_2 ⟨Nat.le_refl _, Nat.le_refl _⟩ (fun r1 H locs hw hP => ?_)
  refine lv_if_ne (tgt := 15) hx hb dX9_all_5 (by decide) (fun h => ?_) (fun h => ?_)
  · replace hw := hw.1 h
    refine lv_iload_n hx hb dX9_all_15 rfl (lv_at hl 1 rfl) ?_
    rcases ft_tab5 a1 with h | h | h | h | h | h
    · replace hw := hw.2.2.2.2.2 h
      refine lv_tableOut (tgt := 95) hx hb dX9_all_16 h (by decide) ?_
      refine lv_aload_n hx hb dX9_all_95 rfl (lv_at hl 0 rfl) ?_
      refine cC_Vr (rest := []) ⟨hx, hb, hml, hown, hts⟩ (c_X9_foundTwins l Γ hI  σ _ hw) (cwV 0 hts gX9_all_X9_foundTwins rfl rfl rfl (by decide +kernel) ⟨Nat.le_of_ble_eq_true rfl, Nat.le_of_ble_eq_true rfl⟩) hK hN hP (cC_lt hC_0 (by decide)) (cC_E9 hC_0) rfl rfl rfl hl.1 rfl (Nat.le_of_ble_eq_true rfl) dX9_all_96 ⟨Nat.le_refl _, Nat.le_refl _⟩ (fun s2 H locs hw hP => ?_)
      refine lv_bipush (v := 10) hx hb dX9_all_99 (by decide) ?_
      refine cC_Vip (rest := []) ⟨hx, hb, hml, hown, hts⟩ (c_X6_countFrom l Γ hI 59 hC_59 10 s2 _ hw) (cwV 1 hts gX9_all_X6_countFrom rfl rfl rfl (by decide +kernel) ⟨Nat.le_of_ble_eq_true rfl, Nat.le_of_ble_eq_true rfl⟩) hK hN hP (cC_lt hC_59 (by decide)) (cC_E6 hC_59) rfl rfl rfl hl.1 rfl (Nat.le_of_ble_eq_true rfl) dX9_all_101 ⟨Nat.le_refl _, Nat.le_refl _⟩ (fun r3 H locs hw hP => ?_)
      exact W.iret hx hb hr (cC_ri hP hw) hP.2.2.2 dX9_all_104
    · replace hw := hw.1 h
      refine lv_tableIn (off := 36) (tgt := 52) hx hb dX9_all_16 (by rw [h]; decide) (by rw [h]; decide) (by rw [h]; rfl) (by decide) ?_
      refine lv_aload_n hx hb dX9_all_52 rfl (lv_at hl 0 rfl) ?_
      refine gC_9_2 hx hb hts i9 hown hK hP hC_0 (hts _ q_X9_all_1) dX9_all_53 ?_
      refine gC_7_2 hx hb hts i7 hown hK hP hC_52 (hts _ q_X9_all_2) dX9_all_56 ?_
      exact W.iret hx hb hr (cC_ri hP hw) hP.2.2.2 dX9_all_59
    · replace hw := hw.2.1 h
      refine lv_tableIn (off := 44) (tgt := 60) hx hb dX9_all_16 (by rw [h]; decide) (by rw [h]; decide) (by rw [h]; rfl) (by decide) ?_
      refine lv_aload_n hx hb dX9_all_60 rfl (lv_at hl 0 rfl) ?_
      refine cC_Vr (rest := []) ⟨hx, hb, hml, hown, hts⟩ (c_X9_foundSets l Γ hI  σ _ hw) (cwV 0 hts gX9_all_X9_foundSets rfl rfl rfl (by decide +kernel) ⟨Nat.le_of_ble_eq_true rfl, Nat.le_of_ble_eq_true rfl⟩) hK hN hP (cC_lt hC_0 (by decide)) (cC_E9 hC_0) rfl rfl rfl hl.1 rfl (Nat.le_of_ble_eq_true rfl) dX9_all_61 ⟨Nat.le_refl _, Nat.le_refl _⟩ (fun s4 H locs hw hP => ?_)
      refine gC_3_3 hx hb hts i3 hown hK hP hC_55 (hts _ q_X9_all_3) dX9_all_64 ?_
      exact W.iret hx hb hr (cC_ri hP hw) hP.2.2.2 dX9_all_67
    · replace hw := hw.2.2.1 h
      refine lv_tableIn (off := 52) (tgt := 68) hx hb dX9_all_16 (by rw [h]; decide) (by rw [h]; decide) (by rw [h]; rfl) (by decide) ?_
      refine lv_aload_n hx hb dX9_all_68 rfl (lv_at hl 0 rfl) ?_
      refine cC_Vr (rest := []) ⟨hx, hb, hml, hown, hts⟩ (c_X9_foundSets l Γ hI  σ _ hw) (cwV 0 hts gX9_all_X9_foundSets rfl rfl rfl (by decide +kernel) ⟨Nat.le_of_ble_eq_true rfl, Nat.le_of_ble_eq_true rfl⟩) hK hN hP (cC_lt hC_0 (by decide)) (cC_E9 hC_0) rfl rfl rfl hl.1 rfl (Nat.le_of_ble_eq_true rfl) dX9_all_69 ⟨Nat.le_refl _, Nat.le_refl _⟩ (fun s5 H locs hw hP => ?_)
      refine lv_iconst (v := 2) hx hb dX9_all_72 (by decide) ?_
      refine cC_Vip (rest := []) ⟨hx, hb, hml, hown, hts⟩ (c_X3_countOf l Γ hI 55 hC_55 2 s5 _ hw) (cwV 1 hts gX9_all_X3_countOf rfl rfl rfl (by decide +kernel) ⟨Nat.le_of_ble_eq_true rfl, Nat.le_of_ble_eq_true rfl⟩) hK hN hP (cC_lt hC_55 (by decide)) (cC_E3 hC_55) rfl rfl rfl hl.1 rfl (Nat.le_of_ble_eq_true rfl) dX9_all_73 ⟨Nat.le_refl _, Nat.le_refl _⟩ (fun r6 H locs hw hP => ?_)
      exact W.iret hx hb hr (cC_ri hP hw) hP.2.2.2 dX9_all_76
    · replace hw := hw.2.2.2.1 h
      refine lv_tableIn (off := 61) (tgt := 77) hx hb dX9_all_16 (by rw [h]; decide) (by rw [h]; decide) (by rw [h]; rfl) (by decide) ?_
      refine lv_aload_n hx hb dX9_all_77 rfl (lv_at hl 0 rfl) ?_
      refine cC_Vr (rest := []) ⟨hx, hb, hml, hown, hts⟩ (c_X9_foundSets l Γ hI  σ _ hw) (cwV 0 hts gX9_all_X9_foundSets rfl rfl rfl (by decide +kernel) ⟨Nat.le_of_ble_eq_true rfl, Nat.le_of_ble_eq_true rfl⟩) hK hN hP (cC_lt hC_0 (by decide)) (cC_E9 hC_0) rfl rfl rfl hl.1 rfl (Nat.le_of_ble_eq_true rfl) dX9_all_78 ⟨Nat.le_refl _, Nat.le_refl _⟩ (fun s7 H locs hw hP => ?_)
      refine lv_iconst (v := 1) hx hb dX9_all_81 (by decide) ?_
      refine cC_Vip (rest := []) ⟨hx, hb, hml, hown, hts⟩ (c_X3_countOf l Γ hI 55 hC_55 1 s7 _ hw) (cwV 1 hts gX9_all_X3_countOf rfl rfl rfl (by decide +kernel) ⟨Nat.le_of_ble_eq_true rfl, Nat.le_of_ble_eq_true rfl⟩) hK hN hP (cC_lt hC_55 (by decide)) (cC_E3 hC_55) rfl rfl rfl hl.1 rfl (Nat.le_of_ble_eq_true rfl) dX9_all_82 ⟨Nat.le_refl _, Nat.le_refl _⟩ (fun r8 H locs hw hP => ?_)
      exact W.iret hx hb hr (cC_ri hP hw) hP.2.2.2 dX9_all_85
    · replace hw := hw.2.2.2.2.1 h
      refine lv_tableIn (off := 70) (tgt := 86) hx hb dX9_all_16 (by rw [h]; decide) (by rw [h]; decide) (by rw [h]; rfl) (by decide) ?_
      refine lv_aload_n hx hb dX9_all_86 rfl (lv_at hl 0 rfl) ?_
      refine cC_Vr (rest := []) ⟨hx, hb, hml, hown, hts⟩ (c_X9_foundTwins l Γ hI  σ _ hw) (cwV 0 hts gX9_all_X9_foundTwins rfl rfl rfl (by decide +kernel) ⟨Nat.le_of_ble_eq_true rfl, Nat.le_of_ble_eq_true rfl⟩) hK hN hP (cC_lt hC_0 (by decide)) (cC_E9 hC_0) rfl rfl rfl hl.1 rfl (Nat.le_of_ble_eq_true rfl) dX9_all_87 ⟨Nat.le_refl _, Nat.le_refl _⟩ (fun s9 H locs hw hP => ?_)
      refine lv_iconst (v := 0) hx hb dX9_all_90 (by decide) ?_
      refine cC_Vip (rest := []) ⟨hx, hb, hml, hown, hts⟩ (c_X6_countFrom l Γ hI 59 hC_59 0 s9 _ hw) (cwV 1 hts gX9_all_X6_countFrom rfl rfl rfl (by decide +kernel) ⟨Nat.le_of_ble_eq_true rfl, Nat.le_of_ble_eq_true rfl⟩) hK hN hP (cC_lt hC_59 (by decide)) (cC_E6 hC_59) rfl rfl rfl hl.1 rfl (Nat.le_of_ble_eq_true rfl) dX9_all_91 ⟨Nat.le_refl _, Nat.le_refl _⟩ (fun r10 H locs hw hP => ?_)
      exact W.iret hx hb hr (cC_ri hP hw) hP.2.2.2 dX9_all_94
  · replace hw := hw.2 h
    refine lv_aload_n hx hb dX9_all_8 rfl (lv_at hl 0 rfl) ?_
    refine lv_bipush (v := (-2)) hx hb dX9_all_9 (by decide) ?_
    refine cC_Vi (rest := []) ⟨hx, hb, hml, hown, hts⟩ (c_X9_refuse l Γ hI (-2) σ _ hw) (cwV 1 hts gX9_all_X9_refuse rfl rfl rfl (by decide +kernel) ⟨Nat.le_of_ble_eq_true rfl, Nat.le_of_ble_eq_true rfl⟩) hK hN hP (cC_lt hC_0 (by decide)) (cC_E9 hC_0) rfl rfl rfl hl.1 rfl (Nat.le_of_ble_eq_true rfl) dX9_all_11 ⟨Nat.le_refl _, Nat.le_refl _⟩ (fun r11 s12 H locs hw hP => ?_)
    exact W.iret hx hb hr (cC_ri hP hw) hP.2.2.2 dX9_all_14
theorem q_X9_apart_1 : (Cond.fieldLink RX9 203 "FaultTwins$Twins" "delay" "I") ∈ wsX9_apart := List.mem_of_getElem? (i := 1) (by decide +kernel)
set_option maxHeartbeats 4000000 in
set_option maxRecDepth 100000 in
theorem c_X9_apart (l : Launch) (Γ : ft_G) (hI : cC_I Γ) (a1 : Int32) (σ : ft_St) (Φ : Int32 → ft_St → Prop) (hw : w_X9_apart a1 σ Φ) : cC_Mi l yX9_apart wsX9_apart ({ frames := 5, cells := 0, slots := 0, locals := 126 } : Room) Γ σ [.ref (Γ.2.2 0), .int a1] Φ := by
  refine Met.ofW (cc := cX9_apart) (maxL := 3) (ret := (some .int)) (by decide) rfl ?_
  intro p e s m args below meth c s₁ B hml hv
  obtain ⟨rfl, hP, hK, hN⟩ := hv
  have hx := B.exec
  have hb := B.bytes
  have hr := B.returns
  have hts := atoms_spec (ws := wsX9_apart) B.pre
  have hown : s.vm.findClass RX9 = some m.cls := findClass_of_methodNamed B.named
  have hlocks := B.notSynchronized
  have i6 : ∀ w ∈ wsX60, w ∈ wsX9_apart := fun w h => List.mem_cons_of_mem _ (List.mem_append_left _ (List.mem_append_left _ (List.mem_append_left _ (List.mem_append_right _ h))))
  have hP : cC_P Γ s σ s.heap [] := ⟨hP, va_S.rf⟩
  have hl := lv_entry ([.ref (Γ.2.2 0), .int a1]) (n := 3) (Nat.le_of_ble_eq_true rfl)
  rw [lg_entry_eq]
  generalize (lg_sl ([.ref (Γ.2.2 0), .int a1]) ++ List.replicate (3 - (lg_sl ([.ref (Γ.2.2 0), .int a1])).length) Slot.unset).toArray = ls at hl ⊢
  have hl : lv_has ls 3 [(0, .ref (Γ.2.2 0)), (1, .int a1)] := hl
  unfold w_X9_apart at hw
  refine lv_iload_n hx hb dX9_apart_0 rfl (lv_at hl 1 rfl) ?_
  refine lv_iconst (v := 1) hx hb dX9_apart_1 (by decide) ?_
  refine cC_Sip (rest := []) ⟨hx, hb, hml, hown, hts⟩ (c_X9_isWithin l Γ hI a1 1 σ _ hw) (va_cwS 2 hts gX9_apart_X9_isWithin rfl rfl rfl (by decide +kernel) ⟨Nat.le_of_ble_eq_true rfl, Nat.le_of_ble_eq_true rfl⟩) hK hN hP rfl hl.1 rfl (Nat.le_of_ble_eq_true rfl) dX9_apart_2 ⟨Nat.le_refl _, Nat.le_refl _⟩ (fun r1 H locs hw hP => ?_)
  refine lv_if_ne (tgt := 15) hx hb dX9_apart_5 (by decide) (fun h => ?_) (fun h => ?_)
  · replace hw := hw.1 h
    refine lv_aload_n hx hb dX9_apart_15 rfl (lv_at hl 0 rfl) ?_
    refine cC_Vr (rest := []) ⟨hx, hb, hml, hown, hts⟩ (c_X9_foundTwins l Γ hI  σ _ hw) (cwV 0 hts gX9_apart_X9_foundTwins rfl rfl rfl (by decide +kernel) ⟨Nat.le_of_ble_eq_true rfl, Nat.le_of_ble_eq_true rfl⟩) hK hN hP (cC_lt hC_0 (by decide)) (cC_E9 hC_0) rfl rfl rfl hl.1 rfl (Nat.le_of_ble_eq_true rfl) dX9_apart_16 ⟨Nat.le_refl _, Nat.le_refl _⟩ (fun s2 H locs hw hP => ?_)
    refine gC_6_4 hx hb hts i6 hown hK hP hC_59 (hts _ q_X9_apart_1) dX9_apart_19 ?_
    refine lv_istore_n (lv' := [(2, .int (s2.1 59 4)), (0, .ref (Γ.2.2 0)), (1, .int a1)]) hx hb dX9_apart_22 rfl hl (by decide) rfl (fun ls hl => ?_)
    refine lv_iload_n hx hb dX9_apart_23 rfl (lv_at hl 2 rfl) ?_
    refine lv_if_ne (tgt := 43) hx hb dX9_apart_24 (by decide) (fun h => ?_) (fun h => ?_)
    · replace hw := hw.1 h
      refine lv_iload_n hx hb dX9_apart_43 rfl (lv_at hl 0 rfl) ?_
      exact W.iret hx hb hr (cC_ri hP hw) hP.2.2.2 dX9_apart_44
    · replace hw := hw.2 h
      refine lv_iload_n hx hb dX9_apart_27 rfl (lv_at hl 0 rfl) ?_
      refine lv_iconst (v := (-1)) hx hb dX9_apart_28 (by decide) ?_
      refine ft_cut (hw (fun (x3 : Int32) => ∀ (H : Heap) (locs : List Loc) (ls : Array Slot), cC_P Γ s s2 H locs → lv_has ls 3 [] → cC_Wi p l e ({ frames := 5, cells := 0, slots := 0, locals := 126 } : Room) s m [.ref (Γ.2.2 0), .int a1] below meth c Γ Φ H locs 37 ls [.int x3]) (fun x3 hw H locs ls hP hl => ?_)) (fun hw => ?_)
      · refine cC_Sip (rest := []) ⟨hx, hb, hml, hown, hts⟩ (c_X9_isOne l Γ hI x3 s2 _ hw) (va_cwS 1 hts gX9_apart_X9_isOne rfl rfl rfl (by decide +kernel) ⟨Nat.le_of_ble_eq_true rfl, Nat.le_of_ble_eq_true rfl⟩) hK hN hP rfl hl.1 rfl (Nat.le_of_ble_eq_true rfl) dX9_apart_37 ⟨Nat.le_refl _, Nat.le_refl _⟩ (fun r5 H locs hw hP => ?_)
        refine lv_goto (tgt := 44) hx hb dX9_apart_40 (by decide) ?_
        exact W.iret hx hb hr (cC_ri hP hw) hP.2.2.2 dX9_apart_44
      · refine lv_icmp_eq (tgt := 36) hx hb dX9_apart_29 (by decide) (fun h => ?_) (fun h => ?_)
        · replace hw := hw.1 h
          refine lv_iconst (v := 0) hx hb dX9_apart_36 (by decide) ?_
          exact hw _ _ _ hP (lv_sub hl [] rfl)
        · replace hw := hw.2 h
          refine lv_iconst (v := 1) hx hb dX9_apart_32 (by decide) ?_
          refine lv_goto (tgt := 37) hx hb dX9_apart_33 (by decide) ?_
          exact hw _ _ _ hP (lv_sub hl [] rfl)
  · replace hw := hw.2 h
    refine lv_aload_n hx hb dX9_apart_8 rfl (lv_at hl 0 rfl) ?_
    refine lv_bipush (v := (-2)) hx hb dX9_apart_9 (by decide) ?_
    refine cC_Vi (rest := []) ⟨hx, hb, hml, hown, hts⟩ (c_X9_refuse l Γ hI (-2) σ _ hw) (cwV 1 hts gX9_apart_X9_refuse rfl rfl rfl (by decide +kernel) ⟨Nat.le_of_ble_eq_true rfl, Nat.le_of_ble_eq_true rfl⟩) hK hN hP (cC_lt hC_0 (by decide)) (cC_E9 hC_0) rfl rfl rfl hl.1 rfl (Nat.le_of_ble_eq_true rfl) dX9_apart_11 ⟨Nat.le_refl _, Nat.le_refl _⟩ (fun r6 s7 H locs hw hP => ?_)
    exact W.iret hx hb hr (cC_ri hP hw) hP.2.2.2 dX9_apart_14
set_option maxHeartbeats 4000000 in
set_option maxRecDepth 100000 in
theorem c_X9_soonest (l : Launch) (Γ : ft_G) (hI : cC_I Γ) (a1 : Int32) (σ : ft_St) (Φ : Int32 → ft_St → Prop) (hw : w_X9_soonest a1 σ Φ) : cC_Mi l yX9_soonest wsX9_soonest ({ frames := 3, cells := 0, slots := 0, locals := 69 } : Room) Γ σ [.ref (Γ.2.2 0), .int a1] Φ := by
  refine Met.ofW (cc := cX9_soonest) (maxL := 2) (ret := (some .int)) (by decide) rfl ?_
  intro p e s m args below meth c s₁ B hml hv
  obtain ⟨rfl, hP, hK, hN⟩ := hv
  have hx := B.exec
  have hb := B.bytes
  have hr := B.returns
  have hts := atoms_spec (ws := wsX9_soonest) B.pre
  have hown : s.vm.findClass RX9 = some m.cls := findClass_of_methodNamed B.named
  have hlocks := B.notSynchronized
  have hP : cC_P Γ s σ s.heap [] := ⟨hP, va_S.rf⟩
  have hl := lv_entry ([.ref (Γ.2.2 0), .int a1]) (n := 2) (Nat.le_of_ble_eq_true rfl)
  rw [lg_entry_eq]
  generalize (lg_sl ([.ref (Γ.2.2 0), .int a1]) ++ List.replicate (2 - (lg_sl ([.ref (Γ.2.2 0), .int a1])).length) Slot.unset).toArray = ls at hl ⊢
  have hl : lv_has ls 2 [(0, .ref (Γ.2.2 0)), (1, .int a1)] := hl
  unfold w_X9_soonest at hw
  refine lv_iload_n hx hb dX9_soonest_0 rfl (lv_at hl 1 rfl) ?_
  refine lv_iconst (v := 1) hx hb dX9_soonest_1 (by decide) ?_
  refine cC_Sip (rest := []) ⟨hx, hb, hml, hown, hts⟩ (c_X9_isWithin l Γ hI a1 1 σ _ hw) (va_cwS 2 hts gX9_soonest_X9_isWithin rfl rfl rfl (by decide +kernel) ⟨Nat.le_of_ble_eq_true rfl, Nat.le_of_ble_eq_true rfl⟩) hK hN hP rfl hl.1 rfl (Nat.le_of_ble_eq_true rfl) dX9_soonest_2 ⟨Nat.le_refl _, Nat.le_refl _⟩ (fun r1 H locs hw hP => ?_)
  refine lv_if_ne (tgt := 15) hx hb dX9_soonest_5 (by decide) (fun h => ?_) (fun h => ?_)
  · replace hw := hw.1 h
    refine lv_aload_n hx hb dX9_soonest_15 rfl (lv_at hl 0 rfl) ?_
    refine cC_Vr (rest := []) ⟨hx, hb, hml, hown, hts⟩ (c_X9_foundSets l Γ hI  σ _ hw) (cwV 0 hts gX9_soonest_X9_foundSets rfl rfl rfl (by decide +kernel) ⟨Nat.le_of_ble_eq_true rfl, Nat.le_of_ble_eq_true rfl⟩) hK hN hP (cC_lt hC_0 (by decide)) (cC_E9 hC_0) rfl rfl rfl hl.1 rfl (Nat.le_of_ble_eq_true rfl) dX9_soonest_16 ⟨Nat.le_refl _, Nat.le_refl _⟩ (fun s2 H locs hw hP => ?_)
    refine lv_iload_n hx hb dX9_soonest_19 rfl (lv_at hl 1 rfl) ?_
    refine ft_cut (hw (fun (x3 : Int32) => ∀ (H : Heap) (locs : List Loc) (ls : Array Slot), cC_P Γ s s2 H locs → lv_has ls 2 [] → cC_Wi p l e ({ frames := 3, cells := 0, slots := 0, locals := 69 } : Room) s m [.ref (Γ.2.2 0), .int a1] below meth c Γ Φ H locs 28 ls [.int x3, .ref (Γ.2.2 55)]) (fun x3 hw H locs ls hP hl => ?_)) (fun hw => ?_)
    · refine cC_Vip (rest := []) ⟨hx, hb, hml, hown, hts⟩ (c_X3_fewestSights l Γ hI 55 hC_55 x3 s2 _ hw) (cwV 1 hts gX9_soonest_X3_fewestSights rfl rfl rfl (by decide +kernel) ⟨Nat.le_of_ble_eq_true rfl, Nat.le_of_ble_eq_true rfl⟩) hK hN hP (cC_lt hC_55 (by decide)) (cC_E3 hC_55) rfl rfl rfl hl.1 rfl (Nat.le_of_ble_eq_true rfl) dX9_soonest_28 ⟨Nat.le_refl _, Nat.le_refl _⟩ (fun r5 H locs hw hP => ?_)
      exact W.iret hx hb hr (cC_ri hP hw) hP.2.2.2 dX9_soonest_31
    · refine lv_if_ne (tgt := 27) hx hb dX9_soonest_20 (by decide) (fun h => ?_) (fun h => ?_)
      · replace hw := hw.1 h
        refine lv_iconst (v := 2) hx hb dX9_soonest_27 (by decide) ?_
        exact hw _ _ _ hP (lv_sub hl [] rfl)
      · replace hw := hw.2 h
        refine lv_iconst (v := 1) hx hb dX9_soonest_23 (by decide) ?_
        refine lv_goto (tgt := 28) hx hb dX9_soonest_24 (by decide) ?_
        exact hw _ _ _ hP (lv_sub hl [] rfl)
  · replace hw := hw.2 h
    refine lv_aload_n hx hb dX9_soonest_8 rfl (lv_at hl 0 rfl) ?_
    refine lv_bipush (v := (-2)) hx hb dX9_soonest_9 (by decide) ?_
    refine cC_Vi (rest := []) ⟨hx, hb, hml, hown, hts⟩ (c_X9_refuse l Γ hI (-2) σ _ hw) (cwV 1 hts gX9_soonest_X9_refuse rfl rfl rfl (by decide +kernel) ⟨Nat.le_of_ble_eq_true rfl, Nat.le_of_ble_eq_true rfl⟩) hK hN hP (cC_lt hC_0 (by decide)) (cC_E9 hC_0) rfl rfl rfl hl.1 rfl (Nat.le_of_ble_eq_true rfl) dX9_soonest_11 ⟨Nat.le_refl _, Nat.le_refl _⟩ (fun r6 s7 H locs hw hP => ?_)
    exact W.iret hx hb hr (cC_ri hP hw) hP.2.2.2 dX9_soonest_14
theorem q_X9_areEnough_1 : (Cond.fieldLink RX9 44 "FaultTwins" "trial" "LFaultTwins$Twins;") ∈ wsX9_areEnough := List.mem_of_getElem? (i := 1) (by decide +kernel)
theorem q_X9_areEnough_2 : (Cond.fieldLink RX9 12 "FaultTwins" "now" "LFaultTwins$State;") ∈ wsX9_areEnough := List.mem_of_getElem? (i := 2) (by decide +kernel)
theorem q_X9_areEnough_3 : (Cond.fieldLink RX9 75 "FaultTwins$State" "machine" "LFaultTwins$Machine;") ∈ wsX9_areEnough := List.mem_of_getElem? (i := 3) (by decide +kernel)
theorem q_X9_areEnough_4 : (Cond.fieldLink RX9 112 "FaultTwins$Machine" "seen" "I") ∈ wsX9_areEnough := List.mem_of_getElem? (i := 4) (by decide +kernel)
theorem q_X9_areEnough_5 : (Cond.fieldLink RX9 203 "FaultTwins$Twins" "delay" "I") ∈ wsX9_areEnough := List.mem_of_getElem? (i := 5) (by decide +kernel)
set_option maxHeartbeats 4000000 in
set_option maxRecDepth 100000 in
theorem c_X9_areEnough (l : Launch) (Γ : ft_G) (hI : cC_I Γ) (a1 : Int32) (σ : ft_St) (Φ : Int32 → ft_St → Prop) (hw : w_X9_areEnough a1 σ Φ) : cC_Mi l yX9_areEnough wsX9_areEnough ({ frames := 4, cells := 0, slots := 0, locals := 106 } : Room) Γ σ [.ref (Γ.2.2 0), .int a1] Φ := by
  refine Met.ofW (cc := cX9_areEnough) (maxL := 2) (ret := (some .boolean)) (by decide) rfl ?_
  intro p e s m args below meth c s₁ B hml hv
  obtain ⟨rfl, hP, hK, hN⟩ := hv
  have hx := B.exec
  have hb := B.bytes
  have hr := B.returns
  have hts := atoms_spec (ws := wsX9_areEnough) B.pre
  have hown : s.vm.findClass RX9 = some m.cls := findClass_of_methodNamed B.named
  have hlocks := B.notSynchronized
  have i1 : ∀ w ∈ wsX10, w ∈ wsX9_areEnough := fun w h => List.mem_cons_of_mem _ (List.mem_append_left _ (List.mem_append_right _ h))
  have i4 : ∀ w ∈ wsX40, w ∈ wsX9_areEnough := fun w h => List.mem_cons_of_mem _ (List.mem_append_left _ (List.mem_append_left _ (List.mem_append_right _ h)))
  have i6 : ∀ w ∈ wsX60, w ∈ wsX9_areEnough := fun w h => List.mem_cons_of_mem _ (List.mem_append_right _ h)
  have i9 : ∀ w ∈ wsX90, w ∈ wsX9_areEnough := fun w h => List.mem_cons_of_mem _ (List.mem_append_left _ (List.mem_append_left _ (List.mem_append_left _ (List.mem_append_right _ h))))
  have hP : cC_P Γ s σ s.heap [] := ⟨hP, va_S.rf⟩
  have hl := lv_entry ([.ref (Γ.2.2 0), .int a1]) (n := 2) (Nat.le_of_ble_eq_true rfl)
  rw [lg_entry_eq]
  generalize (lg_sl ([.ref (Γ.2.2 0), .int a1]) ++ List.replicate (2 - (lg_sl ([.ref (Γ.2.2 0), .int a1])).length) Slot.unset).toArray = ls at hl ⊢
  have hl : lv_has ls 2 [(0, .ref (Γ.2.2 0)), (1, .int a1)] := hl
  unfold w_X9_areEnough at hw
  refine lv_aload_n hx hb dX9_areEnough_0 rfl (lv_at hl 0 rfl) ?_
  refine gC_9_5 hx hb hts i9 hown hK hP hC_0 (hts _ q_X9_areEnough_1) dX9_areEnough_1 ?_
  refine lv_aload_n hx hb dX9_areEnough_4 rfl (lv_at hl 0 rfl) ?_
  refine gC_9_0 hx hb hts i9 hown hK hP hC_0 (hts _ q_X9_areEnough_2) dX9_areEnough_5 ?_
  refine gC_4_0 hx hb hts i4 hown hK hP hC_1 (hts _ q_X9_areEnough_3) dX9_areEnough_8 ?_
  refine lv_aload_n hx hb dX9_areEnough_11 rfl (lv_at hl 0 rfl) ?_
  refine gC_9_0 hx hb hts i9 hown hK hP hC_0 (hts _ q_X9_areEnough_2) dX9_areEnough_12 ?_
  refine gC_4_0 hx hb hts i4 hown hK hP hC_1 (hts _ q_X9_areEnough_3) dX9_areEnough_15 ?_
  refine gC_1_4 hx hb hts i1 hown hK hP hC_2 (hts _ q_X9_areEnough_4) dX9_areEnough_18 ?_
  refine lv_iload_n hx hb dX9_areEnough_21 rfl (lv_at hl 1 rfl) ?_
  refine lv_ior hx hb dX9_areEnough_22 ?_
  refine cC_Vv (rest := []) ⟨hx, hb, hml, hown, hts⟩ (c_X6_find l Γ hI 66 hC_66 ((σ.1 2 4) ||| a1) σ _ hw) (cwV 2 hts gX9_areEnough_X6_find rfl rfl rfl (by decide +kernel) ⟨Nat.le_of_ble_eq_true rfl, Nat.le_of_ble_eq_true rfl⟩) hK hN hP (cC_lt hC_66 (by decide)) (cC_E6 hC_66) rfl rfl rfl hl.1 rfl (Nat.le_of_ble_eq_true rfl) dX9_areEnough_23 ⟨Nat.le_refl _, Nat.le_refl _⟩ (fun s1 H locs hw hP => ?_)
  refine lv_aload_n hx hb dX9_areEnough_26 rfl (lv_at hl 0 rfl) ?_
  refine gC_9_5 hx hb hts i9 hown hK hP hC_0 (hts _ q_X9_areEnough_1) dX9_areEnough_27 ?_
  refine gC_6_4 hx hb hts i6 hown hK hP hC_66 (hts _ q_X9_areEnough_5) dX9_areEnough_30 ?_
  refine lv_iconst (v := (-1)) hx hb dX9_areEnough_33 (by decide) ?_
  refine lv_icmp_eq (tgt := 41) hx hb dX9_areEnough_34 (by decide) (fun h => ?_) (fun h => ?_)
  · replace hw := hw.1 h
    refine lv_iconst (v := 0) hx hb dX9_areEnough_41 (by decide) ?_
    exact W.zret hx hb hr rfl (cC_ri hP hw) hP.2.2.2 dX9_areEnough_42
  · replace hw := hw.2 h
    refine lv_iconst (v := 1) hx hb dX9_areEnough_37 (by decide) ?_
    refine lv_goto (tgt := 42) hx hb dX9_areEnough_38 (by decide) ?_
    exact W.zret hx hb hr rfl (cC_ri hP hw) hP.2.2.2 dX9_areEnough_42
theorem q_X9_enough_1 : (Cond.fieldLink RX9 12 "FaultTwins" "now" "LFaultTwins$State;") ∈ wsX9_enough := List.mem_of_getElem? (i := 1) (by decide +kernel)
theorem q_X9_enough_2 : (Cond.fieldLink RX9 75 "FaultTwins$State" "machine" "LFaultTwins$Machine;") ∈ wsX9_enough := List.mem_of_getElem? (i := 2) (by decide +kernel)
set_option maxHeartbeats 4000000 in
set_option maxRecDepth 100000 in
theorem c_X9_enough (l : Launch) (Γ : ft_G) (hI : cC_I Γ) (a1 : Int32) (σ : ft_St) (Φ : Int32 → ft_St → Prop) (hw : w_X9_enough a1 σ Φ) : cC_Mi l yX9_enough wsX9_enough ({ frames := 5, cells := 0, slots := 0, locals := 127 } : Room) Γ σ [.ref (Γ.2.2 0), .int a1] Φ := by
  refine Met.ofW (cc := cX9_enough) (maxL := 2) (ret := (some .int)) (by decide) rfl ?_
  intro p e s m args below meth c s₁ B hml hv
  obtain ⟨rfl, hP, hK, hN⟩ := hv
  have hx := B.exec
  have hb := B.bytes
  have hr := B.returns
  have hts := atoms_spec (ws := wsX9_enough) B.pre
  have hown : s.vm.findClass RX9 = some m.cls := findClass_of_methodNamed B.named
  have hlocks := B.notSynchronized
  have i4 : ∀ w ∈ wsX40, w ∈ wsX9_enough := fun w h => List.mem_cons_of_mem _ (List.mem_append_left _ (List.mem_append_left _ (List.mem_append_right _ h)))
  have i9 : ∀ w ∈ wsX90, w ∈ wsX9_enough := fun w h => List.mem_cons_of_mem _ (List.mem_append_left _ (List.mem_append_left _ (List.mem_append_left _ (List.mem_append_right _ h))))
  have hP : cC_P Γ s σ s.heap [] := ⟨hP, va_S.rf⟩
  have hl := lv_entry ([.ref (Γ.2.2 0), .int a1]) (n := 2) (Nat.le_of_ble_eq_true rfl)
  rw [lg_entry_eq]
  generalize (lg_sl ([.ref (Γ.2.2 0), .int a1]) ++ List.replicate (2 - (lg_sl ([.ref (Γ.2.2 0), .int a1])).length) Slot.unset).toArray = ls at hl ⊢
  have hl : lv_has ls 2 [(0, .ref (Γ.2.2 0)), (1, .int a1)] := hl
  unfold w_X9_enough at hw
  refine lv_iload_n hx hb dX9_enough_0 rfl (lv_at hl 1 rfl) ?_
  refine lv_aload_n hx hb dX9_enough_1 rfl (lv_at hl 0 rfl) ?_
  refine gC_9_0 hx hb hts i9 hown hK hP hC_0 (hts _ q_X9_enough_1) dX9_enough_2 ?_
  refine gC_4_0 hx hb hts i4 hown hK hP hC_1 (hts _ q_X9_enough_2) dX9_enough_5 ?_
  refine cC_Vip (rest := [.int a1]) ⟨hx, hb, hml, hown, hts⟩ (c_X1_eyesFree l Γ hI 2 hC_2 σ _ hw) (cwV 0 hts gX9_enough_X1_eyesFree rfl rfl rfl (by decide +kernel) ⟨Nat.le_of_ble_eq_true rfl, Nat.le_of_ble_eq_true rfl⟩) hK hN hP (cC_lt hC_2 (by decide)) (cC_E1 hC_2) rfl rfl rfl hl.1 rfl (Nat.le_of_ble_eq_true rfl) dX9_enough_8 ⟨Nat.le_refl _, Nat.le_refl _⟩ (fun r1 H locs hw hP => ?_)
  refine lv_iconst (v := (-1)) hx hb dX9_enough_11 (by decide) ?_
  refine lv_ixor hx hb dX9_enough_12 ?_
  refine lv_iand hx hb dX9_enough_13 ?_
  refine lv_if_eq (tgt := 24) hx hb dX9_enough_14 (by decide) (fun h => ?_) (fun h => ?_)
  · replace hw := hw.1 h
    refine lv_aload_n hx hb dX9_enough_24 rfl (lv_at hl 0 rfl) ?_
    refine lv_iload_n hx hb dX9_enough_25 rfl (lv_at hl 1 rfl) ?_
    refine cC_Vi (rest := []) ⟨hx, hb, hml, hown, hts⟩ (c_X9_areEnough l Γ hI a1 σ _ hw) (cwV 1 hts gX9_enough_X9_areEnough rfl rfl rfl (by decide +kernel) ⟨Nat.le_of_ble_eq_true rfl, Nat.le_of_ble_eq_true rfl⟩) hK hN hP (cC_lt hC_0 (by decide)) (cC_E9 hC_0) rfl rfl rfl hl.1 rfl (Nat.le_of_ble_eq_true rfl) dX9_enough_26 ⟨Nat.le_refl _, Nat.le_refl _⟩ (fun r2 s3 H locs hw hP => ?_)
    refine cC_Sip (rest := []) ⟨hx, hb, hml, hown, hts⟩ (c_X9_isOne l Γ hI r2 s3 _ hw) (va_cwS 1 hts gX9_enough_X9_isOne rfl rfl rfl (by decide +kernel) ⟨Nat.le_of_ble_eq_true rfl, Nat.le_of_ble_eq_true rfl⟩) hK hN hP rfl hl.1 rfl (Nat.le_of_ble_eq_true rfl) dX9_enough_29 ⟨Nat.le_refl _, Nat.le_refl _⟩ (fun r4 H locs hw hP => ?_)
    exact W.iret hx hb hr (cC_ri hP hw) hP.2.2.2 dX9_enough_32
  · replace hw := hw.2 h
    refine lv_aload_n hx hb dX9_enough_17 rfl (lv_at hl 0 rfl) ?_
    refine lv_bipush (v := (-2)) hx hb dX9_enough_18 (by decide) ?_
    refine cC_Vi (rest := []) ⟨hx, hb, hml, hown, hts⟩ (c_X9_refuse l Γ hI (-2) σ _ hw) (cwV 1 hts gX9_enough_X9_refuse rfl rfl rfl (by decide +kernel) ⟨Nat.le_of_ble_eq_true rfl, Nat.le_of_ble_eq_true rfl⟩) hK hN hP (cC_lt hC_0 (by decide)) (cC_E9 hC_0) rfl rfl rfl hl.1 rfl (Nat.le_of_ble_eq_true rfl) dX9_enough_20 ⟨Nat.le_refl _, Nat.le_refl _⟩ (fun r5 s6 H locs hw hP => ?_)
    exact W.iret hx hb hr (cC_ri hP hw) hP.2.2.2 dX9_enough_23
theorem q_X9_findFewest_1 : (Cond.fieldLink RX9 12 "FaultTwins" "now" "LFaultTwins$State;") ∈ wsX9_findFewest := List.mem_of_getElem? (i := 1) (by decide +kernel)
theorem q_X9_findFewest_2 : (Cond.fieldLink RX9 75 "FaultTwins$State" "machine" "LFaultTwins$Machine;") ∈ wsX9_findFewest := List.mem_of_getElem? (i := 2) (by decide +kernel)
set_option maxHeartbeats 4000000 in
set_option maxRecDepth 100000 in
theorem c_X9_findFewest (l : Launch) (Γ : ft_G) (hI : cC_I Γ)  (σ : ft_St) (Φ : Int32 → ft_St → Prop) (hw : w_X9_findFewest  σ Φ) : cC_Mi l yX9_findFewest wsX9_findFewest ({ frames := 5, cells := 0, slots := 0, locals := 127 } : Room) Γ σ [.ref (Γ.2.2 0)] Φ := by
  refine Met.ofW (cc := cX9_findFewest) (maxL := 5) (ret := (some .int)) (by decide) rfl ?_
  intro p e s m args below meth c s₁ B hml hv
  obtain ⟨rfl, hP, hK, hN⟩ := hv
  have hx := B.exec
  have hb := B.bytes
  have hr := B.returns
  have hts := atoms_spec (ws := wsX9_findFewest) B.pre
  have hown : s.vm.findClass RX9 = some m.cls := findClass_of_methodNamed B.named
  have hlocks := B.notSynchronized
  have i4 : ∀ w ∈ wsX40, w ∈ wsX9_findFewest := fun w h => List.mem_cons_of_mem _ (List.mem_append_left _ (List.mem_append_left _ (List.mem_append_right _ h)))
  have i9 : ∀ w ∈ wsX90, w ∈ wsX9_findFewest := fun w h => List.mem_cons_of_mem _ (List.mem_append_left _ (List.mem_append_left _ (List.mem_append_left _ (List.mem_append_right _ h))))
  have hP : cC_P Γ s σ s.heap [] := ⟨hP, va_S.rf⟩
  have hl := lv_entry ([.ref (Γ.2.2 0)]) (n := 5) (Nat.le_of_ble_eq_true rfl)
  rw [lg_entry_eq]
  generalize (lg_sl ([.ref (Γ.2.2 0)]) ++ List.replicate (5 - (lg_sl ([.ref (Γ.2.2 0)])).length) Slot.unset).toArray = ls at hl ⊢
  have hl : lv_has ls 5 [(0, .ref (Γ.2.2 0))] := hl
  unfold w_X9_findFewest at hw
  refine lv_aload_n hx hb dX9_findFewest_0 rfl (lv_at hl 0 rfl) ?_
  refine gC_9_0 hx hb hts i9 hown hK hP hC_0 (hts _ q_X9_findFewest_1) dX9_findFewest_1 ?_
  refine gC_4_0 hx hb hts i4 hown hK hP hC_1 (hts _ q_X9_findFewest_2) dX9_findFewest_4 ?_
  refine cC_Vip (rest := []) ⟨hx, hb, hml, hown, hts⟩ (c_X1_eyesFree l Γ hI 2 hC_2 σ _ hw) (cwV 0 hts gX9_findFewest_X1_eyesFree rfl rfl rfl (by decide +kernel) ⟨Nat.le_of_ble_eq_true rfl, Nat.le_of_ble_eq_true rfl⟩) hK hN hP (cC_lt hC_2 (by decide)) (cC_E1 hC_2) rfl rfl rfl hl.1 rfl (Nat.le_of_ble_eq_true rfl) dX9_findFewest_7 ⟨Nat.le_refl _, Nat.le_refl _⟩ (fun r1 H locs hw hP => ?_)
  refine lv_istore_n (lv' := [(1, .int r1), (0, .ref (Γ.2.2 0))]) hx hb dX9_findFewest_10 rfl hl (by decide) rfl (fun ls hl => ?_)
  refine lv_aload_n hx hb dX9_findFewest_11 rfl (lv_at hl 1 rfl) ?_
  refine lv_iload_n hx hb dX9_findFewest_12 rfl (lv_at hl 0 rfl) ?_
  refine cC_Vi (rest := []) ⟨hx, hb, hml, hown, hts⟩ (c_X9_areEnough l Γ hI r1 σ _ hw) (cwV 1 hts gX9_findFewest_X9_areEnough rfl rfl rfl (by decide +kernel) ⟨Nat.le_of_ble_eq_true rfl, Nat.le_of_ble_eq_true rfl⟩) hK hN hP (cC_lt hC_0 (by decide)) (cC_E9 hC_0) rfl rfl rfl hl.1 rfl (Nat.le_of_ble_eq_true rfl) dX9_findFewest_13 ⟨Nat.le_refl _, Nat.le_refl _⟩ (fun r2 s3 H locs hw hP => ?_)
  refine lv_if_ne (tgt := 21) hx hb dX9_findFewest_16 (by decide) (fun h => ?_) (fun h => ?_)
  · replace hw := hw.1 h
    refine lv_iload_n hx hb dX9_findFewest_21 rfl (lv_at hl 0 rfl) ?_
    refine lv_istore_n (lv' := [(2, .int r1), (1, .int r1), (0, .ref (Γ.2.2 0))]) hx hb dX9_findFewest_22 rfl hl (by decide) rfl (fun ls hl => ?_)
    refine lv_iconst (v := 0) hx hb dX9_findFewest_23 (by decide) ?_
    refine lv_istore_n (lv' := [(3, .int 0), (2, .int r1), (1, .int r1), (0, .ref (Γ.2.2 0))]) hx hb dX9_findFewest_24 rfl hl (by decide) rfl (fun ls hl => ?_)
    refine hw (fun (x4 : Int32) (x5 : Int32) (s6 : ft_St) => ∀ (H : Heap) (locs : List Loc) (ls : Array Slot), cC_P Γ s s6 H locs → lv_has ls 5 [(0, .ref (Γ.2.2 0)), (1, .int r1), (2, .int x4), (3, .int x5)] → cC_Wi p l e ({ frames := 5, cells := 0, slots := 0, locals := 127 } : Room) s m [.ref (Γ.2.2 0)] below meth c Γ Φ H locs 25 ls []) (fun x4 x5 s6 hw H locs ls hP hl => ?_) _ _ _ hP (lv_sub hl [3, 2, 1, 0] rfl)
    refine lv_iload_n hx hb dX9_findFewest_25 rfl (lv_at hl 3 rfl) ?_
    refine lv_iload_n hx hb dX9_findFewest_26 rfl (lv_at hl 1 rfl) ?_
    refine lv_icmp_ge (tgt := 77) hx hb dX9_findFewest_27 (by decide) (fun h => ?_) (fun h => ?_)
    · replace hw := hw.1 h
      refine lv_iload_n hx hb dX9_findFewest_77 rfl (lv_at hl 2 rfl) ?_
      exact W.iret hx hb hr (cC_ri hP hw) hP.2.2.2 dX9_findFewest_78
    · replace hw := hw.2 h
      refine lv_iload_n hx hb dX9_findFewest_30 rfl (lv_at hl 3 rfl) ?_
      refine cC_Sip (rest := []) ⟨hx, hb, hml, hown, hts⟩ (c_J6_bitCount_0f7a4 l Γ hI x5 s6 _ hw) (va_cwS 1 hts gX9_findFewest_J6_bitCount_0f7a4 rfl rfl rfl (by decide +kernel) ⟨Nat.le_of_ble_eq_true rfl, Nat.le_of_ble_eq_true rfl⟩) hK hN hP rfl hl.1 rfl (Nat.le_of_ble_eq_true rfl) dX9_findFewest_31 ⟨Nat.le_refl _, Nat.le_refl _⟩ (fun r8 H locs hw hP => ?_)
      refine lv_iload_n hx hb dX9_findFewest_34 rfl (lv_at hl 2 rfl) ?_
      refine cC_Sip (rest := [.int r8]) ⟨hx, hb, hml, hown, hts⟩ (c_J6_bitCount_0f7a4 l Γ hI x4 s6 _ hw) (va_cwS 1 hts gX9_findFewest_J6_bitCount_0f7a4 rfl rfl rfl (by decide +kernel) ⟨Nat.le_of_ble_eq_true rfl, Nat.le_of_ble_eq_true rfl⟩) hK hN hP rfl hl.1 rfl (Nat.le_of_ble_eq_true rfl) dX9_findFewest_35 ⟨Nat.le_refl _, Nat.le_refl _⟩ (fun r9 H locs hw hP => ?_)
      refine ft_cut (hw (fun (x10 : Int32) => ∀ (H : Heap) (locs : List Loc) (ls : Array Slot), cC_P Γ s s6 H locs → lv_has ls 5 [(0, .ref (Γ.2.2 0)), (1, .int r1), (2, .int x4), (3, .int x5)] → cC_Wi p l e ({ frames := 5, cells := 0, slots := 0, locals := 127 } : Room) s m [.ref (Γ.2.2 0)] below meth c Γ Φ H locs 46 ls [.int x10]) (fun x10 hw H locs ls hP hl => ?_)) (fun hw => ?_)
      · refine lv_istore (lv' := [(4, .int x10), (0, .ref (Γ.2.2 0)), (1, .int r1), (2, .int x4), (3, .int x5)]) hx hb dX9_findFewest_46 hl (by decide) rfl (fun ls hl => ?_)
        refine lv_iload_n hx hb dX9_findFewest_48 rfl (lv_at hl 4 rfl) ?_
        refine lv_iload_n hx hb dX9_findFewest_49 rfl (lv_at hl 2 rfl) ?_
        refine lv_iconst (v := (-1)) hx hb dX9_findFewest_50 (by decide) ?_
        refine lv_ixor hx hb dX9_findFewest_51 ?_
        refine lv_iand hx hb dX9_findFewest_52 ?_
        refine lv_if_ne (tgt := 71) hx hb dX9_findFewest_53 (by decide) (fun h => ?_) (fun h => ?_)
        · replace hw := hw.1 h
          refine lv_iinc (v := x5 + 1) (lv' := [(3, .int (x5 + 1)), (4, .int x10), (0, .ref (Γ.2.2 0)), (1, .int r1), (2, .int x4)]) hx hb dX9_findFewest_71 hl (k := 4) rfl (congrArg (fun z => x5 + z) (by decide)) (by decide) rfl (fun ls hl => ?_)
          refine lv_goto (tgt := 25) hx hb dX9_findFewest_74 (by decide) ?_
          exact hw _ _ _ hP (lv_sub hl [2, 3, 4, 0] rfl)
        · replace hw := hw.2 h
          refine lv_iload hx hb dX9_findFewest_56 (lv_at hl 0 rfl) ?_
          refine lv_if_eq (tgt := 71) hx hb dX9_findFewest_58 (by decide) (fun h => ?_) (fun h => ?_)
          · replace hw := hw.1 h
            refine lv_iinc (v := x5 + 1) (lv' := [(3, .int (x5 + 1)), (4, .int x10), (0, .ref (Γ.2.2 0)), (1, .int r1), (2, .int x4)]) hx hb dX9_findFewest_71 hl (k := 4) rfl (congrArg (fun z => x5 + z) (by decide)) (by decide) rfl (fun ls hl => ?_)
            refine lv_goto (tgt := 25) hx hb dX9_findFewest_74 (by decide) ?_
            exact hw _ _ _ hP (lv_sub hl [2, 3, 4, 0] rfl)
          · replace hw := hw.2 h
            refine lv_aload_n hx hb dX9_findFewest_61 rfl (lv_at hl 1 rfl) ?_
            refine lv_iload_n hx hb dX9_findFewest_62 rfl (lv_at hl 4 rfl) ?_
            refine cC_Vi (rest := []) ⟨hx, hb, hml, hown, hts⟩ (c_X9_areEnough l Γ hI x5 s6 _ hw) (cwV 1 hts gX9_findFewest_X9_areEnough rfl rfl rfl (by decide +kernel) ⟨Nat.le_of_ble_eq_true rfl, Nat.le_of_ble_eq_true rfl⟩) hK hN hP (cC_lt hC_0 (by decide)) (cC_E9 hC_0) rfl rfl rfl hl.1 rfl (Nat.le_of_ble_eq_true rfl) dX9_findFewest_63 ⟨Nat.le_refl _, Nat.le_refl _⟩ (fun r12 s13 H locs hw hP => ?_)
            refine lv_if_eq (tgt := 71) hx hb dX9_findFewest_66 (by decide) (fun h => ?_) (fun h => ?_)
            · replace hw := hw.1 h
              refine lv_iinc (v := x5 + 1) (lv' := [(3, .int (x5 + 1)), (4, .int x10), (0, .ref (Γ.2.2 0)), (1, .int r1), (2, .int x4)]) hx hb dX9_findFewest_71 hl (k := 4) rfl (congrArg (fun z => x5 + z) (by decide)) (by decide) rfl (fun ls hl => ?_)
              refine lv_goto (tgt := 25) hx hb dX9_findFewest_74 (by decide) ?_
              exact hw _ _ _ hP (lv_sub hl [2, 3, 4, 0] rfl)
            · replace hw := hw.2 h
              refine lv_iload_n hx hb dX9_findFewest_69 rfl (lv_at hl 4 rfl) ?_
              refine lv_istore_n (lv' := [(2, .int x5), (4, .int x10), (0, .ref (Γ.2.2 0)), (1, .int r1), (3, .int x5)]) hx hb dX9_findFewest_70 rfl hl (by decide) rfl (fun ls hl => ?_)
              refine lv_iinc (v := x5 + 1) (lv' := [(3, .int (x5 + 1)), (2, .int x5), (4, .int x10), (0, .ref (Γ.2.2 0)), (1, .int r1)]) hx hb dX9_findFewest_71 hl (k := 4) rfl (congrArg (fun z => x5 + z) (by decide)) (by decide) rfl (fun ls hl => ?_)
              refine lv_goto (tgt := 25) hx hb dX9_findFewest_74 (by decide) ?_
              exact hw _ _ _ hP (lv_sub hl [3, 4, 1, 0] rfl)
      · refine lv_icmp_ge (tgt := 45) hx hb dX9_findFewest_38 (by decide) (fun h => ?_) (fun h => ?_)
        · replace hw := hw.1 h
          refine lv_iconst (v := 0) hx hb dX9_findFewest_45 (by decide) ?_
          exact hw _ _ _ hP (lv_sub hl [0, 1, 2, 3] rfl)
        · replace hw := hw.2 h
          refine lv_iconst (v := 1) hx hb dX9_findFewest_41 (by decide) ?_
          refine lv_goto (tgt := 46) hx hb dX9_findFewest_42 (by decide) ?_
          exact hw _ _ _ hP (lv_sub hl [0, 1, 2, 3] rfl)
  · replace hw := hw.2 h
    refine lv_iconst (v := (-1)) hx hb dX9_findFewest_19 (by decide) ?_
    exact W.iret hx hb hr (cC_ri hP hw) hP.2.2.2 dX9_findFewest_20
theorem q_X9_fewest_1 : (Cond.fieldLink RX9 215 "FaultTwins" "fewestHold" "Z") ∈ wsX9_fewest := List.mem_of_getElem? (i := 1) (by decide +kernel)
theorem q_X9_fewest_2 : (Cond.fieldLink RX9 222 "FaultTwins" "fewestEyes" "I") ∈ wsX9_fewest := List.mem_of_getElem? (i := 2) (by decide +kernel)
set_option maxHeartbeats 4000000 in
set_option maxRecDepth 100000 in
theorem c_X9_fewest (l : Launch) (Γ : ft_G) (hI : cC_I Γ) (a1 : Int32) (σ : ft_St) (Φ : Int32 → ft_St → Prop) (hw : w_X9_fewest a1 σ Φ) : cC_Mi l yX9_fewest wsX9_fewest ({ frames := 6, cells := 0, slots := 0, locals := 151 } : Room) Γ σ [.ref (Γ.2.2 0), .int a1] Φ := by
  refine Met.ofW (cc := cX9_fewest) (maxL := 2) (ret := (some .int)) (by decide) rfl ?_
  intro p e s m args below meth c s₁ B hml hv
  obtain ⟨rfl, hP, hK, hN⟩ := hv
  have hx := B.exec
  have hb := B.bytes
  have hr := B.returns
  have hts := atoms_spec (ws := wsX9_fewest) B.pre
  have hown : s.vm.findClass RX9 = some m.cls := findClass_of_methodNamed B.named
  have hlocks := B.notSynchronized
  have i9 : ∀ w ∈ wsX90, w ∈ wsX9_fewest := fun w h => List.mem_cons_of_mem _ (List.mem_append_left _ (List.mem_append_left _ (List.mem_append_left _ (List.mem_append_right _ h))))
  have hP : cC_P Γ s σ s.heap [] := ⟨hP, va_S.rf⟩
  have hl := lv_entry ([.ref (Γ.2.2 0), .int a1]) (n := 2) (Nat.le_of_ble_eq_true rfl)
  rw [lg_entry_eq]
  generalize (lg_sl ([.ref (Γ.2.2 0), .int a1]) ++ List.replicate (2 - (lg_sl ([.ref (Γ.2.2 0), .int a1])).length) Slot.unset).toArray = ls at hl ⊢
  have hl : lv_has ls 2 [(0, .ref (Γ.2.2 0)), (1, .int a1)] := hl
  unfold w_X9_fewest at hw
  refine lv_iload_n hx hb dX9_fewest_0 rfl (lv_at hl 1 rfl) ?_
  refine lv_iconst (v := 1) hx hb dX9_fewest_1 (by decide) ?_
  refine cC_Sip (rest := []) ⟨hx, hb, hml, hown, hts⟩ (c_X9_isWithin l Γ hI a1 1 σ _ hw) (va_cwS 2 hts gX9_fewest_X9_isWithin rfl rfl rfl (by decide +kernel) ⟨Nat.le_of_ble_eq_true rfl, Nat.le_of_ble_eq_true rfl⟩) hK hN hP rfl hl.1 rfl (Nat.le_of_ble_eq_true rfl) dX9_fewest_2 ⟨Nat.le_refl _, Nat.le_refl _⟩ (fun r1 H locs hw hP => ?_)
  refine lv_if_ne (tgt := 15) hx hb dX9_fewest_5 (by decide) (fun h => ?_) (fun h => ?_)
  · replace hw := hw.1 h
    refine lv_aload_n hx hb dX9_fewest_15 rfl (lv_at hl 0 rfl) ?_
    refine gC_9_14 hx hb hts i9 hown hK hP hC_0 (hts _ q_X9_fewest_1) dX9_fewest_16 ?_
    refine ft_cut (hw (fun (s2 : ft_St) => ∀ (H : Heap) (locs : List Loc) (ls : Array Slot), cC_P Γ s s2 H locs → lv_has ls 2 [(0, .ref (Γ.2.2 0)), (1, .int a1)] → cC_Wi p l e ({ frames := 6, cells := 0, slots := 0, locals := 151 } : Room) s m [.ref (Γ.2.2 0), .int a1] below meth c Γ Φ H locs 35 ls []) (fun s2 hw H locs ls hP hl => ?_)) (fun hw => ?_)
    · refine lv_iload_n hx hb dX9_fewest_35 rfl (lv_at hl 1 rfl) ?_
      refine ft_cut (hw (∀ (H : Heap) (locs : List Loc) (ls : Array Slot), cC_P Γ s s2 H locs → lv_has ls 2 [(0, .ref (Γ.2.2 0))] → cC_Wi p l e ({ frames := 6, cells := 0, slots := 0, locals := 151 } : Room) s m [.ref (Γ.2.2 0), .int a1] below meth c Γ Φ H locs 47 ls []) (fun  hw H locs ls hP hl => ?_)) (fun hw => ?_)
      · refine lv_aload_n hx hb dX9_fewest_47 rfl (lv_at hl 0 rfl) ?_
        refine gC_9_11 hx hb hts i9 hown hK hP hC_0 (hts _ q_X9_fewest_2) dX9_fewest_48 ?_
        refine lv_goto (tgt := 61) hx hb dX9_fewest_51 (by decide) ?_
        exact W.iret hx hb hr (cC_ri hP hw) hP.2.2.2 dX9_fewest_61
      · refine lv_if_eq (tgt := 47) hx hb dX9_fewest_36 (by decide) (fun h => ?_) (fun h => ?_)
        · replace hw := hw.1 h
          exact hw _ _ _ hP (lv_sub hl [0] rfl)
        · replace hw := hw.2 h
          refine lv_aload_n hx hb dX9_fewest_39 rfl (lv_at hl 0 rfl) ?_
          refine gC_9_11 hx hb hts i9 hown hK hP hC_0 (hts _ q_X9_fewest_2) dX9_fewest_40 ?_
          refine lv_iconst (v := (-1)) hx hb dX9_fewest_43 (by decide) ?_
          refine lv_icmp_ne (tgt := 54) hx hb dX9_fewest_44 (by decide) (fun h => ?_) (fun h => ?_)
          · replace hw := hw.1 h
            refine lv_aload_n hx hb dX9_fewest_54 rfl (lv_at hl 0 rfl) ?_
            refine gC_9_11 hx hb hts i9 hown hK hP hC_0 (hts _ q_X9_fewest_2) dX9_fewest_55 ?_
            refine cC_Sip (rest := []) ⟨hx, hb, hml, hown, hts⟩ (c_J6_bitCount_0f7a4 l Γ hI (s2.1 0 11) s2 _ hw) (va_cwS 1 hts gX9_fewest_J6_bitCount_0f7a4 rfl rfl rfl (by decide +kernel) ⟨Nat.le_of_ble_eq_true rfl, Nat.le_of_ble_eq_true rfl⟩) hK hN hP rfl hl.1 rfl (Nat.le_of_ble_eq_true rfl) dX9_fewest_58 ⟨Nat.le_refl _, Nat.le_refl _⟩ (fun r5 H locs hw hP => ?_)
            exact W.iret hx hb hr (cC_ri hP hw) hP.2.2.2 dX9_fewest_61
          · replace hw := hw.2 h
            exact hw _ _ _ hP (lv_sub hl [0] rfl)
    · refine lv_if_ne (tgt := 35) hx hb dX9_fewest_19 (by decide) (fun h => ?_) (fun h => ?_)
      · replace hw := hw.1 h
        exact hw _ _ _ hP (lv_sub hl [0, 1] rfl)
      · replace hw := hw.2 h
        refine lv_aload_n hx hb dX9_fewest_22 rfl (lv_at hl 0 rfl) ?_
        refine lv_aload_n hx hb dX9_fewest_23 rfl (lv_at hl 0 rfl) ?_
        refine cC_Vi (rest := [.ref (Γ.2.2 0)]) ⟨hx, hb, hml, hown, hts⟩ (c_X9_findFewest l Γ hI  σ _ hw) (cwV 0 hts gX9_fewest_X9_findFewest rfl rfl rfl (by decide +kernel) ⟨Nat.le_of_ble_eq_true rfl, Nat.le_of_ble_eq_true rfl⟩) hK hN hP (cC_lt hC_0 (by decide)) (cC_E9 hC_0) rfl rfl rfl hl.1 rfl (Nat.le_of_ble_eq_true rfl) dX9_fewest_24 ⟨Nat.le_refl _, Nat.le_refl _⟩ (fun r6 s7 H locs hw hP => ?_)
        refine pC_9_11 hx hb hts i9 hown hK hI hP hC_0 (hts _ q_X9_fewest_2) dX9_fewest_27 (fun H locs hP => ?_)
        obtain ⟨s8, hs8⟩ : ∃ u, u = ft_sF s7 0 11 r6 := ⟨_, rfl⟩
        rw [← hs8] at hP
        replace hw := hw s8 hs8
        refine lv_aload_n hx hb dX9_fewest_30 rfl (lv_at hl 0 rfl) ?_
        refine lv_iconst (v := 1) hx hb dX9_fewest_31 (by decide) ?_
        refine pC_9_14 hx hb hts i9 hown hK hI hP hC_0 (hts _ q_X9_fewest_1) (Or.inr rfl) dX9_fewest_32 (fun H locs hP => ?_)
        obtain ⟨s9, hs9⟩ : ∃ u, u = ft_sF s8 0 14 1 := ⟨_, rfl⟩
        rw [← hs9] at hP
        replace hw := hw s9 hs9
        exact hw _ _ _ hP (lv_sub hl [0, 1] rfl)
  · replace hw := hw.2 h
    refine lv_aload_n hx hb dX9_fewest_8 rfl (lv_at hl 0 rfl) ?_
    refine lv_bipush (v := (-2)) hx hb dX9_fewest_9 (by decide) ?_
    refine cC_Vi (rest := []) ⟨hx, hb, hml, hown, hts⟩ (c_X9_refuse l Γ hI (-2) σ _ hw) (cwV 1 hts gX9_fewest_X9_refuse rfl rfl rfl (by decide +kernel) ⟨Nat.le_of_ble_eq_true rfl, Nat.le_of_ble_eq_true rfl⟩) hK hN hP (cC_lt hC_0 (by decide)) (cC_E9 hC_0) rfl rfl rfl hl.1 rfl (Nat.le_of_ble_eq_true rfl) dX9_fewest_11 ⟨Nat.le_refl _, Nat.le_refl _⟩ (fun r10 s11 H locs hw hP => ?_)
    exact W.iret hx hb hr (cC_ri hP hw) hP.2.2.2 dX9_fewest_14
theorem q_X9_pair_1 : (Cond.fieldLink RX9 225 "FaultTwins$Twins" "pairs" "[I") ∈ wsX9_pair := List.mem_of_getElem? (i := 1) (by decide +kernel)
theorem q_X9_pair_2 : (Cond.fieldLink RX9 12 "FaultTwins" "now" "LFaultTwins$State;") ∈ wsX9_pair := List.mem_of_getElem? (i := 2) (by decide +kernel)
theorem q_X9_pair_3 : (Cond.fieldLink RX9 75 "FaultTwins$State" "machine" "LFaultTwins$Machine;") ∈ wsX9_pair := List.mem_of_getElem? (i := 3) (by decide +kernel)
set_option maxHeartbeats 4000000 in
set_option maxRecDepth 100000 in
theorem c_X9_pair (l : Launch) (Γ : ft_G) (hI : cC_I Γ) (a1 : Int32) (a2 : Int32) (σ : ft_St) (Φ : Int32 → ft_St → Prop) (hw : w_X9_pair a1 a2 σ Φ) : cC_Mi l yX9_pair wsX9_pair ({ frames := 5, cells := 0, slots := 0, locals := 126 } : Room) Γ σ [.ref (Γ.2.2 0), .int a1, .int a2] Φ := by
  refine Met.ofW (cc := cX9_pair) (maxL := 4) (ret := (some .int)) (by decide) rfl ?_
  intro p e s m args below meth c s₁ B hml hv
  obtain ⟨rfl, hP, hK, hN⟩ := hv
  have hx := B.exec
  have hb := B.bytes
  have hr := B.returns
  have hts := atoms_spec (ws := wsX9_pair) B.pre
  have hown : s.vm.findClass RX9 = some m.cls := findClass_of_methodNamed B.named
  have hlocks := B.notSynchronized
  have i4 : ∀ w ∈ wsX40, w ∈ wsX9_pair := fun w h => List.mem_cons_of_mem _ (List.mem_append_left _ (List.mem_append_right _ h))
  have i6 : ∀ w ∈ wsX60, w ∈ wsX9_pair := fun w h => List.mem_cons_of_mem _ (List.mem_append_left _ (List.mem_append_left _ (List.mem_append_left _ (List.mem_append_right _ h))))
  have i9 : ∀ w ∈ wsX90, w ∈ wsX9_pair := fun w h => List.mem_cons_of_mem _ (List.mem_append_left _ (List.mem_append_left _ (List.mem_append_right _ h)))
  have hP : cC_P Γ s σ s.heap [] := ⟨hP, va_S.rf⟩
  have hl := lv_entry ([.ref (Γ.2.2 0), .int a1, .int a2]) (n := 4) (Nat.le_of_ble_eq_true rfl)
  rw [lg_entry_eq]
  generalize (lg_sl ([.ref (Γ.2.2 0), .int a1, .int a2]) ++ List.replicate (4 - (lg_sl ([.ref (Γ.2.2 0), .int a1, .int a2])).length) Slot.unset).toArray = ls at hl ⊢
  have hl : lv_has ls 4 [(0, .ref (Γ.2.2 0)), (1, .int a1), (2, .int a2)] := hl
  unfold w_X9_pair at hw
  refine lv_iload_n hx hb dX9_pair_0 rfl (lv_at hl 1 rfl) ?_
  refine lv_bipush (v := 19) hx hb dX9_pair_1 (by decide) ?_
  refine cC_Sip (rest := []) ⟨hx, hb, hml, hown, hts⟩ (c_X9_isWithin l Γ hI a1 19 σ _ hw) (va_cwS 2 hts gX9_pair_X9_isWithin rfl rfl rfl (by decide +kernel) ⟨Nat.le_of_ble_eq_true rfl, Nat.le_of_ble_eq_true rfl⟩) hK hN hP rfl hl.1 rfl (Nat.le_of_ble_eq_true rfl) dX9_pair_3 ⟨Nat.le_refl _, Nat.le_refl _⟩ (fun r1 H locs hw hP => ?_)
  refine ft_cut (hw (∀ (H : Heap) (locs : List Loc) (ls : Array Slot), cC_P Γ s σ H locs → lv_has ls 4 [(0, .ref (Γ.2.2 0))] → cC_Wi p l e ({ frames := 5, cells := 0, slots := 0, locals := 126 } : Room) s m [.ref (Γ.2.2 0), .int a1, .int a2] below meth c Γ Φ H locs 16 ls []) (fun  hw H locs ls hP hl => ?_)) (fun hw => ?_)
  · refine lv_aload_n hx hb dX9_pair_16 rfl (lv_at hl 0 rfl) ?_
    refine lv_bipush (v := (-2)) hx hb dX9_pair_17 (by decide) ?_
    refine cC_Vi (rest := []) ⟨hx, hb, hml, hown, hts⟩ (c_X9_refuse l Γ hI (-2) σ _ hw) (cwV 1 hts gX9_pair_X9_refuse rfl rfl rfl (by decide +kernel) ⟨Nat.le_of_ble_eq_true rfl, Nat.le_of_ble_eq_true rfl⟩) hK hN hP (cC_lt hC_0 (by decide)) (cC_E9 hC_0) rfl rfl rfl hl.1 rfl (Nat.le_of_ble_eq_true rfl) dX9_pair_19 ⟨Nat.le_refl _, Nat.le_refl _⟩ (fun r3 s4 H locs hw hP => ?_)
    exact W.iret hx hb hr (cC_ri hP hw) hP.2.2.2 dX9_pair_22
  · refine lv_if_eq (tgt := 16) hx hb dX9_pair_6 (by decide) (fun h => ?_) (fun h => ?_)
    · replace hw := hw.1 h
      exact hw _ _ _ hP (lv_sub hl [0] rfl)
    · replace hw := hw.2 h
      refine lv_iload_n hx hb dX9_pair_9 rfl (lv_at hl 2 rfl) ?_
      refine cC_Sip (rest := []) ⟨hx, hb, hml, hown, hts⟩ (c_X9_isPlace l Γ hI a2 σ _ hw) (va_cwS 1 hts gX9_pair_X9_isPlace rfl rfl rfl (by decide +kernel) ⟨Nat.le_of_ble_eq_true rfl, Nat.le_of_ble_eq_true rfl⟩) hK hN hP rfl hl.1 rfl (Nat.le_of_ble_eq_true rfl) dX9_pair_10 ⟨Nat.le_refl _, Nat.le_refl _⟩ (fun r5 H locs hw hP => ?_)
      refine lv_if_ne (tgt := 23) hx hb dX9_pair_13 (by decide) (fun h => ?_) (fun h => ?_)
      · replace hw := hw.1 h
        refine lv_aload_n hx hb dX9_pair_23 rfl (lv_at hl 0 rfl) ?_
        refine cC_Vr (rest := []) ⟨hx, hb, hml, hown, hts⟩ (c_X9_foundTwins l Γ hI  σ _ hw) (cwV 0 hts gX9_pair_X9_foundTwins rfl rfl rfl (by decide +kernel) ⟨Nat.le_of_ble_eq_true rfl, Nat.le_of_ble_eq_true rfl⟩) hK hN hP (cC_lt hC_0 (by decide)) (cC_E9 hC_0) rfl rfl rfl hl.1 rfl (Nat.le_of_ble_eq_true rfl) dX9_pair_24 ⟨Nat.le_refl _, Nat.le_refl _⟩ (fun s6 H locs hw hP => ?_)
        refine lv_astore_n (lv' := [(3, .ref (Γ.2.2 59)), (0, .ref (Γ.2.2 0)), (1, .int a1), (2, .int a2)]) hx hb dX9_pair_27 rfl hl (by decide) rfl (fun ls hl => ?_)
        refine lv_aload_n hx hb dX9_pair_28 rfl (lv_at hl 0 rfl) ?_
        refine gC_6_3 hx hb hts i6 hown hK hP hC_59 (hts _ q_X9_pair_1) dX9_pair_29 ?_
        refine lv_iload_n hx hb dX9_pair_32 rfl (lv_at hl 2 rfl) ?_
        refine aC_ld hx hb hK hP hC_62 mC_62 hw.1 dX9_pair_33 ?_
        replace hw := hw.2
        refine lv_iload_n hx hb dX9_pair_34 rfl (lv_at hl 3 rfl) ?_
        refine lv_ishr hx hb dX9_pair_35 ?_
        refine lv_iconst (v := 1) hx hb dX9_pair_36 (by decide) ?_
        refine lv_iand hx hb dX9_pair_37 ?_
        refine lv_if_ne (tgt := 43) hx hb dX9_pair_38 (by decide) (fun h => ?_) (fun h => ?_)
        · replace hw := hw.1 h
          refine lv_iload_n hx hb dX9_pair_43 rfl (lv_at hl 2 rfl) ?_
          refine lv_bipush (v := 10) hx hb dX9_pair_44 (by decide) ?_
          refine ft_cut (hw (fun (s7 : ft_St) => ∀ (H : Heap) (locs : List Loc) (ls : Array Slot), cC_P Γ s s7 H locs → lv_has ls 4 [] → cC_Wi p l e ({ frames := 5, cells := 0, slots := 0, locals := 126 } : Room) s m [.ref (Γ.2.2 0), .int a1, .int a2] below meth c Γ Φ H locs 72 ls []) (fun s7 hw H locs ls hP hl => ?_)) (fun hw => ?_)
          · refine lv_iconst (v := 1) hx hb dX9_pair_72 (by decide) ?_
            exact W.iret hx hb hr (cC_ri hP hw) hP.2.2.2 dX9_pair_73
          · refine lv_icmp_lt (tgt := 72) hx hb dX9_pair_46 (by decide) (fun h => ?_) (fun h => ?_)
            · replace hw := hw.1 h
              exact hw _ _ _ hP (lv_sub hl [] rfl)
            · replace hw := hw.2 h
              refine lv_aload_n hx hb dX9_pair_49 rfl (lv_at hl 0 rfl) ?_
              refine lv_aload_n hx hb dX9_pair_50 rfl (lv_at hl 1 rfl) ?_
              refine gC_9_0 hx hb hts i9 hown hK hP hC_0 (hts _ q_X9_pair_2) dX9_pair_51 ?_
              refine gC_4_0 hx hb hts i4 hown hK hP hC_1 (hts _ q_X9_pair_3) dX9_pair_54 ?_
              refine lv_iload_n hx hb dX9_pair_57 rfl (lv_at hl 2 rfl) ?_
              refine lv_bipush (v := 10) hx hb dX9_pair_58 (by decide) ?_
              refine lv_isub hx hb dX9_pair_60 ?_
              refine lv_iload_n hx hb dX9_pair_61 rfl (lv_at hl 3 rfl) ?_
              refine cC_Vi (rest := []) ⟨hx, hb, hml, hown, hts⟩ (c_X6_isOfRing l Γ hI 59 hC_59 (a1 - 10) a2 s6 _ hw) (cwV 3 hts gX9_pair_X6_isOfRing rfl rfl rfl (by decide +kernel) ⟨Nat.le_of_ble_eq_true rfl, Nat.le_of_ble_eq_true rfl⟩) hK hN hP (cC_lt hC_59 (by decide)) (cC_E6 hC_59) rfl rfl rfl hl.1 rfl (Nat.le_of_ble_eq_true rfl) dX9_pair_62 ⟨Nat.le_refl _, Nat.le_refl _⟩ (fun r9 s10 H locs hw hP => ?_)
              refine lv_if_eq (tgt := 72) hx hb dX9_pair_65 (by decide) (fun h => ?_) (fun h => ?_)
              · replace hw := hw.1 h
                exact hw _ _ _ hP (lv_sub hl [] rfl)
              · replace hw := hw.2 h
                refine lv_iconst (v := 2) hx hb dX9_pair_68 (by decide) ?_
                refine lv_goto (tgt := 73) hx hb dX9_pair_69 (by decide) ?_
                exact W.iret hx hb hr (cC_ri hP hw) hP.2.2.2 dX9_pair_73
        · replace hw := hw.2 h
          refine lv_iconst (v := 0) hx hb dX9_pair_41 (by decide) ?_
          exact W.iret hx hb hr (cC_ri hP hw) hP.2.2.2 dX9_pair_42
      · replace hw := hw.2 h
        exact hw _ _ _ hP (lv_sub hl [0] rfl)
theorem q_X9_type_1 : (Cond.fieldLink RX9 50 "FaultTwins" "text" "LFaultTwins$Text;") ∈ wsX9_type := List.mem_of_getElem? (i := 1) (by decide +kernel)
theorem q_X9_type_2 : (Cond.fieldLink RX9 232 "FaultTwins$Text" "length" "I") ∈ wsX9_type := List.mem_of_getElem? (i := 2) (by decide +kernel)
theorem q_X9_type_3 : (Cond.fieldLink RX9 235 "FaultTwins$Text" "bytes" "[B") ∈ wsX9_type := List.mem_of_getElem? (i := 3) (by decide +kernel)
set_option maxHeartbeats 4000000 in
set_option maxRecDepth 100000 in
theorem c_X9_type (l : Launch) (Γ : ft_G) (hI : cC_I Γ) (a1 : Int32) (σ : ft_St) (Φ : Int32 → ft_St → Prop) (hw : w_X9_type a1 σ Φ) : cC_Mi l yX9_type wsX9_type ({ frames := 1, cells := 0, slots := 0, locals := 21 } : Room) Γ σ [.ref (Γ.2.2 0), .int a1] Φ := by
  refine Met.ofW (cc := cX9_type) (maxL := 2) (ret := (some .int)) (by decide) rfl ?_
  intro p e s m args below meth c s₁ B hml hv
  obtain ⟨rfl, hP, hK, hN⟩ := hv
  have hx := B.exec
  have hb := B.bytes
  have hr := B.returns
  have hts := atoms_spec (ws := wsX9_type) B.pre
  have hown : s.vm.findClass RX9 = some m.cls := findClass_of_methodNamed B.named
  have hlocks := B.notSynchronized
  have i5 : ∀ w ∈ wsX50, w ∈ wsX9_type := fun w h => List.mem_cons_of_mem _ (List.mem_append_right _ h)
  have i9 : ∀ w ∈ wsX90, w ∈ wsX9_type := fun w h => List.mem_cons_of_mem _ (List.mem_append_left _ (List.mem_append_right _ h))
  have hP : cC_P Γ s σ s.heap [] := ⟨hP, va_S.rf⟩
  have hl := lv_entry ([.ref (Γ.2.2 0), .int a1]) (n := 2) (Nat.le_of_ble_eq_true rfl)
  rw [lg_entry_eq]
  generalize (lg_sl ([.ref (Γ.2.2 0), .int a1]) ++ List.replicate (2 - (lg_sl ([.ref (Γ.2.2 0), .int a1])).length) Slot.unset).toArray = ls at hl ⊢
  have hl : lv_has ls 2 [(0, .ref (Γ.2.2 0)), (1, .int a1)] := hl
  unfold w_X9_type at hw
  refine lv_iload_n hx hb dX9_type_0 rfl (lv_at hl 1 rfl) ?_
  refine lv_bipush (v := 127) hx hb dX9_type_1 (by decide) ?_
  refine cC_Sip (rest := []) ⟨hx, hb, hml, hown, hts⟩ (c_X9_isWithin l Γ hI a1 127 σ _ hw) (va_cwS 2 hts gX9_type_X9_isWithin rfl rfl rfl (by decide +kernel) ⟨Nat.le_of_ble_eq_true rfl, Nat.le_of_ble_eq_true rfl⟩) hK hN hP rfl hl.1 rfl (Nat.le_of_ble_eq_true rfl) dX9_type_3 ⟨Nat.le_refl _, Nat.le_refl _⟩ (fun r1 H locs hw hP => ?_)
  refine lv_if_ne (tgt := 16) hx hb dX9_type_6 (by decide) (fun h => ?_) (fun h => ?_)
  · replace hw := hw.1 h
    refine lv_aload_n hx hb dX9_type_16 rfl (lv_at hl 0 rfl) ?_
    refine gC_9_6 hx hb hts i9 hown hK hP hC_0 (hts _ q_X9_type_1) dX9_type_17 ?_
    refine gC_5_1 hx hb hts i5 hown hK hP hC_73 (hts _ q_X9_type_2) dX9_type_20 ?_
    refine lv_bipush (v := 120) hx hb dX9_type_23 (by decide) ?_
    refine lv_icmp_lt (tgt := 35) hx hb dX9_type_25 (by decide) (fun h => ?_) (fun h => ?_)
    · replace hw := hw.1 h
      refine lv_aload_n hx hb dX9_type_35 rfl (lv_at hl 0 rfl) ?_
      refine gC_9_6 hx hb hts i9 hown hK hP hC_0 (hts _ q_X9_type_1) dX9_type_36 ?_
      refine gC_5_0 hx hb hts i5 hown hK hP hC_73 (hts _ q_X9_type_3) dX9_type_39 ?_
      refine lv_aload_n hx hb dX9_type_42 rfl (lv_at hl 0 rfl) ?_
      refine gC_9_6 hx hb hts i9 hown hK hP hC_0 (hts _ q_X9_type_1) dX9_type_43 ?_
      refine gC_5_1 hx hb hts i5 hown hK hP hC_73 (hts _ q_X9_type_2) dX9_type_46 ?_
      refine lv_iload_n hx hb dX9_type_49 rfl (lv_at hl 1 rfl) ?_
      refine lv_i2b hx hb dX9_type_50 rfl ?_
      refine aC_bst hx hb hK hI hP hC_74 mC_74 hw.1 dX9_type_51 (fun H locs hP => ?_)
      replace hw := hw.2
      obtain ⟨s2, hs2⟩ : ∃ u, u = ft_sA σ 74 (upd (σ.2.1 74) (Int32.toNatClampNeg (σ.1 73 1)) (vp_nar .byte ((a1.toInt8).toInt32))) := ⟨_, rfl⟩
      rw [← hs2] at hP
      replace hw := hw s2 hs2
      refine lv_aload_n hx hb dX9_type_52 rfl (lv_at hl 0 rfl) ?_
      refine gC_9_6 hx hb hts i9 hown hK hP hC_0 (hts _ q_X9_type_1) dX9_type_53 ?_
      refine lv_dup hx hb dX9_type_56 rfl ?_
      refine gC_5_1 hx hb hts i5 hown hK hP hC_73 (hts _ q_X9_type_2) dX9_type_57 ?_
      refine lv_iconst (v := 1) hx hb dX9_type_60 (by decide) ?_
      refine lv_iadd hx hb dX9_type_61 ?_
      refine pC_5_1 hx hb hts i5 hown hK hI hP hC_73 (hts _ q_X9_type_2) dX9_type_62 (fun H locs hP => ?_)
      obtain ⟨s3, hs3⟩ : ∃ u, u = ft_sF s2 73 1 ((s2.1 73 1) + 1) := ⟨_, rfl⟩
      rw [← hs3] at hP
      replace hw := hw s3 hs3
      refine lv_aload_n hx hb dX9_type_65 rfl (lv_at hl 0 rfl) ?_
      refine gC_9_6 hx hb hts i9 hown hK hP hC_0 (hts _ q_X9_type_1) dX9_type_66 ?_
      refine gC_5_1 hx hb hts i5 hown hK hP hC_73 (hts _ q_X9_type_2) dX9_type_69 ?_
      exact W.iret hx hb hr (cC_ri hP hw) hP.2.2.2 dX9_type_72
    · replace hw := hw.2 h
      refine lv_aload_n hx hb dX9_type_28 rfl (lv_at hl 0 rfl) ?_
      refine lv_bipush (v := (-4)) hx hb dX9_type_29 (by decide) ?_
      refine cC_Vi (rest := []) ⟨hx, hb, hml, hown, hts⟩ (c_X9_refuse l Γ hI (-4) σ _ hw) (cwV 1 hts gX9_type_X9_refuse rfl rfl rfl (by decide +kernel) ⟨Nat.le_of_ble_eq_true rfl, Nat.le_of_ble_eq_true rfl⟩) hK hN hP (cC_lt hC_0 (by decide)) (cC_E9 hC_0) rfl rfl rfl hl.1 rfl (Nat.le_of_ble_eq_true rfl) dX9_type_31 ⟨Nat.le_refl _, Nat.le_refl _⟩ (fun r4 s5 H locs hw hP => ?_)
      exact W.iret hx hb hr (cC_ri hP hw) hP.2.2.2 dX9_type_34
  · replace hw := hw.2 h
    refine lv_aload_n hx hb dX9_type_9 rfl (lv_at hl 0 rfl) ?_
    refine lv_bipush (v := (-2)) hx hb dX9_type_10 (by decide) ?_
    refine cC_Vi (rest := []) ⟨hx, hb, hml, hown, hts⟩ (c_X9_refuse l Γ hI (-2) σ _ hw) (cwV 1 hts gX9_type_X9_refuse rfl rfl rfl (by decide +kernel) ⟨Nat.le_of_ble_eq_true rfl, Nat.le_of_ble_eq_true rfl⟩) hK hN hP (cC_lt hC_0 (by decide)) (cC_E9 hC_0) rfl rfl rfl hl.1 rfl (Nat.le_of_ble_eq_true rfl) dX9_type_12 ⟨Nat.le_refl _, Nat.le_refl _⟩ (fun r6 s7 H locs hw hP => ?_)
    exact W.iret hx hb hr (cC_ri hP hw) hP.2.2.2 dX9_type_15
theorem q_X9_clear_1 : (Cond.fieldLink RX9 50 "FaultTwins" "text" "LFaultTwins$Text;") ∈ wsX9_clear := List.mem_of_getElem? (i := 1) (by decide +kernel)
theorem q_X9_clear_2 : (Cond.fieldLink RX9 232 "FaultTwins$Text" "length" "I") ∈ wsX9_clear := List.mem_of_getElem? (i := 2) (by decide +kernel)
set_option maxHeartbeats 4000000 in
set_option maxRecDepth 100000 in
theorem c_X9_clear (l : Launch) (Γ : ft_G) (hI : cC_I Γ)  (σ : ft_St) (Φ : Int32 → ft_St → Prop) (hw : w_X9_clear  σ Φ) : cC_Mi l yX9_clear wsX9_clear ({ frames := 0, cells := 0, slots := 0, locals := 0 } : Room) Γ σ [.ref (Γ.2.2 0)] Φ := by
  refine Met.ofW (cc := cX9_clear) (maxL := 2) (ret := (some .int)) (by decide) rfl ?_
  intro p e s m args below meth c s₁ B hml hv
  obtain ⟨rfl, hP, hK, hN⟩ := hv
  have hx := B.exec
  have hb := B.bytes
  have hr := B.returns
  have hts := atoms_spec (ws := wsX9_clear) B.pre
  have hown : s.vm.findClass RX9 = some m.cls := findClass_of_methodNamed B.named
  have hlocks := B.notSynchronized
  have i5 : ∀ w ∈ wsX50, w ∈ wsX9_clear := fun w h => List.mem_cons_of_mem _ (List.mem_append_right _ h)
  have i9 : ∀ w ∈ wsX90, w ∈ wsX9_clear := fun w h => List.mem_cons_of_mem _ (List.mem_append_left _ (List.mem_append_right _ h))
  have hP : cC_P Γ s σ s.heap [] := ⟨hP, va_S.rf⟩
  have hl := lv_entry ([.ref (Γ.2.2 0)]) (n := 2) (Nat.le_of_ble_eq_true rfl)
  rw [lg_entry_eq]
  generalize (lg_sl ([.ref (Γ.2.2 0)]) ++ List.replicate (2 - (lg_sl ([.ref (Γ.2.2 0)])).length) Slot.unset).toArray = ls at hl ⊢
  have hl : lv_has ls 2 [(0, .ref (Γ.2.2 0))] := hl
  unfold w_X9_clear at hw
  refine lv_aload_n hx hb dX9_clear_0 rfl (lv_at hl 0 rfl) ?_
  refine gC_9_6 hx hb hts i9 hown hK hP hC_0 (hts _ q_X9_clear_1) dX9_clear_1 ?_
  refine gC_5_1 hx hb hts i5 hown hK hP hC_73 (hts _ q_X9_clear_2) dX9_clear_4 ?_
  refine lv_istore_n (lv' := [(1, .int (σ.1 73 1)), (0, .ref (Γ.2.2 0))]) hx hb dX9_clear_7 rfl hl (by decide) rfl (fun ls hl => ?_)
  refine lv_aload_n hx hb dX9_clear_8 rfl (lv_at hl 1 rfl) ?_
  refine gC_9_6 hx hb hts i9 hown hK hP hC_0 (hts _ q_X9_clear_1) dX9_clear_9 ?_
  refine lv_iconst (v := 0) hx hb dX9_clear_12 (by decide) ?_
  refine pC_5_1 hx hb hts i5 hown hK hI hP hC_73 (hts _ q_X9_clear_2) dX9_clear_13 (fun H locs hP => ?_)
  obtain ⟨s1, hs1⟩ : ∃ u, u = ft_sF σ 73 1 0 := ⟨_, rfl⟩
  rw [← hs1] at hP
  replace hw := hw s1 hs1
  refine lv_iload_n hx hb dX9_clear_16 rfl (lv_at hl 0 rfl) ?_
  exact W.iret hx hb hr (cC_ri hP hw) hP.2.2.2 dX9_clear_17
theorem q_X9_reads_1 : (Cond.fieldLink RX9 57 "FaultTwins" "reader" "LFaultTwins$Reader;") ∈ wsX9_reads := List.mem_of_getElem? (i := 1) (by decide +kernel)
theorem q_X9_reads_2 : (Cond.fieldLink RX9 50 "FaultTwins" "text" "LFaultTwins$Text;") ∈ wsX9_reads := List.mem_of_getElem? (i := 2) (by decide +kernel)
theorem q_X9_reads_3 : (Cond.fieldLink RX9 12 "FaultTwins" "now" "LFaultTwins$State;") ∈ wsX9_reads := List.mem_of_getElem? (i := 3) (by decide +kernel)
theorem q_X9_reads_4 : (Cond.fieldLink RX9 75 "FaultTwins$State" "machine" "LFaultTwins$Machine;") ∈ wsX9_reads := List.mem_of_getElem? (i := 4) (by decide +kernel)
theorem q_X9_reads_5 : (Cond.fieldLink RX9 19 "FaultTwins" "history" "LFaultTwins$History;") ∈ wsX9_reads := List.mem_of_getElem? (i := 5) (by decide +kernel)
theorem q_X9_reads_6 : (Cond.fieldLink RX9 243 "FaultTwins$Reader" "draft" "LFaultTwins$Machine;") ∈ wsX9_reads := List.mem_of_getElem? (i := 6) (by decide +kernel)
set_option maxHeartbeats 4000000 in
set_option maxRecDepth 100000 in
theorem c_X9_reads (l : Launch) (Γ : ft_G) (hI : cC_I Γ)  (σ : ft_St) (Φ : Int32 → ft_St → Prop) (hw : w_X9_reads  σ Φ) : cC_Mi l yX9_reads wsX9_reads ({ frames := 6, cells := 0, slots := 0, locals := 132 } : Room) Γ σ [.ref (Γ.2.2 0)] Φ := by
  refine Met.ofW (cc := cX9_reads) (maxL := 2) (ret := (some .int)) (by decide) rfl ?_
  intro p e s m args below meth c s₁ B hml hv
  obtain ⟨rfl, hP, hK, hN⟩ := hv
  have hx := B.exec
  have hb := B.bytes
  have hr := B.returns
  have hts := atoms_spec (ws := wsX9_reads) B.pre
  have hown : s.vm.findClass RX9 = some m.cls := findClass_of_methodNamed B.named
  have hlocks := B.notSynchronized
  have i2 : ∀ w ∈ wsX20, w ∈ wsX9_reads := fun w h => List.mem_cons_of_mem _ (List.mem_append_left _ (List.mem_append_left _ (List.mem_append_left _ (List.mem_append_left _ (List.mem_append_left _ (List.mem_append_right _ h))))))
  have i4 : ∀ w ∈ wsX40, w ∈ wsX9_reads := fun w h => List.mem_cons_of_mem _ (List.mem_append_left _ (List.mem_append_left _ (List.mem_append_left _ (List.mem_append_left _ (List.mem_append_left _ (List.mem_append_left _ (List.mem_append_right _ h)))))))
  have i9 : ∀ w ∈ wsX90, w ∈ wsX9_reads := fun w h => List.mem_cons_of_mem _ (List.mem_append_left _ (List.mem_append_left _ (List.mem_append_left _ (List.mem_append_left _ (List.mem_append_left _ (List.mem_append_left _ (List.mem_append_left _ (List.mem_append_right _ h))))))))
  have hP : cC_P Γ s σ s.heap [] := ⟨hP, va_S.rf⟩
  have hl := lv_entry ([.ref (Γ.2.2 0)]) (n := 2) (Nat.le_of_ble_eq_true rfl)
  rw [lg_entry_eq]
  generalize (lg_sl ([.ref (Γ.2.2 0)]) ++ List.replicate (2 - (lg_sl ([.ref (Γ.2.2 0)])).length) Slot.unset).toArray = ls at hl ⊢
  have hl : lv_has ls 2 [(0, .ref (Γ.2.2 0))] := hl
  unfold w_X9_reads at hw
  refine lv_aload_n hx hb dX9_reads_0 rfl (lv_at hl 0 rfl) ?_
  refine gC_9_7 hx hb hts i9 hown hK hP hC_0 (hts _ q_X9_reads_1) dX9_reads_1 ?_
  refine lv_aload_n hx hb dX9_reads_4 rfl (lv_at hl 0 rfl) ?_
  refine gC_9_6 hx hb hts i9 hown hK hP hC_0 (hts _ q_X9_reads_2) dX9_reads_5 ?_
  refine lv_aload_n hx hb dX9_reads_8 rfl (lv_at hl 0 rfl) ?_
  refine gC_9_0 hx hb hts i9 hown hK hP hC_0 (hts _ q_X9_reads_3) dX9_reads_9 ?_
  refine gC_4_0 hx hb hts i4 hown hK hP hC_1 (hts _ q_X9_reads_4) dX9_reads_12 ?_
  refine cC_Vi (rest := []) ⟨hx, hb, hml, hown, hts⟩ (c_X2_follow l Γ hI 75 hC_75 73 hC_73 2 hC_2 σ _ hw) (cwV 2 hts gX9_reads_X2_follow rfl rfl rfl (by decide +kernel) ⟨Nat.le_of_ble_eq_true rfl, Nat.le_of_ble_eq_true rfl⟩) hK hN hP (cC_lt hC_75 (by decide)) (cC_E2 hC_75) rfl rfl rfl hl.1 rfl (Nat.le_of_ble_eq_true rfl) dX9_reads_15 ⟨Nat.le_refl _, Nat.le_refl _⟩ (fun r1 s2 H locs hw hP => ?_)
  refine lv_istore_n (lv' := [(1, .int r1), (0, .ref (Γ.2.2 0))]) hx hb dX9_reads_18 rfl hl (by decide) rfl (fun ls hl => ?_)
  refine lv_iload_n hx hb dX9_reads_19 rfl (lv_at hl 0 rfl) ?_
  refine lv_if_ge (tgt := 25) hx hb dX9_reads_20 (by decide) (fun h => ?_) (fun h => ?_)
  · replace hw := hw.1 h
    refine lv_aload_n hx hb dX9_reads_25 rfl (lv_at hl 1 rfl) ?_
    refine gC_9_1 hx hb hts i9 hown hK hP hC_0 (hts _ q_X9_reads_5) dX9_reads_26 ?_
    refine lv_aload_n hx hb dX9_reads_29 rfl (lv_at hl 1 rfl) ?_
    refine gC_9_0 hx hb hts i9 hown hK hP hC_0 (hts _ q_X9_reads_3) dX9_reads_30 ?_
    refine cC_Vv (rest := []) ⟨hx, hb, hml, hown, hts⟩ (c_X0_keep l Γ hI 8 hC_8 1 hC_1 s2 _ hw) (cwV 1 hts gX9_reads_X0_keep rfl rfl rfl (by decide +kernel) ⟨Nat.le_of_ble_eq_true rfl, Nat.le_of_ble_eq_true rfl⟩) hK hN hP (cC_lt hC_8 (by decide)) (cC_E0 hC_8) rfl rfl rfl hl.1 rfl (Nat.le_of_ble_eq_true rfl) dX9_reads_33 ⟨Nat.le_refl _, Nat.le_refl _⟩ (fun s3 H locs hw hP => ?_)
    refine lv_aload_n hx hb dX9_reads_36 rfl (lv_at hl 1 rfl) ?_
    refine gC_9_0 hx hb hts i9 hown hK hP hC_0 (hts _ q_X9_reads_3) dX9_reads_37 ?_
    refine gC_4_0 hx hb hts i4 hown hK hP hC_1 (hts _ q_X9_reads_4) dX9_reads_40 ?_
    refine lv_aload_n hx hb dX9_reads_43 rfl (lv_at hl 1 rfl) ?_
    refine gC_9_7 hx hb hts i9 hown hK hP hC_0 (hts _ q_X9_reads_1) dX9_reads_44 ?_
    refine gC_2_0 hx hb hts i2 hown hK hP hC_75 (hts _ q_X9_reads_6) dX9_reads_47 ?_
    refine cC_Vv (rest := []) ⟨hx, hb, hml, hown, hts⟩ (c_X1_take l Γ hI 2 hC_2 76 hC_76 s3 _ hw) (cwV 1 hts gX9_reads_X1_take rfl rfl rfl (by decide +kernel) ⟨Nat.le_of_ble_eq_true rfl, Nat.le_of_ble_eq_true rfl⟩) hK hN hP (cC_lt hC_2 (by decide)) (cC_E1 hC_2) rfl rfl rfl hl.1 rfl (Nat.le_of_ble_eq_true rfl) dX9_reads_50 ⟨Nat.le_refl _, Nat.le_refl _⟩ (fun s4 H locs hw hP => ?_)
    refine lv_aload_n hx hb dX9_reads_53 rfl (lv_at hl 1 rfl) ?_
    refine cC_Vv (rest := []) ⟨hx, hb, hml, hown, hts⟩ (c_X9_beginAnew l Γ hI  s4 _ hw) (cwV 0 hts gX9_reads_X9_beginAnew rfl rfl rfl (by decide +kernel) ⟨Nat.le_of_ble_eq_true rfl, Nat.le_of_ble_eq_true rfl⟩) hK hN hP (cC_lt hC_0 (by decide)) (cC_E9 hC_0) rfl rfl rfl hl.1 rfl (Nat.le_of_ble_eq_true rfl) dX9_reads_54 ⟨Nat.le_refl _, Nat.le_refl _⟩ (fun s5 H locs hw hP => ?_)
    refine lv_iload_n hx hb dX9_reads_57 rfl (lv_at hl 0 rfl) ?_
    exact W.iret hx hb hr (cC_ri hP hw) hP.2.2.2 dX9_reads_58
  · replace hw := hw.2 h
    refine lv_iload_n hx hb dX9_reads_23 rfl (lv_at hl 0 rfl) ?_
    exact W.iret hx hb hr (cC_ri hP hw) hP.2.2.2 dX9_reads_24
theorem q_X9_back_1 : (Cond.fieldLink RX9 19 "FaultTwins" "history" "LFaultTwins$History;") ∈ wsX9_back := List.mem_of_getElem? (i := 1) (by decide +kernel)
theorem q_X9_back_2 : (Cond.fieldLink RX9 250 "FaultTwins$History" "count" "I") ∈ wsX9_back := List.mem_of_getElem? (i := 2) (by decide +kernel)
theorem q_X9_back_3 : (Cond.fieldLink RX9 12 "FaultTwins" "now" "LFaultTwins$State;") ∈ wsX9_back := List.mem_of_getElem? (i := 3) (by decide +kernel)
set_option maxHeartbeats 4000000 in
set_option maxRecDepth 100000 in
theorem c_X9_back (l : Launch) (Γ : ft_G) (hI : cC_I Γ)  (σ : ft_St) (Φ : Int32 → ft_St → Prop) (hw : w_X9_back  σ Φ) : cC_Mi l yX9_back wsX9_back ({ frames := 5, cells := 0, slots := 0, locals := 123 } : Room) Γ σ [.ref (Γ.2.2 0)] Φ := by
  refine Met.ofW (cc := cX9_back) (maxL := 1) (ret := (some .int)) (by decide) rfl ?_
  intro p e s m args below meth c s₁ B hml hv
  obtain ⟨rfl, hP, hK, hN⟩ := hv
  have hx := B.exec
  have hb := B.bytes
  have hr := B.returns
  have hts := atoms_spec (ws := wsX9_back) B.pre
  have hown : s.vm.findClass RX9 = some m.cls := findClass_of_methodNamed B.named
  have hlocks := B.notSynchronized
  have i0 : ∀ w ∈ wsX00, w ∈ wsX9_back := fun w h => List.mem_cons_of_mem _ (List.mem_append_left _ (List.mem_append_left _ (List.mem_append_left _ (List.mem_append_left _ (List.mem_append_right _ h)))))
  have i9 : ∀ w ∈ wsX90, w ∈ wsX9_back := fun w h => List.mem_cons_of_mem _ (List.mem_append_left _ (List.mem_append_left _ (List.mem_append_left _ (List.mem_append_left _ (List.mem_append_left _ (List.mem_append_right _ h))))))
  have hP : cC_P Γ s σ s.heap [] := ⟨hP, va_S.rf⟩
  have hl := lv_entry ([.ref (Γ.2.2 0)]) (n := 1) (Nat.le_of_ble_eq_true rfl)
  rw [lg_entry_eq]
  generalize (lg_sl ([.ref (Γ.2.2 0)]) ++ List.replicate (1 - (lg_sl ([.ref (Γ.2.2 0)])).length) Slot.unset).toArray = ls at hl ⊢
  have hl : lv_has ls 1 [(0, .ref (Γ.2.2 0))] := hl
  unfold w_X9_back at hw
  refine lv_aload_n hx hb dX9_back_0 rfl (lv_at hl 0 rfl) ?_
  refine gC_9_1 hx hb hts i9 hown hK hP hC_0 (hts _ q_X9_back_1) dX9_back_1 ?_
  refine gC_0_2 hx hb hts i0 hown hK hP hC_8 (hts _ q_X9_back_2) dX9_back_4 ?_
  refine lv_if_ne (tgt := 17) hx hb dX9_back_7 (by decide) (fun h => ?_) (fun h => ?_)
  · replace hw := hw.1 h
    refine lv_aload_n hx hb dX9_back_17 rfl (lv_at hl 0 rfl) ?_
    refine gC_9_1 hx hb hts i9 hown hK hP hC_0 (hts _ q_X9_back_1) dX9_back_18 ?_
    refine lv_aload_n hx hb dX9_back_21 rfl (lv_at hl 0 rfl) ?_
    refine gC_9_0 hx hb hts i9 hown hK hP hC_0 (hts _ q_X9_back_3) dX9_back_22 ?_
    refine cC_Vv (rest := []) ⟨hx, hb, hml, hown, hts⟩ (c_X0_giveBack l Γ hI 8 hC_8 1 hC_1 σ _ hw) (cwV 1 hts gX9_back_X0_giveBack rfl rfl rfl (by decide +kernel) ⟨Nat.le_of_ble_eq_true rfl, Nat.le_of_ble_eq_true rfl⟩) hK hN hP (cC_lt hC_8 (by decide)) (cC_E0 hC_8) rfl rfl rfl hl.1 rfl (Nat.le_of_ble_eq_true rfl) dX9_back_25 ⟨Nat.le_refl _, Nat.le_refl _⟩ (fun s1 H locs hw hP => ?_)
    refine lv_aload_n hx hb dX9_back_28 rfl (lv_at hl 0 rfl) ?_
    refine cC_Vv (rest := []) ⟨hx, hb, hml, hown, hts⟩ (c_X9_lookAnew l Γ hI  s1 _ hw) (cwV 0 hts gX9_back_X9_lookAnew rfl rfl rfl (by decide +kernel) ⟨Nat.le_of_ble_eq_true rfl, Nat.le_of_ble_eq_true rfl⟩) hK hN hP (cC_lt hC_0 (by decide)) (cC_E9 hC_0) rfl rfl rfl hl.1 rfl (Nat.le_of_ble_eq_true rfl) dX9_back_29 ⟨Nat.le_refl _, Nat.le_refl _⟩ (fun s2 H locs hw hP => ?_)
    refine lv_aload_n hx hb dX9_back_32 rfl (lv_at hl 0 rfl) ?_
    refine gC_9_1 hx hb hts i9 hown hK hP hC_0 (hts _ q_X9_back_1) dX9_back_33 ?_
    refine gC_0_2 hx hb hts i0 hown hK hP hC_8 (hts _ q_X9_back_2) dX9_back_36 ?_
    exact W.iret hx hb hr (cC_ri hP hw) hP.2.2.2 dX9_back_39
  · replace hw := hw.2 h
    refine lv_aload_n hx hb dX9_back_10 rfl (lv_at hl 0 rfl) ?_
    refine lv_bipush (v := (-3)) hx hb dX9_back_11 (by decide) ?_
    refine cC_Vi (rest := []) ⟨hx, hb, hml, hown, hts⟩ (c_X9_refuse l Γ hI (-3) σ _ hw) (cwV 1 hts gX9_back_X9_refuse rfl rfl rfl (by decide +kernel) ⟨Nat.le_of_ble_eq_true rfl, Nat.le_of_ble_eq_true rfl⟩) hK hN hP (cC_lt hC_0 (by decide)) (cC_E9 hC_0) rfl rfl rfl hl.1 rfl (Nat.le_of_ble_eq_true rfl) dX9_back_13 ⟨Nat.le_refl _, Nat.le_refl _⟩ (fun r3 s4 H locs hw hP => ?_)
    exact W.iret hx hb hr (cC_ri hP hw) hP.2.2.2 dX9_back_16
theorem q_X9_told_1 : (Cond.fieldLink RX9 257 "FaultTwins" "bads" "I") ∈ wsX9_told := List.mem_of_getElem? (i := 1) (by decide +kernel)
theorem q_X9_told_2 : (Cond.fieldLink RX9 260 "FaultTwins" "noes" "I") ∈ wsX9_told := List.mem_of_getElem? (i := 2) (by decide +kernel)
theorem q_X9_told_3 : (Cond.fieldLink RX9 263 "FaultTwins" "fulls" "I") ∈ wsX9_told := List.mem_of_getElem? (i := 3) (by decide +kernel)
theorem q_X9_told_4 : (Cond.fieldLink RX9 50 "FaultTwins" "text" "LFaultTwins$Text;") ∈ wsX9_told := List.mem_of_getElem? (i := 4) (by decide +kernel)
theorem q_X9_told_5 : (Cond.fieldLink RX9 232 "FaultTwins$Text" "length" "I") ∈ wsX9_told := List.mem_of_getElem? (i := 5) (by decide +kernel)
theorem q_X9_told_6 : (Cond.fieldLink RX9 12 "FaultTwins" "now" "LFaultTwins$State;") ∈ wsX9_told := List.mem_of_getElem? (i := 6) (by decide +kernel)
theorem q_X9_told_7 : (Cond.fieldLink RX9 75 "FaultTwins$State" "machine" "LFaultTwins$Machine;") ∈ wsX9_told := List.mem_of_getElem? (i := 7) (by decide +kernel)
theorem q_X9_told_8 : (Cond.fieldLink RX9 97 "FaultTwins$Machine" "ways" "I") ∈ wsX9_told := List.mem_of_getElem? (i := 8) (by decide +kernel)
theorem q_X9_told_9 : (Cond.fieldLink RX9 112 "FaultTwins$Machine" "seen" "I") ∈ wsX9_told := List.mem_of_getElem? (i := 9) (by decide +kernel)
theorem q_X9_told_10 : (Cond.fieldLink RX9 115 "FaultTwins$Machine" "faults" "I") ∈ wsX9_told := List.mem_of_getElem? (i := 10) (by decide +kernel)
theorem q_X9_told_11 : (Cond.fieldLink RX9 19 "FaultTwins" "history" "LFaultTwins$History;") ∈ wsX9_told := List.mem_of_getElem? (i := 11) (by decide +kernel)
theorem q_X9_told_12 : (Cond.fieldLink RX9 250 "FaultTwins$History" "count" "I") ∈ wsX9_told := List.mem_of_getElem? (i := 12) (by decide +kernel)
set_option maxHeartbeats 4000000 in
set_option maxRecDepth 100000 in
theorem c_X9_told (l : Launch) (Γ : ft_G) (hI : cC_I Γ) (a1 : Int32) (σ : ft_St) (Φ : Int32 → ft_St → Prop) (hw : w_X9_told a1 σ Φ) : cC_Mi l yX9_told wsX9_told ({ frames := 1, cells := 0, slots := 0, locals := 21 } : Room) Γ σ [.ref (Γ.2.2 0), .int a1] Φ := by
  refine Met.ofW (cc := cX9_told) (maxL := 2) (ret := (some .int)) (by decide) rfl ?_
  intro p e s m args below meth c s₁ B hml hv
  obtain ⟨rfl, hP, hK, hN⟩ := hv
  have hx := B.exec
  have hb := B.bytes
  have hr := B.returns
  have hts := atoms_spec (ws := wsX9_told) B.pre
  have hown : s.vm.findClass RX9 = some m.cls := findClass_of_methodNamed B.named
  have hlocks := B.notSynchronized
  have i0 : ∀ w ∈ wsX00, w ∈ wsX9_told := fun w h => List.mem_cons_of_mem _ (List.mem_append_right _ h)
  have i1 : ∀ w ∈ wsX10, w ∈ wsX9_told := fun w h => List.mem_cons_of_mem _ (List.mem_append_left _ (List.mem_append_right _ h))
  have i4 : ∀ w ∈ wsX40, w ∈ wsX9_told := fun w h => List.mem_cons_of_mem _ (List.mem_append_left _ (List.mem_append_left _ (List.mem_append_right _ h)))
  have i5 : ∀ w ∈ wsX50, w ∈ wsX9_told := fun w h => List.mem_cons_of_mem _ (List.mem_append_left _ (List.mem_append_left _ (List.mem_append_left _ (List.mem_append_right _ h))))
  have i9 : ∀ w ∈ wsX90, w ∈ wsX9_told := fun w h => List.mem_cons_of_mem _ (List.mem_append_left _ (List.mem_append_left _ (List.mem_append_left _ (List.mem_append_left _ (List.mem_append_right _ h)))))
  have hP : cC_P Γ s σ s.heap [] := ⟨hP, va_S.rf⟩
  have hl := lv_entry ([.ref (Γ.2.2 0), .int a1]) (n := 2) (Nat.le_of_ble_eq_true rfl)
  rw [lg_entry_eq]
  generalize (lg_sl ([.ref (Γ.2.2 0), .int a1]) ++ List.replicate (2 - (lg_sl ([.ref (Γ.2.2 0), .int a1])).length) Slot.unset).toArray = ls at hl ⊢
  have hl : lv_has ls 2 [(0, .ref (Γ.2.2 0)), (1, .int a1)] := hl
  unfold w_X9_told at hw
  refine lv_iload_n hx hb dX9_told_0 rfl (lv_at hl 1 rfl) ?_
  refine lv_bipush (v := 7) hx hb dX9_told_1 (by decide) ?_
  refine cC_Sip (rest := []) ⟨hx, hb, hml, hown, hts⟩ (c_X9_isWithin l Γ hI a1 7 σ _ hw) (va_cwS 2 hts gX9_told_X9_isWithin rfl rfl rfl (by decide +kernel) ⟨Nat.le_of_ble_eq_true rfl, Nat.le_of_ble_eq_true rfl⟩) hK hN hP rfl hl.1 rfl (Nat.le_of_ble_eq_true rfl) dX9_told_3 ⟨Nat.le_refl _, Nat.le_refl _⟩ (fun r1 H locs hw hP => ?_)
  refine lv_if_ne (tgt := 16) hx hb dX9_told_6 (by decide) (fun h => ?_) (fun h => ?_)
  · replace hw := hw.1 h
    refine lv_iload_n hx hb dX9_told_16 rfl (lv_at hl 1 rfl) ?_
    rcases ft_tab7 a1 with h | h | h | h | h | h | h | h
    · replace hw := hw.2.2.2.2.2.2.2 h
      refine lv_tableOut (tgt := 116) hx hb dX9_told_17 h (by decide) ?_
      refine lv_aload_n hx hb dX9_told_116 rfl (lv_at hl 0 rfl) ?_
      refine gC_9_1 hx hb hts i9 hown hK hP hC_0 (hts _ q_X9_told_11) dX9_told_117 ?_
      refine gC_0_2 hx hb hts i0 hown hK hP hC_8 (hts _ q_X9_told_12) dX9_told_120 ?_
      exact W.iret hx hb hr (cC_ri hP hw) hP.2.2.2 dX9_told_123
    · replace hw := hw.1 h
      refine lv_tableIn (off := 43) (tgt := 60) hx hb dX9_told_17 (by rw [h]; decide) (by rw [h]; decide) (by rw [h]; rfl) (by decide) ?_
      refine lv_aload_n hx hb dX9_told_60 rfl (lv_at hl 0 rfl) ?_
      refine gC_9_8 hx hb hts i9 hown hK hP hC_0 (hts _ q_X9_told_1) dX9_told_61 ?_
      exact W.iret hx hb hr (cC_ri hP hw) hP.2.2.2 dX9_told_64
    · replace hw := hw.2.1 h
      refine lv_tableIn (off := 48) (tgt := 65) hx hb dX9_told_17 (by rw [h]; decide) (by rw [h]; decide) (by rw [h]; rfl) (by decide) ?_
      refine lv_aload_n hx hb dX9_told_65 rfl (lv_at hl 0 rfl) ?_
      refine gC_9_9 hx hb hts i9 hown hK hP hC_0 (hts _ q_X9_told_2) dX9_told_66 ?_
      exact W.iret hx hb hr (cC_ri hP hw) hP.2.2.2 dX9_told_69
    · replace hw := hw.2.2.1 h
      refine lv_tableIn (off := 53) (tgt := 70) hx hb dX9_told_17 (by rw [h]; decide) (by rw [h]; decide) (by rw [h]; rfl) (by decide) ?_
      refine lv_aload_n hx hb dX9_told_70 rfl (lv_at hl 0 rfl) ?_
      refine gC_9_10 hx hb hts i9 hown hK hP hC_0 (hts _ q_X9_told_3) dX9_told_71 ?_
      exact W.iret hx hb hr (cC_ri hP hw) hP.2.2.2 dX9_told_74
    · replace hw := hw.2.2.2.1 h
      refine lv_tableIn (off := 58) (tgt := 75) hx hb dX9_told_17 (by rw [h]; decide) (by rw [h]; decide) (by rw [h]; rfl) (by decide) ?_
      refine lv_aload_n hx hb dX9_told_75 rfl (lv_at hl 0 rfl) ?_
      refine gC_9_6 hx hb hts i9 hown hK hP hC_0 (hts _ q_X9_told_4) dX9_told_76 ?_
      refine gC_5_1 hx hb hts i5 hown hK hP hC_73 (hts _ q_X9_told_5) dX9_told_79 ?_
      exact W.iret hx hb hr (cC_ri hP hw) hP.2.2.2 dX9_told_82
    · replace hw := hw.2.2.2.2.1 h
      refine lv_tableIn (off := 66) (tgt := 83) hx hb dX9_told_17 (by rw [h]; decide) (by rw [h]; decide) (by rw [h]; rfl) (by decide) ?_
      refine lv_aload_n hx hb dX9_told_83 rfl (lv_at hl 0 rfl) ?_
      refine gC_9_0 hx hb hts i9 hown hK hP hC_0 (hts _ q_X9_told_6) dX9_told_84 ?_
      refine gC_4_0 hx hb hts i4 hown hK hP hC_1 (hts _ q_X9_told_7) dX9_told_87 ?_
      refine gC_1_3 hx hb hts i1 hown hK hP hC_2 (hts _ q_X9_told_8) dX9_told_90 ?_
      exact W.iret hx hb hr (cC_ri hP hw) hP.2.2.2 dX9_told_93
    · replace hw := hw.2.2.2.2.2.1 h
      refine lv_tableIn (off := 77) (tgt := 94) hx hb dX9_told_17 (by rw [h]; decide) (by rw [h]; decide) (by rw [h]; rfl) (by decide) ?_
      refine lv_aload_n hx hb dX9_told_94 rfl (lv_at hl 0 rfl) ?_
      refine gC_9_0 hx hb hts i9 hown hK hP hC_0 (hts _ q_X9_told_6) dX9_told_95 ?_
      refine gC_4_0 hx hb hts i4 hown hK hP hC_1 (hts _ q_X9_told_7) dX9_told_98 ?_
      refine gC_1_4 hx hb hts i1 hown hK hP hC_2 (hts _ q_X9_told_9) dX9_told_101 ?_
      exact W.iret hx hb hr (cC_ri hP hw) hP.2.2.2 dX9_told_104
    · replace hw := hw.2.2.2.2.2.2.1 h
      refine lv_tableIn (off := 88) (tgt := 105) hx hb dX9_told_17 (by rw [h]; decide) (by rw [h]; decide) (by rw [h]; rfl) (by decide) ?_
      refine lv_aload_n hx hb dX9_told_105 rfl (lv_at hl 0 rfl) ?_
      refine gC_9_0 hx hb hts i9 hown hK hP hC_0 (hts _ q_X9_told_6) dX9_told_106 ?_
      refine gC_4_0 hx hb hts i4 hown hK hP hC_1 (hts _ q_X9_told_7) dX9_told_109 ?_
      refine gC_1_5 hx hb hts i1 hown hK hP hC_2 (hts _ q_X9_told_10) dX9_told_112 ?_
      exact W.iret hx hb hr (cC_ri hP hw) hP.2.2.2 dX9_told_115
  · replace hw := hw.2 h
    refine lv_aload_n hx hb dX9_told_9 rfl (lv_at hl 0 rfl) ?_
    refine lv_bipush (v := (-2)) hx hb dX9_told_10 (by decide) ?_
    refine cC_Vi (rest := []) ⟨hx, hb, hml, hown, hts⟩ (c_X9_refuse l Γ hI (-2) σ _ hw) (cwV 1 hts gX9_told_X9_refuse rfl rfl rfl (by decide +kernel) ⟨Nat.le_of_ble_eq_true rfl, Nat.le_of_ble_eq_true rfl⟩) hK hN hP (cC_lt hC_0 (by decide)) (cC_E9 hC_0) rfl rfl rfl hl.1 rfl (Nat.le_of_ble_eq_true rfl) dX9_told_12 ⟨Nat.le_refl _, Nat.le_refl _⟩ (fun r2 s3 H locs hw hP => ?_)
    exact W.iret hx hb hr (cC_ri hP hw) hP.2.2.2 dX9_told_15
theorem q_X9_digest_1 : (Cond.constantLong RX9 266 (2203)) ∈ wsX9_digest := List.mem_of_getElem? (i := 1) (by decide +kernel)
theorem q_X9_digest_2 : (Cond.constantLong RX9 268 (31)) ∈ wsX9_digest := List.mem_of_getElem? (i := 2) (by decide +kernel)
theorem q_X9_digest_3 : (Cond.fieldLink RX9 12 "FaultTwins" "now" "LFaultTwins$State;") ∈ wsX9_digest := List.mem_of_getElem? (i := 3) (by decide +kernel)
theorem q_X9_digest_4 : (Cond.fieldLink RX9 75 "FaultTwins$State" "machine" "LFaultTwins$Machine;") ∈ wsX9_digest := List.mem_of_getElem? (i := 4) (by decide +kernel)
theorem q_X9_digest_5 : (Cond.fieldLink RX9 97 "FaultTwins$Machine" "ways" "I") ∈ wsX9_digest := List.mem_of_getElem? (i := 5) (by decide +kernel)
set_option maxHeartbeats 4000000 in
set_option maxRecDepth 100000 in
theorem c_X9_digest (l : Launch) (Γ : ft_G) (hI : cC_I Γ)  (σ : ft_St) (Φ : Int64 → ft_St → Prop) (hw : w_X9_digest  σ Φ) : cC_Ml l yX9_digest wsX9_digest ({ frames := 6, cells := 0, slots := 0, locals := 148 } : Room) Γ σ [.ref (Γ.2.2 0)] Φ := by
  refine Met.ofW (cc := cX9_digest) (maxL := 5) (ret := (some .long)) (by decide) rfl ?_
  intro p e s m args below meth c s₁ B hml hv
  obtain ⟨rfl, hP, hK, hN⟩ := hv
  have hx := B.exec
  have hb := B.bytes
  have hr := B.returns
  have hts := atoms_spec (ws := wsX9_digest) B.pre
  have hown : s.vm.findClass RX9 = some m.cls := findClass_of_methodNamed B.named
  have hlocks := B.notSynchronized
  have i1 : ∀ w ∈ wsX10, w ∈ wsX9_digest := fun w h => List.mem_cons_of_mem _ (List.mem_append_left _ (List.mem_append_left _ (List.mem_append_left _ (List.mem_append_left _ (List.mem_append_left _ (List.mem_append_left _ (List.mem_append_right _ h)))))))
  have i4 : ∀ w ∈ wsX40, w ∈ wsX9_digest := fun w h => List.mem_cons_of_mem _ (List.mem_append_left _ (List.mem_append_left _ (List.mem_append_left _ (List.mem_append_left _ (List.mem_append_left _ (List.mem_append_left _ (List.mem_append_left _ (List.mem_append_right _ h))))))))
  have i9 : ∀ w ∈ wsX90, w ∈ wsX9_digest := fun w h => List.mem_cons_of_mem _ (List.mem_append_left _ (List.mem_append_left _ (List.mem_append_left _ (List.mem_append_left _ (List.mem_append_left _ (List.mem_append_left _ (List.mem_append_left _ (List.mem_append_left _ (List.mem_append_right _ h)))))))))
  have hP : cC_P Γ s σ s.heap [] := ⟨hP, va_S.rf⟩
  have hl := lv_entry ([.ref (Γ.2.2 0)]) (n := 5) (Nat.le_of_ble_eq_true rfl)
  rw [lg_entry_eq]
  generalize (lg_sl ([.ref (Γ.2.2 0)]) ++ List.replicate (5 - (lg_sl ([.ref (Γ.2.2 0)])).length) Slot.unset).toArray = ls at hl ⊢
  have hl : lv_has ls 5 [(0, .ref (Γ.2.2 0))] := hl
  unfold w_X9_digest at hw
  refine lv_ldc2 hx hb hown (hts _ q_X9_digest_1) dX9_digest_0 ?_
  refine lv_lstore_n (lv' := [(1, .long 2203), (0, .ref (Γ.2.2 0))]) hx hb dX9_digest_3 rfl hl (by decide) rfl (fun ls hl => ?_)
  refine lv_iconst (v := 0) hx hb dX9_digest_4 (by decide) ?_
  refine lv_istore_n (lv' := [(3, .int 0), (1, .long 2203), (0, .ref (Γ.2.2 0))]) hx hb dX9_digest_5 rfl hl (by decide) rfl (fun ls hl => ?_)
  refine hw (fun (y1 : Int64) (x2 : Int32) (s3 : ft_St) => ∀ (H : Heap) (locs : List Loc) (ls : Array Slot), cC_P Γ s s3 H locs → lv_has ls 5 [(0, .ref (Γ.2.2 0)), (1, .long y1), (3, .int x2)] → cC_Wl p l e ({ frames := 6, cells := 0, slots := 0, locals := 148 } : Room) s m [.ref (Γ.2.2 0)] below meth c Γ Φ H locs 6 ls []) (fun y1 x2 s3 hw H locs ls hP hl => ?_) _ _ _ hP (lv_sub hl [2, 1, 0] rfl)
  refine lv_iload_n hx hb dX9_digest_6 rfl (lv_at hl 2 rfl) ?_
  refine lv_bipush (v := 7) hx hb dX9_digest_7 (by decide) ?_
  refine lv_icmp_gt (tgt := 31) hx hb dX9_digest_9 (by decide) (fun h => ?_) (fun h => ?_)
  · replace hw := hw.1 h
    refine lv_iconst (v := 0) hx hb dX9_digest_31 (by decide) ?_
    refine lv_istore_n (lv' := [(3, .int 0), (0, .ref (Γ.2.2 0)), (1, .long y1)]) hx hb dX9_digest_32 rfl hl (by decide) rfl (fun ls hl => ?_)
    refine hw (fun (y5 : Int64) (x6 : Int32) (s7 : ft_St) => ∀ (H : Heap) (locs : List Loc) (ls : Array Slot), cC_P Γ s s7 H locs → lv_has ls 5 [(0, .ref (Γ.2.2 0)), (1, .long y5), (3, .int x6)] → cC_Wl p l e ({ frames := 6, cells := 0, slots := 0, locals := 148 } : Room) s m [.ref (Γ.2.2 0)] below meth c Γ Φ H locs 33 ls []) (fun y5 x6 s7 hw H locs ls hP hl => ?_) _ _ _ hP (lv_sub hl [1, 2, 0] rfl)
    refine lv_iload_n hx hb dX9_digest_33 rfl (lv_at hl 2 rfl) ?_
    refine lv_aload_n hx hb dX9_digest_34 rfl (lv_at hl 0 rfl) ?_
    refine gC_9_0 hx hb hts i9 hown hK hP hC_0 (hts _ q_X9_digest_3) dX9_digest_35 ?_
    refine gC_4_0 hx hb hts i4 hown hK hP hC_1 (hts _ q_X9_digest_4) dX9_digest_38 ?_
    refine gC_1_3 hx hb hts i1 hown hK hP hC_2 (hts _ q_X9_digest_5) dX9_digest_41 ?_
    refine lv_icmp_ge (tgt := 83) hx hb dX9_digest_44 (by decide) (fun h => ?_) (fun h => ?_)
    · replace hw := hw.1 h
      refine lv_iconst (v := 0) hx hb dX9_digest_83 (by decide) ?_
      refine lv_istore_n (lv' := [(3, .int 0), (0, .ref (Γ.2.2 0)), (1, .long y5)]) hx hb dX9_digest_84 rfl hl (by decide) rfl (fun ls hl => ?_)
      refine hw (fun (y9 : Int64) (x10 : Int32) (s11 : ft_St) => ∀ (H : Heap) (locs : List Loc) (ls : Array Slot), cC_P Γ s s11 H locs → lv_has ls 5 [(0, .ref (Γ.2.2 0)), (1, .long y9), (3, .int x10)] → cC_Wl p l e ({ frames := 6, cells := 0, slots := 0, locals := 148 } : Room) s m [.ref (Γ.2.2 0)] below meth c Γ Φ H locs 85 ls []) (fun y9 x10 s11 hw H locs ls hP hl => ?_) _ _ _ hP (lv_sub hl [1, 2, 0] rfl)
      refine lv_iload_n hx hb dX9_digest_85 rfl (lv_at hl 2 rfl) ?_
      refine lv_iconst (v := 3) hx hb dX9_digest_86 (by decide) ?_
      refine lv_icmp_gt (tgt := 109) hx hb dX9_digest_87 (by decide) (fun h => ?_) (fun h => ?_)
      · replace hw := hw.1 h
        refine lv_ldc2 hx hb hown (hts _ q_X9_digest_2) dX9_digest_109 ?_
        refine lv_lload_n hx hb dX9_digest_112 rfl (lv_at hl 1 rfl) ?_
        refine lv_lmul hx hb dX9_digest_113 ?_
        refine lv_aload_n hx hb dX9_digest_114 rfl (lv_at hl 0 rfl) ?_
        refine lv_iconst (v := 0) hx hb dX9_digest_115 (by decide) ?_
        refine cC_Vi (rest := [.long (31 * y9)]) ⟨hx, hb, hml, hown, hts⟩ (c_X9_all l Γ hI 0 s11 _ hw) (cwV 1 hts gX9_digest_X9_all rfl rfl rfl (by decide +kernel) ⟨Nat.le_of_ble_eq_true rfl, Nat.le_of_ble_eq_true rfl⟩) hK hN hP (cC_lt hC_0 (by decide)) (cC_E9 hC_0) rfl rfl rfl hl.1 rfl (Nat.le_of_ble_eq_true rfl) dX9_digest_116 ⟨Nat.le_refl _, Nat.le_refl _⟩ (fun r13 s14 H locs hw hP => ?_)
        refine lv_i2l hx hb dX9_digest_119 rfl ?_
        refine lv_ladd hx hb dX9_digest_120 ?_
        refine lv_topl (fun y15 ey15 => ?_)
        replace hw := hw y15 ey15
        refine lv_lstore_n (lv' := [(1, .long y15), (0, .ref (Γ.2.2 0)), (3, .int x10)]) hx hb dX9_digest_121 rfl hl (by decide) rfl (fun ls hl => ?_)
        refine lv_ldc2 hx hb hown (hts _ q_X9_digest_2) dX9_digest_122 ?_
        refine lv_lload_n hx hb dX9_digest_125 rfl (lv_at hl 0 rfl) ?_
        refine lv_lmul hx hb dX9_digest_126 ?_
        refine lv_aload_n hx hb dX9_digest_127 rfl (lv_at hl 1 rfl) ?_
        refine lv_iconst (v := 4) hx hb dX9_digest_128 (by decide) ?_
        refine cC_Vi (rest := [.long (31 * y15)]) ⟨hx, hb, hml, hown, hts⟩ (c_X9_all l Γ hI 4 s14 _ hw) (cwV 1 hts gX9_digest_X9_all rfl rfl rfl (by decide +kernel) ⟨Nat.le_of_ble_eq_true rfl, Nat.le_of_ble_eq_true rfl⟩) hK hN hP (cC_lt hC_0 (by decide)) (cC_E9 hC_0) rfl rfl rfl hl.1 rfl (Nat.le_of_ble_eq_true rfl) dX9_digest_129 ⟨Nat.le_refl _, Nat.le_refl _⟩ (fun r16 s17 H locs hw hP => ?_)
        refine lv_i2l hx hb dX9_digest_132 rfl ?_
        refine lv_ladd hx hb dX9_digest_133 ?_
        refine lv_topl (fun y18 ey18 => ?_)
        replace hw := hw y18 ey18
        refine lv_lstore_n (lv' := [(1, .long y18), (0, .ref (Γ.2.2 0)), (3, .int x10)]) hx hb dX9_digest_134 rfl hl (by decide) rfl (fun ls hl => ?_)
        refine lv_ldc2 hx hb hown (hts _ q_X9_digest_2) dX9_digest_135 ?_
        refine lv_lload_n hx hb dX9_digest_138 rfl (lv_at hl 0 rfl) ?_
        refine lv_lmul hx hb dX9_digest_139 ?_
        refine lv_aload_n hx hb dX9_digest_140 rfl (lv_at hl 1 rfl) ?_
        refine lv_iconst (v := 5) hx hb dX9_digest_141 (by decide) ?_
        refine cC_Vi (rest := [.long (31 * y18)]) ⟨hx, hb, hml, hown, hts⟩ (c_X9_all l Γ hI 5 s17 _ hw) (cwV 1 hts gX9_digest_X9_all rfl rfl rfl (by decide +kernel) ⟨Nat.le_of_ble_eq_true rfl, Nat.le_of_ble_eq_true rfl⟩) hK hN hP (cC_lt hC_0 (by decide)) (cC_E9 hC_0) rfl rfl rfl hl.1 rfl (Nat.le_of_ble_eq_true rfl) dX9_digest_142 ⟨Nat.le_refl _, Nat.le_refl _⟩ (fun r19 s20 H locs hw hP => ?_)
        refine lv_i2l hx hb dX9_digest_145 rfl ?_
        refine lv_ladd hx hb dX9_digest_146 ?_
        refine lv_topl (fun y21 ey21 => ?_)
        replace hw := hw y21 ey21
        refine lv_lstore_n (lv' := [(1, .long y21), (0, .ref (Γ.2.2 0)), (3, .int x10)]) hx hb dX9_digest_147 rfl hl (by decide) rfl (fun ls hl => ?_)
        refine lv_ldc2 hx hb hown (hts _ q_X9_digest_2) dX9_digest_148 ?_
        refine lv_lload_n hx hb dX9_digest_151 rfl (lv_at hl 0 rfl) ?_
        refine lv_lmul hx hb dX9_digest_152 ?_
        refine lv_aload_n hx hb dX9_digest_153 rfl (lv_at hl 1 rfl) ?_
        refine lv_iconst (v := 0) hx hb dX9_digest_154 (by decide) ?_
        refine cC_Vi (rest := [.long (31 * y21)]) ⟨hx, hb, hml, hown, hts⟩ (c_X9_apart l Γ hI 0 s20 _ hw) (cwV 1 hts gX9_digest_X9_apart rfl rfl rfl (by decide +kernel) ⟨Nat.le_of_ble_eq_true rfl, Nat.le_of_ble_eq_true rfl⟩) hK hN hP (cC_lt hC_0 (by decide)) (cC_E9 hC_0) rfl rfl rfl hl.1 rfl (Nat.le_of_ble_eq_true rfl) dX9_digest_155 ⟨Nat.le_refl _, Nat.le_refl _⟩ (fun r22 s23 H locs hw hP => ?_)
        refine lv_i2l hx hb dX9_digest_158 rfl ?_
        refine lv_ladd hx hb dX9_digest_159 ?_
        refine lv_topl (fun y24 ey24 => ?_)
        replace hw := hw y24 ey24
        refine lv_lstore_n (lv' := [(1, .long y24), (0, .ref (Γ.2.2 0)), (3, .int x10)]) hx hb dX9_digest_160 rfl hl (by decide) rfl (fun ls hl => ?_)
        refine lv_ldc2 hx hb hown (hts _ q_X9_digest_2) dX9_digest_161 ?_
        refine lv_lload_n hx hb dX9_digest_164 rfl (lv_at hl 0 rfl) ?_
        refine lv_lmul hx hb dX9_digest_165 ?_
        refine lv_aload_n hx hb dX9_digest_166 rfl (lv_at hl 1 rfl) ?_
        refine lv_iconst (v := 1) hx hb dX9_digest_167 (by decide) ?_
        refine cC_Vi (rest := [.long (31 * y24)]) ⟨hx, hb, hml, hown, hts⟩ (c_X9_apart l Γ hI 1 s23 _ hw) (cwV 1 hts gX9_digest_X9_apart rfl rfl rfl (by decide +kernel) ⟨Nat.le_of_ble_eq_true rfl, Nat.le_of_ble_eq_true rfl⟩) hK hN hP (cC_lt hC_0 (by decide)) (cC_E9 hC_0) rfl rfl rfl hl.1 rfl (Nat.le_of_ble_eq_true rfl) dX9_digest_168 ⟨Nat.le_refl _, Nat.le_refl _⟩ (fun r25 s26 H locs hw hP => ?_)
        refine lv_i2l hx hb dX9_digest_171 rfl ?_
        refine lv_ladd hx hb dX9_digest_172 ?_
        exact W.lret hx hb hr (cC_rl hP hw) hP.2.2.2 dX9_digest_173
      · replace hw := hw.2 h
        refine lv_ldc2 hx hb hown (hts _ q_X9_digest_2) dX9_digest_90 ?_
        refine lv_lload_n hx hb dX9_digest_93 rfl (lv_at hl 1 rfl) ?_
        refine lv_lmul hx hb dX9_digest_94 ?_
        refine lv_aload_n hx hb dX9_digest_95 rfl (lv_at hl 0 rfl) ?_
        refine lv_iload_n hx hb dX9_digest_96 rfl (lv_at hl 2 rfl) ?_
        refine cC_Vi (rest := [.long (31 * y9)]) ⟨hx, hb, hml, hown, hts⟩ (c_X9_known l Γ hI x10 s11 _ hw) (cwV 1 hts gX9_digest_X9_known rfl rfl rfl (by decide +kernel) ⟨Nat.le_of_ble_eq_true rfl, Nat.le_of_ble_eq_true rfl⟩) hK hN hP (cC_lt hC_0 (by decide)) (cC_E9 hC_0) rfl rfl rfl hl.1 rfl (Nat.le_of_ble_eq_true rfl) dX9_digest_97 ⟨Nat.le_refl _, Nat.le_refl _⟩ (fun r27 s28 H locs hw hP => ?_)
        refine lv_i2l hx hb dX9_digest_100 rfl ?_
        refine lv_ladd hx hb dX9_digest_101 ?_
        refine lv_topl (fun y29 ey29 => ?_)
        replace hw := hw y29 ey29
        refine lv_lstore_n (lv' := [(1, .long y29), (0, .ref (Γ.2.2 0)), (3, .int x10)]) hx hb dX9_digest_102 rfl hl (by decide) rfl (fun ls hl => ?_)
        refine lv_iinc (v := x10 + 1) (lv' := [(3, .int (x10 + 1)), (1, .long y29), (0, .ref (Γ.2.2 0))]) hx hb dX9_digest_103 hl (k := 2) rfl (congrArg (fun z => x10 + z) (by decide)) (by decide) rfl (fun ls hl => ?_)
        refine lv_goto (tgt := 85) hx hb dX9_digest_106 (by decide) ?_
        exact hw _ _ _ hP (lv_sub hl [2, 1, 0] rfl)
    · replace hw := hw.2 h
      refine lv_iconst (v := 0) hx hb dX9_digest_47 (by decide) ?_
      refine lv_istore (lv' := [(4, .int 0), (0, .ref (Γ.2.2 0)), (1, .long y5), (3, .int x6)]) hx hb dX9_digest_48 hl (by decide) rfl (fun ls hl => ?_)
      refine hw (fun (y30 : Int64) (x31 : Int32) (s32 : ft_St) => ∀ (H : Heap) (locs : List Loc) (ls : Array Slot), cC_P Γ s s32 H locs → lv_has ls 5 [(0, .ref (Γ.2.2 0)), (1, .long y30), (3, .int x6), (4, .int x31)] → cC_Wl p l e ({ frames := 6, cells := 0, slots := 0, locals := 148 } : Room) s m [.ref (Γ.2.2 0)] below meth c Γ Φ H locs 50 ls []) (fun y30 x31 s32 hw H locs ls hP hl => ?_) _ _ _ hP (lv_sub hl [1, 2, 3, 0] rfl)
      refine lv_iload hx hb dX9_digest_50 (lv_at hl 3 rfl) ?_
      refine lv_iconst (v := 2) hx hb dX9_digest_52 (by decide) ?_
      refine lv_icmp_gt (tgt := 77) hx hb dX9_digest_53 (by decide) (fun h => ?_) (fun h => ?_)
      · replace hw := hw.1 h
        refine lv_iinc (v := x6 + 1) (lv' := [(3, .int (x6 + 1)), (0, .ref (Γ.2.2 0)), (1, .long y30), (4, .int x31)]) hx hb dX9_digest_77 hl (k := 2) rfl (congrArg (fun z => x6 + z) (by decide)) (by decide) rfl (fun ls hl => ?_)
        refine lv_goto (tgt := 33) hx hb dX9_digest_80 (by decide) ?_
        exact hw _ _ _ hP (lv_sub hl [1, 2, 0] rfl)
      · replace hw := hw.2 h
        refine lv_ldc2 hx hb hown (hts _ q_X9_digest_2) dX9_digest_56 ?_
        refine lv_lload_n hx hb dX9_digest_59 rfl (lv_at hl 1 rfl) ?_
        refine lv_lmul hx hb dX9_digest_60 ?_
        refine lv_aload_n hx hb dX9_digest_61 rfl (lv_at hl 0 rfl) ?_
        refine lv_iload_n hx hb dX9_digest_62 rfl (lv_at hl 2 rfl) ?_
        refine lv_iload hx hb dX9_digest_63 (lv_at hl 3 rfl) ?_
        refine cC_Vi (rest := [.long (31 * y30)]) ⟨hx, hb, hml, hown, hts⟩ (c_X9_of l Γ hI x6 x31 s32 _ hw) (cwV 2 hts gX9_digest_X9_of rfl rfl rfl (by decide +kernel) ⟨Nat.le_of_ble_eq_true rfl, Nat.le_of_ble_eq_true rfl⟩) hK hN hP (cC_lt hC_0 (by decide)) (cC_E9 hC_0) rfl rfl rfl hl.1 rfl (Nat.le_of_ble_eq_true rfl) dX9_digest_65 ⟨Nat.le_refl _, Nat.le_refl _⟩ (fun r34 s35 H locs hw hP => ?_)
        refine lv_i2l hx hb dX9_digest_68 rfl ?_
        refine lv_ladd hx hb dX9_digest_69 ?_
        refine lv_topl (fun y36 ey36 => ?_)
        replace hw := hw y36 ey36
        refine lv_lstore_n (lv' := [(1, .long y36), (0, .ref (Γ.2.2 0)), (3, .int x6), (4, .int x31)]) hx hb dX9_digest_70 rfl hl (by decide) rfl (fun ls hl => ?_)
        refine lv_iinc (v := x31 + 1) (lv' := [(4, .int (x31 + 1)), (1, .long y36), (0, .ref (Γ.2.2 0)), (3, .int x6)]) hx hb dX9_digest_71 hl (k := 3) rfl (congrArg (fun z => x31 + z) (by decide)) (by decide) rfl (fun ls hl => ?_)
        refine lv_goto (tgt := 50) hx hb dX9_digest_74 (by decide) ?_
        exact hw _ _ _ hP (lv_sub hl [2, 1, 3, 0] rfl)
  · replace hw := hw.2 h
    refine lv_ldc2 hx hb hown (hts _ q_X9_digest_2) dX9_digest_12 ?_
    refine lv_lload_n hx hb dX9_digest_15 rfl (lv_at hl 1 rfl) ?_
    refine lv_lmul hx hb dX9_digest_16 ?_
    refine lv_aload_n hx hb dX9_digest_17 rfl (lv_at hl 0 rfl) ?_
    refine lv_iload_n hx hb dX9_digest_18 rfl (lv_at hl 2 rfl) ?_
    refine cC_Vi (rest := [.long (31 * y1)]) ⟨hx, hb, hml, hown, hts⟩ (c_X9_told l Γ hI x2 s3 _ hw) (cwV 1 hts gX9_digest_X9_told rfl rfl rfl (by decide +kernel) ⟨Nat.le_of_ble_eq_true rfl, Nat.le_of_ble_eq_true rfl⟩) hK hN hP (cC_lt hC_0 (by decide)) (cC_E9 hC_0) rfl rfl rfl hl.1 rfl (Nat.le_of_ble_eq_true rfl) dX9_digest_19 ⟨Nat.le_refl _, Nat.le_refl _⟩ (fun r37 s38 H locs hw hP => ?_)
    refine lv_i2l hx hb dX9_digest_22 rfl ?_
    refine lv_ladd hx hb dX9_digest_23 ?_
    refine lv_topl (fun y39 ey39 => ?_)
    replace hw := hw y39 ey39
    refine lv_lstore_n (lv' := [(1, .long y39), (0, .ref (Γ.2.2 0)), (3, .int x2)]) hx hb dX9_digest_24 rfl hl (by decide) rfl (fun ls hl => ?_)
    refine lv_iinc (v := x2 + 1) (lv' := [(3, .int (x2 + 1)), (1, .long y39), (0, .ref (Γ.2.2 0))]) hx hb dX9_digest_25 hl (k := 2) rfl (congrArg (fun z => x2 + z) (by decide)) (by decide) rfl (fun ls hl => ?_)
    refine lv_goto (tgt := 6) hx hb dX9_digest_28 (by decide) ?_
    exact hw _ _ _ hP (lv_sub hl [2, 1, 0] rfl)
