theorem ft_tab23 (x : Int32) : (x.toInt < 0 ∨ 22 < x.toInt) ∨ ∃ k : Nat, k < 23 ∧ x = nI k := by
  by_cases h : x.toInt < 0 ∨ 22 < x.toInt
  · exact Or.inl h
  · right
    refine ⟨x.toInt.toNat, by omega, ft_tab_x x _ (by omega) (by omega)⟩
set_option maxHeartbeats 8000000 in
set_option maxRecDepth 100000 in
theorem law_loop {p : Program} {l : Launch} {e : Env} {s : State} {m : MethodId} {below : List Frame} {meth : Method} {c : Code} {b L : Nat} {xs : Nat → Int32} {D : va_G} {cs : ClassId × ClassId × ClassId × ClassId} {aC aR : Nat → Nat} (hL : L ≤ 2048) (E : LE p s m meth c b L xs D cs aC aR) : ∀ (n i : Nat) (x3 : Int32) (σC σR : ft_St) (H : Heap) (locs : List Loc) (ls : Array Slot), x3 = nI i → i ≤ 2052 → 2056 - i < n → SIM σC σR → LW s D cs aC aR σC σR H locs → lv_has ls 4 [(3, .int x3), (2, .ref (aR 0)), (1, .ref (aC 0)), (0, .ref b)] → W p l e room_1 s m #[Value.ref b] below meth c H locs 96 5813 (lw_Z below #[Value.ref b] s) (F0 m 18 ls []) := by
  intro n
  induction n with
  | zero => intro i x3 σC σR H locs ls _ _ h; exact absurd h (Nat.not_lt_zero _)
  | succ n ih =>
    intro i x3 σC σR H locs ls ex hi hn hsim hw hl
    obtain ⟨hx, hb, hr, hml, hown, hts, hX, hbl, hlocks, hK, hN, hIC, hIR, hC, hR, hne⟩ := id E
    have hbA : ¬ (fun q : Nat => s.heap.size ≤ q) b := Nat.not_le.mpr hbl
    have hS := hw.2.2
    refine lv_iload_n hx hb dL_law_18 rfl (lv_at hl 0 rfl) ?_
    refine lv_aload_n hx hb dL_law_19 rfl (lv_at hl 3 rfl) ?_
    refine va_slen hx hb hX hbl hbA hS dL_law_20 ?_
    refine lv_iconst (v := 4) hx hb dL_law_21 (by decide) ?_
    refine lv_isub hx hb dL_law_22 ?_
    refine lv_icmp_gt (tgt := 686) hx hb dL_law_23 (by decide) (fun _ => ?_) (fun h => ?_)
    · refine lv_iconst (v := 1) hx hb dL_law_686 (by decide) ?_
      refine va_forget (fun q hq => hS.2.2 q hq) ?_
      refine W.widen (k := 600000) (n := 7302250) (Nat.le_of_ble_eq_true rfl) (Nat.le_of_ble_eq_true rfl) ?_
      exact lw_ret hx hb hr hlocks dL_law_687
    · have h4 : i + 4 ≤ L := ft_len hL hi (by rw [← ex]; exact h)
      have h0 : vp_in x3 L := by rw [ex]; exact vp_in_nI (by omega) (by omega)
      have h1 : vp_in (x3 + 1) L := by rw [ex, show nI i + 1 = nI (i + 1) from nI_add i 1]; exact vp_in_nI (by omega) (by omega)
      have h2 : vp_in (x3 + 2) L := by rw [ex, show nI i + 2 = nI (i + 2) from nI_add i 2]; exact vp_in_nI (by omega) (by omega)
      have h3 : vp_in (x3 + 3) L := by rw [ex, show nI i + 3 = nI (i + 3) from nI_add i 3]; exact vp_in_nI (by omega) (by omega)
      have next : ∀ (σC σR : ft_St) (H : Heap) (locs : List Loc), SIM σC σR → LW s D cs aC aR σC σR H locs → W p l e room_1 s m #[Value.ref b] below meth c H locs 96 5813 (lw_Z below #[Value.ref b] s) (F0 m 680 ls []) := by
        intro σC σR H locs hsim hw
        refine lv_iinc (v := x3 + 4) (lv' := [(3, .int (x3 + 4)), (2, .ref (aR 0)), (1, .ref (aC 0)), (0, .ref b)]) hx hb dL_law_680 hl (k := 0) rfl rfl (by decide) rfl (fun ls hl => ?_)
        refine lv_goto (tgt := 18) hx hb dL_law_683 (by decide) ?_
        exact ih (i + 4) (x3 + 4) σC σR H locs ls (by rw [ex]; exact nI_add i 4) (by omega) (by omega) hsim hw hl
      refine lv_aload_n hx hb dL_law_26 rfl (lv_at hl 3 rfl) ?_
      refine lv_iload_n hx hb dL_law_27 rfl (lv_at hl 0 rfl) ?_
      refine va_sld hx hb hX hbl hbA hS h0 dL_law_28 ?_
      refine lv_bipush hx hb dL_law_29 (v := 31) (by decide) ?_
      refine lv_iand hx hb dL_law_31 ?_
      refine lv_topi (fun x _ => ?_)
      rcases ft_tab23 x with hx2 | ⟨k, hk, hxk⟩
      · exact lv_tableOut (tgt := 680) hx hb dL_law_32 hx2 (by decide) (next _ _ _ _ hsim hw)
      · have hkk : k = 0 ∨ k = 1 ∨ k = 2 ∨ k = 3 ∨ k = 4 ∨ k = 5 ∨ k = 6 ∨ k = 7 ∨ k = 8 ∨ k = 9 ∨ k = 10 ∨ k = 11 ∨ k = 12 ∨ k = 13 ∨ k = 14 ∨ k = 15 ∨ k = 16 ∨ k = 17 ∨ k = 18 ∨ k = 19 ∨ k = 20 ∨ k = 21 ∨ k = 22 := by omega
        rcases hkk with hkk | hkk | hkk | hkk | hkk | hkk | hkk | hkk | hkk | hkk | hkk | hkk | hkk | hkk | hkk | hkk | hkk | hkk | hkk | hkk | hkk | hkk | hkk
        · subst hkk; subst hxk; exact lv_tableIn (off := 108) (tgt := 140) hx hb dL_law_32 (by decide) (by decide) rfl (by decide) (lc_way E hsim hw h1 h2 h3 hl next)
        · subst hkk; subst hxk; exact lv_tableIn (off := 151) (tgt := 183) hx hb dL_law_32 (by decide) (by decide) rfl (by decide) (lc_drop E hsim hw h1 h2 h3 hl next)
        · subst hkk; subst hxk; exact lv_tableIn (off := 174) (tgt := 206) hx hb dL_law_32 (by decide) (by decide) rfl (by decide) (lc_deed E hsim hw h1 h2 h3 hl next)
        · subst hkk; subst hxk; exact lv_tableIn (off := 217) (tgt := 249) hx hb dL_law_32 (by decide) (by decide) rfl (by decide) (lc_draw E hsim hw h1 h2 h3 hl next)
        · subst hkk; subst hxk; exact lv_tableIn (off := 250) (tgt := 282) hx hb dL_law_32 (by decide) (by decide) rfl (by decide) (lc_anew E hsim hw h1 h2 h3 hl next)
        · subst hkk; subst hxk; exact lv_tableIn (off := 263) (tgt := 295) hx hb dL_law_32 (by decide) (by decide) rfl (by decide) (lc_of E hsim hw h1 h2 h3 hl next)
        · subst hkk; subst hxk; exact lv_tableIn (off := 296) (tgt := 328) hx hb dL_law_32 (by decide) (by decide) rfl (by decide) (lc_sees E hsim hw h1 h2 h3 hl next)
        · subst hkk; subst hxk; exact lv_tableIn (off := 319) (tgt := 351) hx hb dL_law_32 (by decide) (by decide) rfl (by decide) (lc_restarts E hsim hw h1 h2 h3 hl next)
        · subst hkk; subst hxk; exact lv_tableIn (off := 332) (tgt := 364) hx hb dL_law_32 (by decide) (by decide) rfl (by decide) (lc_known E hsim hw h1 h2 h3 hl next)
        · subst hkk; subst hxk; exact lv_tableIn (off := 355) (tgt := 387) hx hb dL_law_32 (by decide) (by decide) rfl (by decide) (lc_would E hsim hw h1 h2 h3 hl next)
        · subst hkk; subst hxk; exact lv_tableIn (off := 378) (tgt := 410) hx hb dL_law_32 (by decide) (by decide) rfl (by decide) (lc_sight E hsim hw h1 h2 h3 hl next)
        · subst hkk; subst hxk; exact lv_tableIn (off := 401) (tgt := 433) hx hb dL_law_32 (by decide) (by decide) rfl (by decide) (lc_all E hsim hw h1 h2 h3 hl next)
        · subst hkk; subst hxk; exact lv_tableIn (off := 424) (tgt := 456) hx hb dL_law_32 (by decide) (by decide) rfl (by decide) (lc_apart E hsim hw h1 h2 h3 hl next)
        · subst hkk; subst hxk; exact lv_tableIn (off := 447) (tgt := 479) hx hb dL_law_32 (by decide) (by decide) rfl (by decide) (lc_soonest E hsim hw h1 h2 h3 hl next)
        · subst hkk; subst hxk; exact lv_tableIn (off := 470) (tgt := 502) hx hb dL_law_32 (by decide) (by decide) rfl (by decide) (lc_enough E hsim hw h1 h2 h3 hl next)
        · subst hkk; subst hxk; exact lv_tableIn (off := 493) (tgt := 525) hx hb dL_law_32 (by decide) (by decide) rfl (by decide) (lc_fewest E hsim hw h1 h2 h3 hl next)
        · subst hkk; subst hxk; exact lv_tableIn (off := 516) (tgt := 548) hx hb dL_law_32 (by decide) (by decide) rfl (by decide) (lc_pair E hsim hw h1 h2 h3 hl next)
        · subst hkk; subst hxk; exact lv_tableIn (off := 549) (tgt := 581) hx hb dL_law_32 (by decide) (by decide) rfl (by decide) (lc_type E hsim hw h1 h2 h3 hl next)
        · subst hkk; subst hxk; exact lv_tableIn (off := 572) (tgt := 604) hx hb dL_law_32 (by decide) (by decide) rfl (by decide) (lc_clear E hsim hw h1 h2 h3 hl next)
        · subst hkk; subst hxk; exact lv_tableIn (off := 585) (tgt := 617) hx hb dL_law_32 (by decide) (by decide) rfl (by decide) (lc_reads E hsim hw h1 h2 h3 hl next)
        · subst hkk; subst hxk; exact lv_tableIn (off := 598) (tgt := 630) hx hb dL_law_32 (by decide) (by decide) rfl (by decide) (lc_back E hsim hw h1 h2 h3 hl next)
        · subst hkk; subst hxk; exact lv_tableIn (off := 611) (tgt := 643) hx hb dL_law_32 (by decide) (by decide) rfl (by decide) (lc_told E hsim hw h1 h2 h3 hl next)
        · subst hkk; subst hxk; exact lv_tableIn (off := 634) (tgt := 666) hx hb dL_law_32 (by decide) (by decide) rfl (by decide) (lc_digest E hsim hw h1 h2 h3 hl next)
