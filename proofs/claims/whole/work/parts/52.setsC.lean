/-! the class's sets: the slots -/
theorem slot_ix (x1 : Int32) {x : Nat} (hx : x < 2 ^ 31) : (x1 + nI x) &&& 1023 = nI ((x1.toBitVec.toNat + x) % 1024) := by
  apply Int32.toBitVec_inj.mp
  apply BitVec.eq_of_toNat_eq
  have e1 : (nI x).toBitVec.toNat = x := by
    show (BitVec.ofNat 32 x).toNat = x
    rw [BitVec.toNat_ofNat]; exact Nat.mod_eq_of_lt (by omega)
  have e2 : (nI ((x1.toBitVec.toNat + x) % 1024)).toBitVec.toNat = (x1.toBitVec.toNat + x) % 1024 := by
    show (BitVec.ofNat 32 _).toNat = _
    rw [BitVec.toNat_ofNat]; exact Nat.mod_eq_of_lt (by have := Nat.mod_lt (x1.toBitVec.toNat + x) (show 1024 > 0 by decide); omega)
  have e3 : (1023 : Int32).toBitVec.toNat = 2 ^ 10 - 1 := by decide
  rw [e2, Int32.toBitVec_and, BitVec.toNat_and, e3, Nat.and_two_pow_sub_one_eq_mod, Int32.toBitVec_add, BitVec.toNat_add, e1]
  omega
def hsh (s : Int32) : Int32 := ((s * (-1640531535)).toUInt32 >>> (Int32.toUInt32 22 &&& Int32.toUInt32 31)).toInt32
def hix (s : Int32) (x : Nat) : Nat := ((hsh s).toBitVec.toNat + x) % 1024
theorem hix_lt (s : Int32) (x : Nat) : hix s x < 1024 := Nat.mod_lt _ (by decide)
theorem hix_e (s : Int32) {x : Nat} (hx : x < 2 ^ 31) : (hsh s + nI x) &&& 1023 = nI (hix s x) := slot_ix _ hx
/-- the slots hold the sets by their numbers, each where it is looked for -/
def HT (T : Nat → Nat) (L : LL) : Prop := (∀ p, p < 1024 → T p ≤ L.1) ∧ (∀ p q, p < 1024 → q < 1024 → T p = T q → T p ≠ 0 → p = q) ∧ ∀ j, j < L.1 → ∃ x, x < 1024 ∧ T (hix (L.2.1 j) x) = j + 1 ∧ ∀ y, y < x → T (hix (L.2.1 j) y) ≠ 0
def RepLC (σ : ft_St) (L : LL) : Prop := L.1 ≤ 500 ∧ σ.1 55 3 = nI L.1 ∧ (∀ j, j < L.1 → σ.2.1 56 j = L.2.1 j ∧ σ.2.1 57 j = L.2.2 j)
def RepHT (σ : ft_St) (L : LL) : Prop := ∃ T : Nat → Nat, HT T L ∧ ∀ p, p < 1024 → σ.2.1 58 p = nI (T p)
def stc : Nat → Prop := fun a => 55 ≤ a ∧ a ≤ 58
theorem t_enter {σ : ft_St} {L : LL} {s d : Int32} {Φ : ft_St → Prop} (hs : s ≠ 0) (hL : RepLC σ L) (hH : RepHT σ L) (h : ∀ σ', RepLC σ' (entr L s d) → RepHT σ' (entr L s d) → FrC stc σ σ' → Φ σ') : w_X3_enter 55 s d σ Φ := by
  unfold w_X3_enter
  intro x1 hx1
  have hx1 : x1 = hsh s := hx1
  rw [hx1]
  obtain ⟨hn, e3, hr⟩ := id hL
  obtain ⟨T, ⟨T1, T2, T3⟩, hT⟩ := id hH
  have hcn : (nI L.1).toNatClampNeg = L.1 := nI_clamp (by omega)
  have h5 : (500 : Int32) ≤ σ.1 55 3 ↔ 500 ≤ L.1 := by rw [e3]; exact nI_leI (a := 500) (by decide) (by omega)
  have stay : entC L s → Φ σ := by
    intro y
    have := h σ
    rw [entr_t y] at this
    exact this hL hH (FrC.refl σ)
  refine LP1.rule (fun x2 => ∃ x, x2 = nI x ∧ x ≤ 1024 ∧ ∀ y, y < x → T (hix s y) ≠ 0 ∧ ¬ L.2.1 (T (hix s y) - 1) = s) (fun x2 => 1024 - x2.toNatClampNeg) ?_ ⟨0, rfl, by decide, fun y hy => absurd hy (Nat.not_lt_zero _)⟩
  rintro X3 x2 ⟨x, rfl, hx, hall⟩ ih
  have hcx : (nI x).toNatClampNeg = x := nI_clamp (by omega)
  have hle : (1024 : Int32) ≤ nI x ↔ 1024 ≤ x := nI_leI (a := 1024) (by decide) (by omega)
  refine ⟨fun y => ?_, fun y => ⟨fun w => stay (Or.inr (Or.inl (h5.mp w))), fun w => ?_⟩⟩
  · exfalso
    have e : x = 1024 := by have := hle.mp y; omega
    subst e
    obtain ⟨i, j, hij, hj, e⟩ := fb_twice (m := 500) (n := 1024) (f := fun i => T (hix s i) - 1) (fun i hi => by
      have a1 := (hall i hi).1
      have a2 := T1 (hix s i) (hix_lt s i)
      show T (hix s i) - 1 < 500
      omega) (by decide)
    have e : T (hix s i) - 1 = T (hix s j) - 1 := e
    have a1 := (hall i (by omega)).1
    have a2 := (hall j (by omega)).1
    have := T2 _ _ (hix_lt s i) (hix_lt s j) (by omega) a1
    unfold hix at this
    omega
  · have hl5 : L.1 < 500 := Nat.lt_of_not_le (fun z => w (h5.mpr z))
    have hltx : x < 1024 := Nat.lt_of_not_le (fun z => y (hle.mpr z))
    obtain ⟨p, hp⟩ : ∃ p, p = hix s x := ⟨_, rfl⟩
    have hpl : p < 1024 := by rw [hp]; exact hix_lt s x
    have hcp : (nI p).toNatClampNeg = p := nI_clamp (by omega)
    have hTp := T1 p hpl
    rw [hix_e s (by omega), ← hp, hcp, show (55 + 3 : Nat) = 58 from rfl, hT p hpl]
    have hinp : vp_in (nI p) 1024 := vp_in_nI hpl (by decide)
    have ez : nI (T p) = 0 ↔ T p = 0 := nI_eq (a := T p) (b := 0) (by omega) (by decide)
    refine ⟨hinp, fun z => ?_, fun z => ?_⟩
    · have z1 : T p ≠ 0 := fun q => z (ez.mpr q)
      have e1 : nI (T p) - 1 = nI (T p - 1) := nI_sub1 (by omega)
      rw [e1, nI_clamp (show T p - 1 < 2 ^ 31 by omega), show (55 + 1 : Nat) = 56 from rfl, (hr (T p - 1) (by omega)).1]
      refine ⟨hinp, vp_in_nI (by omega) (by decide), fun v => ih _ ⟨x + 1, nI_1 x, hltx, fun y' hy' => ?_⟩ (by rw [nI_1 x, nI_clamp (by omega), hcx]; omega), fun v => stay (Or.inr (Or.inr ⟨T p - 1, by omega, v⟩))⟩
      by_cases e : y' = x
      · rw [e, ← hp]; exact ⟨z1, v⟩
      · exact hall y' (by omega)
    · have z1 : T p = 0 := ez.mp z
      have hne : ¬ entC L s := by
        rintro (q | q | ⟨j, hj, q⟩)
        · exact hs q
        · omega
        · obtain ⟨x0, h0, h1, h2⟩ := T3 j hj
          rw [q] at h1 h2
          rcases Nat.lt_trichotomy x0 x with c | c | c
          · have := (hall x0 c).2
            rw [h1] at this
            exact this q
          · rw [c, ← hp] at h1; omega
          · have := h2 x c
            rw [← hp] at this
            exact this z1
      have hin : vp_in (nI L.1) 500 := vp_in_nI hl5 (by decide)
      rw [e3]
      refine ⟨hin, fun s4 h4 => ?_⟩
      have q4 : s4.1 = σ.1 := by rw [h4]; rfl
      rw [q4, e3]
      refine ⟨hin, fun s5 h5 s6 h6 => ⟨hinp, fun s7 h7 => ?_⟩⟩
      have q5 : s5.1 = σ.1 := by rw [h5]; exact q4
      rw [hcn] at h4 h5
      rw [q5, e3, nI_1 L.1] at h6
      have q6 : s6.1 55 3 = nI (L.1 + 1) := by rw [h6, sF_s]
      rw [q6] at h7
      have r6 : s6.2 = s5.2 := by rw [h6]; rfl
      rw [r6] at h7
      have a58 : s7.2.1 58 = upd (σ.2.1 58) p (nI (L.1 + 1)) := by
        rw [h7, sA_s, h5, h4]; rfl
      have a56 : s7.2.1 56 = upd (σ.2.1 56) L.1 s := by rw [h7, sA_n _ _ (by decide), r6, h5, h4]; rfl
      have a57 : s7.2.1 57 = upd (σ.2.1 57) L.1 d := by rw [h7, sA_n _ _ (by decide), r6, h5, h4]; rfl
      refine h s7 ?_ ?_ ?_
      · rw [entr_f hne]
        refine ⟨hl5, by rw [h7]; exact q6, fun j hj => ?_⟩
        have hj : j < L.1 + 1 := hj
        rw [a56, a57]
        show _ = va_up L.2.1 L.1 s j ∧ _ = va_up L.2.2 L.1 d j
        by_cases ej : j = L.1
        · rw [ej, upd_s, upd_s, up_s, up_s]; exact ⟨rfl, rfl⟩
        · rw [upd_n ej, upd_n ej, up_n ej, up_n ej]; exact hr j (by omega)
      · rw [entr_f hne]
        refine ⟨fun q => if q = p then L.1 + 1 else T q, ⟨fun q hq => ?_, fun q r hq hr' e ne => ?_, fun j hj => ?_⟩, fun q hq => ?_⟩
        · show (if q = p then L.1 + 1 else T q) ≤ L.1 + 1
          split
          · exact Nat.le_refl _
          · have := T1 q hq; omega
        · have e : (if q = p then L.1 + 1 else T q) = (if r = p then L.1 + 1 else T r) := e
          have ne : (if q = p then L.1 + 1 else T q) ≠ 0 := ne
          have t1 := T1 q hq
          have t2 := T1 r hr'
          by_cases c1 : q = p
          · by_cases c2 : r = p
            · rw [c1, c2]
            · rw [if_pos c1, if_neg c2] at e; omega
          · by_cases c2 : r = p
            · rw [if_neg c1, if_pos c2] at e; omega
            · rw [if_neg c1, if_neg c2] at e
              rw [if_neg c1] at ne
              exact T2 q r hq hr' e ne
        · have hj : j < L.1 + 1 := hj
          show ∃ x, x < 1024 ∧ (if hix (va_up L.2.1 L.1 s j) x = p then L.1 + 1 else T (hix (va_up L.2.1 L.1 s j) x)) = j + 1 ∧ ∀ y, y < x → (if hix (va_up L.2.1 L.1 s j) y = p then L.1 + 1 else T (hix (va_up L.2.1 L.1 s j) y)) ≠ 0
          by_cases ej : j = L.1
          · rw [ej, up_s]
            refine ⟨x, hltx, if_pos hp.symm, fun y' hy' => ?_⟩
            split
            · omega
            · exact (hall y' hy').1
          · rw [up_n ej]
            obtain ⟨x0, g0, g1, g2⟩ := T3 j (by omega)
            refine ⟨x0, g0, ?_, fun y' hy' => ?_⟩
            · rw [if_neg (fun c => by rw [c] at g1; omega)]; exact g1
            · split
              · omega
              · exact g2 y' hy'
        · rw [a58]
          show _ = nI (if q = p then L.1 + 1 else T q)
          by_cases c : q = p
          · rw [c, upd_s, if_pos rfl]
          · rw [upd_n c, if_neg c]; exact hT q hq
      · refine FrC.trans ?_ (h7 ▸ FrC.sA s6 _ (by unfold stc; decide))
        refine FrC.trans ?_ (h6 ▸ FrC.sF s5 _ _ (by unfold stc; decide))
        refine FrC.trans ?_ (h5 ▸ FrC.sA s4 _ (by unfold stc; decide))
        exact h4 ▸ FrC.sA σ _ (by unfold stc; decide)
theorem t_findS {σ : ft_St} {M : MM} {Φ : ft_St → Prop} (hok : MOk M) (hU : VwU M (σ.2.1 53)) (hB : VwB M (σ.2.1 54)) (h : ∀ σ', RepLC σ' (BFS M) → FrC stc σ σ' → Φ σ') : w_X3_find 55 52 σ Φ := by
  unfold w_X3_find
  refine t_fill (by decide) (fun g hg s2 h2 => ?_)
  have hg : ∀ j, j < 1024 → g j = 0 := hg
  have hF2 : FrC stc σ s2 := by
    refine FrC.trans (FrC.sA σ (k := 55 + 3) g (by unfold stc; decide)) ?_
    rw [h2]; exact FrC.sF _ _ _ (by unfold stc; decide)
  have hL2 : RepLC s2 (0, fun _ => 0, fun _ => 0) := ⟨Nat.zero_le _, by rw [h2, sF_s]; rfl, fun j hj => absurd hj (Nat.not_lt_zero _)⟩
  have hH2 : RepHT s2 (0, fun _ => 0, fun _ => 0) := ⟨fun _ => 0, ⟨fun _ _ => Nat.le_refl 0, fun _ _ _ _ _ ne => absurd rfl ne, fun j hj => absurd hj (Nat.not_lt_zero _)⟩, fun p hp => by
    rw [h2]; show g p = 0; exact hg p hp⟩
  have fr : ∀ {s}, FrC stc σ s → s.2.1 53 = σ.2.1 53 ∧ s.2.1 54 = σ.2.1 54 := fun {s} q => ⟨(q 53 (by unfold stc; decide)).2, (q 54 (by unfold stc; decide)).2⟩
  refine t_first hok (by rw [(fr hF2).1]; exact hU) (t_enter FST_ne hL2 hH2 (fun s4 hL4 hH4 hF4 => ?_))
  refine LP2.rule (fun x5 s6 => ∃ i L, x5 = nI i ∧ i ≤ 500 ∧ RepLC s6 L ∧ RepHT s6 L ∧ FrC stc σ s6 ∧ bfs M (500 - i) i L = BFS M) (fun x5 _ => 500 - x5.toNatClampNeg) ?_ ⟨0, _, rfl, by decide, hL4, hH4, hF2.trans hF4, rfl⟩
  rintro X7 x5 s6 ⟨i, L, rfl, hi, hL, hH, hF, hBf⟩ ih
  have hci : (nI i).toNatClampNeg = i := nI_clamp (by omega)
  have hln := hL.1
  have hle5 : (500 : Int32) ≤ nI i ↔ 500 ≤ i := nI_leI (a := 500) (by decide) (by omega)
  have hle : s6.1 55 3 ≤ nI i ↔ L.1 ≤ i := by rw [hL.2.1]; exact nI_leI (by omega) (by omega)
  have fin : L.1 ≤ i → Φ s6 := fun y => by
    rw [bfs_e (by omega)] at hBf
    rw [hBf] at hL
    exact h s6 hL hF
  refine ⟨fun y => fin (by have := hle5.mp y; omega), fun y => ⟨fun w => fin (hle.mp w), fun w => ?_⟩⟩
  have hlt : i < L.1 := Nat.lt_of_not_le (fun z => w (hle.mpr z))
  obtain ⟨f, hf⟩ : ∃ f, 500 - i = f + 1 := ⟨500 - i - 1, by omega⟩
  rw [hf, bfs_s hlt] at hBf
  have ef : f = 500 - (i + 1) := by omega
  refine LP2.rule (fun x8 s9 => ∃ d K, x8 = nI d ∧ d ≤ 8 ∧ RepLC s9 K ∧ RepHT s9 K ∧ FrC stc σ s9 ∧ i < K.1 ∧ inn M i (8 - d) d K = inn M i 8 0 L) (fun x8 _ => 8 - x8.toNatClampNeg) ?_ ⟨0, L, rfl, by decide, hL, hH, hF, hlt, rfl⟩
  rintro X10 x8 s9 ⟨d, K, rfl, hd, hK9, hH9, hF9, hiK, hI⟩ ih9
  have hcd : (nI d).toNatClampNeg = d := nI_clamp (by omega)
  have hled : (8 : Int32) ≤ nI d ↔ 8 ≤ d := nI_leI (a := 8) (by decide) (by omega)
  refine ⟨fun z => ?_, fun z => ?_⟩
  · have e : d = 8 := by have := hled.mp z; omega
    subst e
    have hI : K = inn M i 8 0 L := hI
    refine ih _ _ ⟨i + 1, K, nI_1 i, by omega, hK9, hH9, hF9, ?_⟩ (by rw [nI_1 i, nI_clamp (by omega), hci]; omega)
    rw [hI, ← ef]; exact hBf
  · have hlt8 : d < 8 := Nat.lt_of_not_le (fun w2 => z (hled.mpr w2))
    have hmu : 8 - (nI d + 1).toNatClampNeg < 8 - (nI d).toNatClampNeg := by
      rw [nI_1 d, nI_clamp (by omega), hcd]; omega
    rw [show 8 - d = (8 - (d + 1)) + 1 by omega] at hI
    have hI2 : inn M i (8 - (d + 1)) (d + 1) (entr K (AFC M (K.2.1 i) d) (K.2.2 i + 1)) = inn M i 8 0 L := hI
    have hin : vp_in (nI i) 500 := vp_in_nI (by have := hK9.1; omega) (by decide)
    refine ⟨hin, ?_⟩
    rw [hci, show (55 + 1 : Nat) = 56 from rfl, show (55 + 2 : Nat) = 57 from rfl, (hK9.2.2 i hiK).1, (hK9.2.2 i hiK).2]
    refine t_after hok (by rw [(fr hF9).2]; exact hB) hlt8 ⟨fun v => ?_, fun v => ⟨hin, ?_⟩⟩
    · refine ih9 _ _ ⟨d + 1, K, nI_1 d, hlt8, hK9, hH9, hF9, hiK, ?_⟩ hmu
      rw [v, entr_t (Or.inl rfl)] at hI2
      exact hI2
    · exact t_enter v hK9 hH9 (fun s12 hL12 hH12 hF12 => ih9 _ _ ⟨d + 1, _, nI_1 d, hlt8, hL12, hH12, hF9.trans hF12, Nat.lt_of_lt_of_le hiK entr_ge, hI2⟩ hmu)
