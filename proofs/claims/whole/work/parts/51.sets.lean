/-! the sets: n of them, the sets, the sights -/
abbrev LL : Type := Nat × (Nat → Int32) × (Nat → Int32)
def entC (L : LL) (s : Int32) : Prop := s = 0 ∨ 500 ≤ L.1 ∨ ∃ j, j < L.1 ∧ L.2.1 j = s
noncomputable def entr (L : LL) (s d : Int32) : LL := @ite LL (entC L s) (Classical.propDecidable _) L (L.1 + 1, va_up L.2.1 L.1 s, va_up L.2.2 L.1 d)
theorem entr_t {L : LL} {s d : Int32} (h : entC L s) : entr L s d = L := @if_pos _ (Classical.propDecidable _) h _ _ _
theorem entr_f {L : LL} {s d : Int32} (h : ¬ entC L s) : entr L s d = (L.1 + 1, va_up L.2.1 L.1 s, va_up L.2.2 L.1 d) := @if_neg _ (Classical.propDecidable _) h _ _ _
theorem entr_le {L : LL} {s d : Int32} (h : L.1 ≤ 500) : (entr L s d).1 ≤ 500 := by
  by_cases q : entC L s
  · rw [entr_t q]; exact h
  · rw [entr_f q]
    have : ¬ 500 ≤ L.1 := fun z => q (Or.inr (Or.inl z))
    show L.1 + 1 ≤ 500
    omega
theorem entr_ge {L : LL} {s d : Int32} : L.1 ≤ (entr L s d).1 := by
  by_cases q : entC L s
  · rw [entr_t q]; exact Nat.le_refl _
  · rw [entr_f q]; exact Nat.le_succ _
noncomputable def inn (M : MM) (i : Nat) : Nat → Nat → LL → LL
  | 0, _, L => L
  | f + 1, d, L => inn M i f (d + 1) (entr L (AFC M (L.2.1 i) d) (L.2.2 i + 1))
noncomputable def bfs (M : MM) : Nat → Nat → LL → LL
  | 0, _, L => L
  | f + 1, i, L => if i < L.1 then bfs M f (i + 1) (inn M i 8 0 L) else L
noncomputable def BFS (M : MM) : LL := bfs M 500 0 (entr (0, fun _ => 0, fun _ => 0) (FST M) 0)
theorem bfs_s {M : MM} {f i : Nat} {L : LL} (h : i < L.1) : bfs M (f + 1) i L = bfs M f (i + 1) (inn M i 8 0 L) := if_pos h
theorem bfs_e {M : MM} {f i : Nat} {L : LL} (h : ¬ i < L.1) : bfs M f i L = L := by
  cases f with
  | zero => rfl
  | succ f => exact if_neg h
theorem FST_ne {M : MM} : FST M ≠ 0 := by
  intro e
  have : bt (FST M) 0 = true := by
    unfold FST
    rw [bS_bt]; exact ⟨by decide, R1.refl 0⟩
  rw [e, b_0] at this; cases this
/-! the model's -/
def RepLR (σ : ft_St) (L : LL) : Prop := L.1 ≤ 500 ∧ σ.1 0 12 = nI L.1 ∧ ∀ j, j < L.1 → σ.2.1 7 j = L.2.1 j ∧ σ.2.1 8 j = L.2.2 j
theorem r_comesSet {σ : ft_St} {L : LL} {s d : Int32} {Φ : ft_St → Prop} (hL : RepLR σ L) (h : ∀ σ', RepLR σ' (entr L s d) → KeepR σ σ' → Φ σ') : w_X10_comesSet s d σ Φ := by
  unfold w_X10_comesSet
  obtain ⟨hn, e12, hr⟩ := hL
  have hL0 : RepLR σ L := ⟨hn, e12, hr⟩
  have hcn : (nI L.1).toNatClampNeg = L.1 := nI_clamp (by omega)
  have h5 : (500 : Int32) ≤ nI L.1 ↔ 500 ≤ L.1 := nI_leI (a := 500) (by decide) (by omega)
  have main : ∀ x1 : Int32, (x1 = 0 ↔ s = 0 ∨ 500 ≤ L.1) → LP2 (fun (X5 : Int32 → Int32 → Prop) (x3 : Int32) (x4 : Int32) => JN0 (fun (J6 : Prop) => ((σ.1 0 12) ≤ x4 → J6) ∧ (¬ (σ.1 0 12) ≤ x4 → (x3 = 0 → J6) ∧ (¬ x3 = 0 → vp_in x4 500 ∧ ((σ.2.1 7 (Int32.toNatClampNeg x4)) = s → X5 0 (x4 + 1)) ∧ (¬ (σ.2.1 7 (Int32.toNatClampNeg x4)) = s → X5 1 (x4 + 1))))) ((x3 = 0 → Φ σ) ∧ (¬ x3 = 0 → vp_in (σ.1 0 12) 500 ∧ ∀ (s7 : ft_St), s7 = ft_sA σ 7 (upd (σ.2.1 7) (Int32.toNatClampNeg (σ.1 0 12)) s) → vp_in (s7.1 0 12) 500 ∧ ∀ (s8 : ft_St), s8 = ft_sA s7 8 (upd (s7.2.1 8) (Int32.toNatClampNeg (s7.1 0 12)) d) → ∀ (s9 : ft_St), s9 = ft_sF s8 0 12 ((s8.1 0 12) + 1) → Φ s9))) x1 0 := by
    intro x1 hx1
    refine LP2.rule (fun x3 x4 => ∃ j, x4 = nI j ∧ j ≤ L.1 ∧ (x3 = 0 → entC L s) ∧ (¬ x3 = 0 → ¬ (s = 0 ∨ 500 ≤ L.1) ∧ ∀ j', j' < j → ¬ L.2.1 j' = s)) (fun _ x4 => 500 - x4.toNatClampNeg) ?_ ⟨0, rfl, Nat.zero_le _, fun y => (hx1.mp y).elim Or.inl (fun z => Or.inr (Or.inl z)), fun y => ⟨fun z => y (hx1.mpr z), fun j' hj => absurd hj (Nat.not_lt_zero _)⟩⟩
    rintro X5 x3 x4 ⟨j, rfl, hj, hz, hnz⟩ ih
    have hcj : (nI j).toNatClampNeg = j := nI_clamp (by omega)
    have hle : σ.1 0 12 ≤ nI j ↔ L.1 ≤ j := by rw [e12]; exact nI_leI (by omega) (by omega)
    have fin : (¬ x3 = 0 → j = L.1) → ((x3 = 0 → Φ σ) ∧ (¬ x3 = 0 → vp_in (σ.1 0 12) 500 ∧ ∀ (s7 : ft_St), s7 = ft_sA σ 7 (upd (σ.2.1 7) (Int32.toNatClampNeg (σ.1 0 12)) s) → vp_in (s7.1 0 12) 500 ∧ ∀ (s8 : ft_St), s8 = ft_sA s7 8 (upd (s7.2.1 8) (Int32.toNatClampNeg (s7.1 0 12)) d) → ∀ (s9 : ft_St), s9 = ft_sF s8 0 12 ((s8.1 0 12) + 1) → Φ s9)) := by
      intro hjL
      refine ⟨fun y => ?_, fun y => ?_⟩
      · have := h σ
        rw [entr_t (hz y)] at this
        exact this hL0 (KeepR.refl σ)
      · obtain ⟨g1, g2⟩ := hnz y
        have hl5 : L.1 < 500 := Nat.lt_of_not_le (fun z => g1 (Or.inr z))
        have hne : ¬ entC L s := by
          rintro (z | z | ⟨k, hk, z⟩)
          · exact g1 (Or.inl z)
          · exact g1 (Or.inr z)
          · exact g2 k (by rw [hjL y]; exact hk) z
        have hin : vp_in (nI L.1) 500 := vp_in_nI hl5 (by decide)
        rw [e12]
        refine ⟨hin, fun s7 h7 => ?_⟩
        have q7 : s7.1 = σ.1 := by rw [h7]; rfl
        rw [q7, e12]
        refine ⟨hin, fun s8 h8 s9 h9 => ?_⟩
        have q8 : s8.1 = σ.1 := by rw [h8]; exact q7
        rw [q8, e12] at h9
        rw [hcn] at h7 h8
        refine h s9 ?_ ?_
        · rw [entr_f hne]
          refine ⟨hl5, ?_, fun k hk => ?_⟩
          · rw [h9, sF_s]; exact nI_1 L.1
          · have hk : k < L.1 + 1 := hk
            rw [h9, sF_2, h8, h7]
            show upd (σ.2.1 7) L.1 s k = va_up L.2.1 L.1 s k ∧ upd (σ.2.1 8) L.1 d k = va_up L.2.2 L.1 d k
            by_cases ek : k = L.1
            · rw [ek, upd_s, upd_s, up_s, up_s]; exact ⟨rfl, rfl⟩
            · rw [upd_n ek, upd_n ek, up_n ek, up_n ek]; exact hr k (by omega)
        · rw [h9]
          refine KeepR.trans ?_ (KeepR.sF s8 _ (Or.inl rfl))
          rw [h8]
          refine KeepR.trans ?_ (KeepR.sA s7 _ (by decide))
          rw [h7]
          exact KeepR.sA σ _ (by decide)
    intro J6 hJ6
    refine ⟨fun y => hJ6 (fin (fun _ => by have := hle.mp y; omega)), fun y => ⟨fun w => hJ6 (fin (fun w2 => absurd w w2)), fun w => ?_⟩⟩
    have hlt : j < L.1 := Nat.lt_of_not_le (fun w2 => y (hle.mpr w2))
    have hmu : 500 - (nI j + 1).toNatClampNeg < 500 - (nI j).toNatClampNeg := by
      rw [nI_1 j, nI_clamp (by omega), hcj]; omega
    rw [hcj, (hr j hlt).1]
    refine ⟨vp_in_nI (by omega) (by decide), fun v => ih _ _ ⟨j + 1, nI_1 j, hlt, fun _ => Or.inr (Or.inr ⟨j, hlt, v⟩), fun z => absurd rfl z⟩ hmu, fun v => ih _ _ ⟨j + 1, nI_1 j, hlt, fun z => absurd z (by decide), fun _ => ⟨(hnz w).1, fun j' hj' => ?_⟩⟩ hmu⟩
    by_cases e : j' = j
    · rw [e]; exact v
    · exact (hnz w).2 j' (by omega)
  intro J2 hJ2
  have j0 : (s = 0 ∨ 500 ≤ L.1) → J2 0 := fun y => hJ2 0 (main 0 ⟨fun _ => y, fun _ => rfl⟩)
  intro J10 hJ10
  rw [e12, h5]
  exact ⟨fun y => hJ10 (j0 (Or.inl y)), fun y => ⟨fun z => hJ10 (j0 (Or.inr z)), fun z => hJ2 1 (main 1 ⟨fun w => absurd w (by decide), fun w => absurd w (fun q => q.elim y z)⟩)⟩⟩
theorem r_findsSets {σ : ft_St} {M : MM} {Φ : ft_St → Prop} (hM : RepRM σ M) (hok : MOk M) (h : ∀ σ', RepLR σ' (BFS M) → KeepR σ σ' → Φ σ') : w_X10_findsSets σ Φ := by
  unfold w_X10_findsSets
  intro s1 h1
  have hK1 : KeepR σ s1 := by rw [h1]; exact KeepR.sF σ _ (Or.inl rfl)
  have hL1 : RepLR s1 (0, fun _ => 0, fun _ => 0) := ⟨Nat.zero_le _, by rw [h1, sF_s]; rfl, fun j hj => absurd hj (Nat.not_lt_zero _)⟩
  refine r_first (hM.keep hK1) hok (r_comesSet hL1 (fun s3 hL3 hK3 => ?_))
  refine LP2.rule (fun x4 s5 => ∃ i L, x4 = nI i ∧ i ≤ 500 ∧ RepLR s5 L ∧ KeepR σ s5 ∧ bfs M (500 - i) i L = BFS M) (fun x4 _ => 500 - x4.toNatClampNeg) ?_ ⟨0, _, rfl, by decide, hL3, hK1.trans hK3, rfl⟩
  rintro X6 x4 s5 ⟨i, L, rfl, hi, hL, hK, hB⟩ ih
  have hci : (nI i).toNatClampNeg = i := nI_clamp (by omega)
  have hln := hL.1
  have hle : s5.1 0 12 ≤ nI i ↔ L.1 ≤ i := by rw [hL.2.1]; exact nI_leI (by omega) (by omega)
  refine ⟨fun y => ?_, fun y => ?_⟩
  · rw [bfs_e (by have := hle.mp y; omega)] at hB
    rw [hB] at hL
    exact h s5 hL hK
  · have hlt : i < L.1 := Nat.lt_of_not_le (fun w => y (hle.mpr w))
    obtain ⟨f, hf⟩ : ∃ f, 500 - i = f + 1 := ⟨500 - i - 1, by omega⟩
    rw [hf, bfs_s hlt] at hB
    have ef : f = 500 - (i + 1) := by omega
    refine LP2.rule (fun x7 s8 => ∃ d K, x7 = nI d ∧ d ≤ 8 ∧ RepLR s8 K ∧ KeepR σ s8 ∧ i < K.1 ∧ inn M i (8 - d) d K = inn M i 8 0 L) (fun x7 _ => 8 - x7.toNatClampNeg) ?_ ⟨0, L, rfl, by decide, hL, hK, hlt, rfl⟩
    rintro X9 x7 s8 ⟨d, K, rfl, hd, hK8, hKe8, hiK, hI⟩ ih9
    have hcd : (nI d).toNatClampNeg = d := nI_clamp (by omega)
    have hled : (8 : Int32) ≤ nI d ↔ 8 ≤ d := nI_leI (a := 8) (by decide) (by omega)
    refine ⟨fun w => ?_, fun w => ?_⟩
    · have e : d = 8 := by have := hled.mp w; omega
      subst e
      have hI : K = inn M i 8 0 L := hI
      refine ih _ _ ⟨i + 1, K, nI_1 i, by omega, hK8, hKe8, ?_⟩ (by rw [nI_1 i, nI_clamp (by omega), hci]; omega)
      rw [hI, ← ef]; exact hB
    · have hlt8 : d < 8 := Nat.lt_of_not_le (fun w2 => w (hled.mpr w2))
      have hmu : 8 - (nI d + 1).toNatClampNeg < 8 - (nI d).toNatClampNeg := by
        rw [nI_1 d, nI_clamp (by omega), hcd]; omega
      rw [show 8 - d = (8 - (d + 1)) + 1 by omega] at hI
      have hI2 : inn M i (8 - (d + 1)) (d + 1) (entr K (AFC M (K.2.1 i) d) (K.2.2 i + 1)) = inn M i 8 0 L := hI
      have hM8 := hM.keep hKe8
      have hin : vp_in (nI i) 500 := vp_in_nI (by have := hK8.1; omega) (by decide)
      refine r_isSeen (by omega) ?_
      rw [hM8.2.1]
      cases es : bt (mS M) d
      · refine ⟨fun _ => ih9 _ _ ⟨d + 1, K, nI_1 d, hlt8, hK8, hKe8, hiK, ?_⟩ hmu, fun z => absurd rfl z⟩
        unfold AFC at hI2
        rw [if_neg (by rw [es]; decide), entr_t (Or.inl rfl)] at hI2
        exact hI2
      · refine ⟨fun z => absurd z (by decide), fun _ => ⟨hin, ?_⟩⟩
        rw [hci, (hK8.2.2 i hiK).1, (hK8.2.2 i hiK).2]
        refine r_sawBy hM8 hok hlt8 ⟨hin, ?_⟩
        refine r_comesSet hK8 (fun s12 hL12 hK12 => ih9 _ _ ⟨d + 1, _, nI_1 d, hlt8, hL12, hKe8.trans hK12, Nat.lt_of_lt_of_le hiK entr_ge, ?_⟩ hmu)
        unfold AFC at hI2
        rw [if_pos es] at hI2
        exact hI2
