/-! Arrays.fill -/
theorem t_fill {k0 : Nat} {a : Int32} {σ : ft_St} {Φ : ft_St → Prop} (hN : cC_N k0 < 2 ^ 31) (h : ∀ g : Nat → Int32, (∀ j, j < cC_N k0 → g j = a) → Φ (ft_sA σ k0 g)) : w_J7_fill_53178 k0 a σ Φ := by
  unfold w_J7_fill_53178
  refine LP2.rule (fun x s => ∃ (i : Nat) (g : Nat → Int32), x = nI i ∧ i ≤ cC_N k0 ∧ s = ft_sA σ k0 g ∧ ∀ j, j < i → g j = a) (fun x _ => cC_N k0 - x.toNatClampNeg) ?_ ⟨0, σ.2.1 k0, rfl, Nat.zero_le _, (sA_self σ k0).symm, fun j hj => absurd hj (Nat.not_lt_zero _)⟩
  rintro X x s ⟨i, g, rfl, hi, rfl, hg⟩ ih
  have hc : (nI i).toNatClampNeg = i := nI_clamp (by omega)
  have hle : nI (cC_N k0) ≤ nI i ↔ cC_N k0 ≤ i := nI_leI hN (by omega)
  refine ⟨fun q => ?_, fun q => ?_⟩
  · have := hle.mp q
    exact h g (fun j hj => hg j (by omega))
  · have hlt : i < cC_N k0 := Nat.lt_of_not_le (fun z => q (hle.mpr z))
    refine ⟨vp_in_nI hlt hN, fun s4 hs4 => ?_⟩
    refine ih _ _ ⟨i + 1, upd g i a, nI_1 i, hlt, ?_, ?_⟩ ?_
    · rw [hs4, sA_s, hc, sA_sA]
    · intro j hj
      by_cases e : j = i
      · rw [e]; exact upd_s
      · rw [upd_n e]; exact hg j (by omega)
    · show cC_N k0 - (nI i + 1).toNatClampNeg < cC_N k0 - (nI i).toNatClampNeg
      rw [nI_1 i, nI_clamp (by omega), hc]
      omega
/-! the class's view: rows of what comes unseen -/
def gU (M : MM) (B : Nat → Int32) (w i : Nat) : Nat → Int32 := upd B i (B i ||| B (mkB M w i))
def gU1 (M : MM) (B : Nat → Int32) (w : Nat) : Nat → Int32 := if bt (mS M) (mD M w) = true then B else gU M (gU M B w (mF M w)) w (mF M w + 10)
def gUn (M : MM) (A : Nat → Int32) : Nat → Nat → Int32
  | 0 => A
  | n + 1 => gU1 M (gUn M A n) n
theorem t_growUnseen {σ : ft_St} {M : MM} {Φ : Int32 → ft_St → Prop} (hM : RepM σ 2 M) (hok : MOk M) (h : ∀ x, ft_bz x → (x = 0 → gUn M (σ.2.1 53) (mN M) = σ.2.1 53) → Φ x (ft_sA σ 53 (gUn M (σ.2.1 53) (mN M)))) : w_X7_growUnseen 52 2 σ Φ := by
  have hn := hok.1
  unfold w_X7_growUnseen
  simp only [Nat.reduceAdd]
  refine LP3.rule (fun x1 x2 s3 => ∃ w, x2 = nI w ∧ w ≤ mN M ∧ ft_bz x1 ∧ s3 = ft_sA σ 53 (gUn M (σ.2.1 53) w) ∧ (x1 = 0 → gUn M (σ.2.1 53) w = σ.2.1 53)) (fun _ x2 _ => 24 - x2.toNatClampNeg) ?_ ⟨0, rfl, Nat.zero_le _, Or.inl rfl, (sA_self σ 53).symm, fun _ => rfl⟩
  rintro X4 x1 x2 s3 ⟨w, rfl, hw, hbz, hs3, hz⟩ ih
  have hM3 : RepM s3 2 M := by rw [hs3]; exact hM.same rfl rfl rfl rfl
  have hc : (nI w).toNatClampNeg = w := nI_clamp (by omega)
  rw [hM3.1]
  have hle : nI (mN M) ≤ nI w ↔ mN M ≤ w := nI_leI (by omega) (by omega)
  refine ⟨fun q => ⟨hbz, ?_⟩, fun q => ?_⟩
  · have e : w = mN M := by have := hle.mp q; omega
    rw [hs3]
    subst e
    exact h x1 hbz hz
  · have hlt : w < mN M := Nat.lt_of_not_le (fun z => q (hle.mpr z))
    obtain ⟨hF, hD, hT⟩ := hM3.2.2.2 w hlt
    obtain ⟨bF, bD, bT⟩ := hok.2.1 w hlt
    have hin : vp_in (nI w) 24 := vp_in_nI (by omega) (by decide)
    have hmu : 24 - (nI w + 1).toNatClampNeg < 24 - (nI w).toNatClampNeg := by
      rw [nI_1 w, nI_clamp (by omega), hc]; omega
    refine ⟨hin, ?_⟩
    rw [hc, show s3.2.1 4 w = nI (mD M w) from hD, show s3.2.1 3 w = nI (mF M w) from hF]
    refine t_isSeen (by omega) ?_
    rw [hM3.2.1]
    refine ⟨fun z => ?_, fun z => ⟨hin, ?_⟩⟩
    · have hsn : bt (mS M) (mD M w) = true := by
        cases e : bt (mS M) (mD M w)
        · rw [e] at z; exact absurd rfl z
        · rfl
      have e2 : gUn M (σ.2.1 53) (w + 1) = gUn M (σ.2.1 53) w := by
        show gU1 M _ w = _
        rw [gU1, if_pos hsn]
      refine ih _ _ _ ⟨w + 1, nI_1 w, hlt, hbz, ?_, ?_⟩ hmu
      · rw [e2]; exact hs3
      · rw [e2]; exact hz
    · have hsn : bt (mS M) (mD M w) = false := (b01_z _).mp z
      rintro _ rfl
      intro X9 hX9
      have step : ∀ i, (i = mF M w ∨ i = mF M w + 10) → ∀ (x6 : Int32) (s8 : ft_St) (B8 : Nat → Int32), ft_bz x6 → s8 = ft_sA σ 53 B8 → (x6 = 0 → B8 = σ.2.1 53) → (∀ (x11 : Int32) (s' : ft_St), ft_bz x11 → s' = ft_sA σ 53 (gU M B8 w i) → (x11 = 0 → gU M B8 w i = σ.2.1 53) → X9 x11 (nI (i + 10)) s') → X9 x6 (nI i) s8 := by
        intro i hi x6 s8 B8 hb6 hs8 hz6 kk
        have hi20 : i < 20 := by omega
        have hM8 : RepM s8 2 M := by rw [hs8]; exact hM.same rfl rfl rfl rfl
        have hci : (nI i).toNatClampNeg = i := nI_clamp (by omega)
        have hin20 : vp_in (nI i) 20 := vp_in_nI hi20 (by decide)
        have h53 : s8.2.1 53 = B8 := by rw [hs8]; exact sA_s σ 53 B8
        refine hX9 _ _ _ ⟨fun z => absurd ((nI_leI (a := 20) (by decide) (by omega)).mp z) (by omega), fun _ => ⟨hin20, t_markBehind hM8 hok hlt hi20 ?_⟩⟩
        have hmk := mkB_lt hok (i := i) hlt
        refine ⟨vp_in_nI hmk (by decide), ?_⟩
        rw [h53, hci, nI_clamp (show mkB M w i < 2 ^ 31 by omega)]
        rintro _ rfl
        have fin : ∀ x11, ft_bz x11 → (x11 = 0 → gU M B8 w i = σ.2.1 53) → vp_in (nI i) 20 ∧ ∀ s14 : ft_St, s14 = ft_sA s8 53 (upd B8 i (B8 i ||| B8 (mkB M w i))) → X9 x11 (nI i + 10) s14 := by
          intro x11 hb11 hz11
          refine ⟨hin20, fun s14 hs14 => ?_⟩
          rw [show nI i + 10 = nI (i + 10) from nI_add i 10]
          refine kk x11 s14 hb11 ?_ hz11
          rw [hs14, hs8, sA_sA]
          rfl
        intro J12 hJ12
        intro J13 hJ13
        refine ⟨fun z => hJ13 (hJ12 1 (fin 1 (Or.inr rfl) (fun q => absurd q (by decide)))), fun z => ⟨hin20, fun z2 => hJ12 0 (fin 0 (Or.inl rfl) (fun _ => ?_)), fun z2 => hJ13 (hJ12 1 (fin 1 (Or.inr rfl) (fun q => absurd q (by decide))))⟩⟩
        rw [gU, z2, upd_self]
        exact hz6 z
      have e2 : gUn M (σ.2.1 53) (w + 1) = gU M (gU M (gUn M (σ.2.1 53) w) w (mF M w)) w (mF M w + 10) := by
        show gU1 M _ w = _
        rw [gU1, if_neg (by rw [hsn]; decide)]
      refine step (mF M w) (Or.inl rfl) x1 s3 _ hbz hs3 hz (fun xa sa hba hsa hza => step (mF M w + 10) (Or.inr rfl) xa sa _ hba hsa hza (fun xb sb hbb hsb hzb => ?_))
      refine hX9 _ _ _ ⟨fun _ => ?_, fun z => absurd ((nI_leI (a := 20) (by decide) (show mF M w + 10 + 10 < 2 ^ 31 by omega)).mpr (by omega)) z⟩
      refine ih _ _ _ ⟨w + 1, nI_1 w, hlt, hbb, ?_, ?_⟩ hmu
      · rw [e2]; exact hsb
      · rw [e2]; exact hzb
