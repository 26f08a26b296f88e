theorem gU_mono {M : MM} {B : Nat → Int32} {w i a j : Nat} (h : bt (B a) j = true) : bt (gU M B w i a) j = true := by
  unfold gU
  by_cases e : a = i
  · subst e
    rw [upd_s, b_orI]
    exact Or.inl h
  · rw [upd_n e]; exact h
theorem gU1_mono {M : MM} {B : Nat → Int32} {w a j : Nat} (h : bt (B a) j = true) : bt (gU1 M B w a) j = true := by
  unfold gU1
  split
  · exact h
  · exact gU_mono (gU_mono h)
theorem gUn_mono {M : MM} {A : Nat → Int32} {n a j : Nat} (h : bt (A a) j = true) : bt (gUn M A n a) j = true := by
  induction n with
  | zero => exact h
  | succ n ih => exact gU1_mono ih
theorem gUn_up {M : MM} {A : Nat → Int32} {n m a j : Nat} (hnm : n ≤ m) (h : bt (gUn M A n a) j = true) : bt (gUn M A m a) j = true := by
  induction m with
  | zero => rw [Nat.le_zero.mp hnm] at h; exact h
  | succ m ih =>
    rcases Nat.lt_or_ge n (m + 1) with q | q
    · exact gU1_mono (ih (by omega))
    · rw [show n = m + 1 by omega] at h; exact h
theorem gUn_step {M : MM} {A : Nat → Int32} {n w i j : Nat} (hw : w < n) (hu : bt (mS M) (mD M w) = false) (hi : i = mF M w ∨ i = mF M w + 10) (h : bt (A (mkB M w i)) j = true) : bt (gUn M A n i) j = true := by
  refine gUn_up (n := w + 1) hw ?_
  show bt (gU1 M (gUn M A w) w i) j = true
  have h2 : bt (gUn M A w (mkB M w i)) j = true := gUn_mono h
  unfold gU1
  rw [if_neg (by rw [hu]; decide)]
  rcases hi with hi | hi
  · refine gU_mono ?_
    rw [gU, hi, upd_s, b_orI]
    rw [hi] at h2
    exact Or.inr h2
  · rw [gU, hi, upd_s, b_orI]
    rw [hi] at h2
    exact Or.inr (gU_mono h2)
theorem gU_sound {M : MM} (hok : MOk M) {B : Nat → Int32} {w i : Nat} (hw : w < mN M) (hu : bt (mS M) (mD M w) = false) (hi : i = mF M w ∨ i = mF M w + 10) (h : ∀ a, a < 20 → ∀ j, bt (B a) j = true → Ru M a j) : ∀ a, a < 20 → ∀ j, bt (gU M B w i a) j = true → Ru M a j := by
  intro a ha j q
  unfold gU at q
  by_cases e : a = i
  · subst e
    rw [upd_s, b_orI] at q
    rcases q with q | q
    · exact h a ha j q
    · exact R1.head ⟨w, hw, hu, hi, rfl⟩ (h _ (mkB_lt hok hw) j q)
  · rw [upd_n e] at q
    exact h a ha j q
theorem gUn_sound {M : MM} (hok : MOk M) {A : Nat → Int32} (h : ∀ a, a < 20 → ∀ j, bt (A a) j = true → Ru M a j) : ∀ n, n ≤ mN M → ∀ a, a < 20 → ∀ j, bt (gUn M A n a) j = true → Ru M a j
  | 0, _ => h
  | n + 1, hn => by
    have ih := gUn_sound hok h n (by omega)
    show ∀ a, a < 20 → ∀ j, bt (gU1 M (gUn M A n) n a) j = true → Ru M a j
    unfold gU1
    cases q : bt (mS M) (mD M n)
    · rw [if_neg (by decide)]
      exact gU_sound hok (by omega) q (Or.inr rfl) (gU_sound hok (by omega) q (Or.inl rfl) ih)
    · rw [if_pos rfl]; exact ih
def VwU (M : MM) (A : Nat → Int32) : Prop := ∀ i, i < 20 → ∀ j, bt (A i) j = true ↔ Ru M i j
def VwB (M : MM) (B : Nat → Int32) : Prop := ∀ d i, d < 8 → i < 20 → ∀ j, bt (B (d * 20 + i)) j = true ↔ bt (mS M) d = true ∧ ∃ t, Ew M (fun e => e = d) i t ∧ Ru M t j
theorem t_findUnseen {σ : ft_St} {M : MM} {Φ : ft_St → Prop} (hM : RepM σ 2 M) (hok : MOk M) (h : ∀ A, VwU M A → Φ (ft_sA σ 53 A)) : w_X7_findUnseen 52 2 σ Φ := by
  unfold w_X7_findUnseen
  simp only [Nat.reduceAdd]
  refine LP2.rule (fun x s => ∃ (i : Nat) (g : Nat → Int32), x = nI i ∧ i ≤ 20 ∧ s = ft_sA σ 53 g ∧ ∀ a, a < i → g a = 1 <<< (nI a &&& 31)) (fun x _ => 20 - x.toNatClampNeg) ?_ ⟨0, σ.2.1 53, rfl, by decide, (sA_self σ 53).symm, fun j hj => absurd hj (Nat.not_lt_zero _)⟩
  rintro X x s ⟨i, g, rfl, hi, hs, hg⟩ ih
  have hc : (nI i).toNatClampNeg = i := nI_clamp (by omega)
  have hle : (20 : Int32) ≤ nI i ↔ 20 ≤ i := nI_leI (a := 20) (by decide) (by omega)
  refine ⟨fun q => ?_, fun q => ?_⟩
  · have hi20 : i = 20 := by have := hle.mp q; omega
    subst hi20
    have lt20 : ∀ a b, Ew M (Un M) a b → a < 20 ∧ b < 20 := fun a b e => Ew.lt hok e
    refine LP3.rule (fun x4 x5 s6 => ∃ (r : Nat) (A : Nat → Int32), x5 = nI r ∧ r ≤ 20 ∧ ft_bz x4 ∧ s6 = ft_sA σ 53 A ∧ (∀ a, a < 20 → ∀ j, bt (A a) j = true → Ru M a j) ∧ (∀ a, a < 20 → ∀ j, Rk (Ew M (Un M)) r a j → bt (A a) j = true) ∧ (x4 = 0 → gUn M A (mN M) = A)) (fun _ x5 _ => 20 - x5.toNatClampNeg) ?_ ⟨0, g, rfl, by decide, Or.inr rfl, hs, ?_, ?_, fun z => absurd z (by decide)⟩
    · rintro X7 x4 x5 s6 ⟨r, A, rfl, hr, hb4, hs6, hsd, hcp, hz⟩ ih2
      have hcr : (nI r).toNatClampNeg = r := nI_clamp (by omega)
      have hler : (20 : Int32) ≤ nI r ↔ 20 ≤ r := nI_leI (a := 20) (by decide) (by omega)
      have refl : ∀ a, a < 20 → bt (A a) a = true := fun a ha => hcp a ha a (Rk.refl r a)
      refine ⟨fun q2 => ?_, fun q2 => ⟨fun z => ?_, fun z => ?_⟩⟩
      · rw [hs6]
        refine h A (fun a ha j => ⟨hsd a ha j, fun e => ?_⟩)
        have hj : j < 20 := R1.lt (fun x y e => (lt20 x y e).2) ha e
        exact hcp a ha j (Rk.mono (by have := hler.mp q2; omega) (Rk_bound (N := 20) (fun x y e => (lt20 x y e).1) (by decide) ha hj e))
      · rw [hs6]
        have hcl := hz z
        refine h A (fun a ha j => ⟨hsd a ha j, fun e => ?_⟩)
        have key := rows_closed (A := fun a j => bt (A a) j = true ∨ a = j) (fun a => Or.inr rfl) (fun a t e j y => by
          obtain ⟨w, hw, hu, hi, rfl⟩ := id e
          rw [← hcl]
          rcases y with y | y
          · exact Or.inl (gUn_step hw hu hi y)
          · subst y
            exact Or.inl (gUn_step hw hu hi (refl _ (lt20 _ _ e).2))) e
        rcases key with key | key
        · exact key
        · subst key; exact refl a ha
      · have hM6 : RepM s6 2 M := by rw [hs6]; exact hM.same rfl rfl rfl rfl
        have h53 : s6.2.1 53 = A := by rw [hs6]; exact sA_s σ 53 A
        have hr20 : r < 20 := Nat.lt_of_not_le (fun y => q2 (hler.mpr y))
        refine t_growUnseen hM6 hok (fun x hbx hzx => ?_)
        rw [h53] at hzx ⊢
        refine ih2 _ _ _ ⟨r + 1, gUn M A (mN M), nI_1 r, hr20, hbx, ?_, gUn_sound hok hsd _ (Nat.le_refl _), ?_, fun y => by rw [hzx y]; exact hzx y⟩ ?_
        · rw [hs6, sA_sA]
        · intro a ha j y
          rcases y with y | ⟨t, e, y⟩
          · exact gUn_mono (hcp a ha j y)
          · obtain ⟨w, hw, hu, hi, rfl⟩ := id e
            exact gUn_step hw hu hi (hcp _ (lt20 _ _ e).2 j y)
        · show 20 - (nI r + 1).toNatClampNeg < 20 - (nI r).toNatClampNeg
          rw [nI_1 r, nI_clamp (by omega), hcr]; omega
    · intro a ha j y
      rw [hg a ha] at y
      have hj := b_lt y
      rw [b_bitI (by omega) hj] at y
      subst y
      exact R1.refl _
    · intro a ha j y
      rw [hg a ha, show j = a from (show a = j from y).symm, b_bitI (by omega) (by omega)]
  · have hlt : i < 20 := Nat.lt_of_not_le (fun z => q (hle.mpr z))
    refine ⟨vp_in_nI hlt (by decide), fun s4 hs4 => ?_⟩
    refine ih _ _ ⟨i + 1, upd g i (1 <<< (nI i &&& 31)), nI_1 i, hlt, ?_, ?_⟩ ?_
    · rw [hs4, hs, sA_s, hc, sA_sA]
    · intro j hj
      by_cases e : j = i
      · rw [e]; exact upd_s
      · rw [upd_n e]; exact hg j (by omega)
    · show 20 - (nI i + 1).toNatClampNeg < 20 - (nI i).toNatClampNeg
      rw [nI_1 i, nI_clamp (by omega), hc]; omega
theorem upd_or {B : Nat → Int32} {p q j : Nat} {v : Int32} : bt (upd B p (B p ||| v) q) j = true ↔ bt (B q) j = true ∨ (q = p ∧ bt v j = true) := by
  by_cases e : q = p
  · subst e
    rw [upd_s, b_orI]
    simp
  · rw [upd_n e]
    simp [e]
theorem t_findBehind {σ : ft_St} {M : MM} {Φ : ft_St → Prop} (hM : RepM σ 2 M) (hok : MOk M) (hV : VwU M (σ.2.1 53)) (h : ∀ B, VwB M B → Φ (ft_sA σ 54 B)) : w_X7_findBehind 52 2 σ Φ := by
  have hn := hok.1
  unfold w_X7_findBehind
  simp only [Nat.reduceAdd]
  refine t_fill (by decide) (fun g hg => ?_)
  have hg : ∀ j, j < 160 → g j = 0 := hg
  refine LP2.rule (fun x2 s3 => ∃ (w : Nat) (B : Nat → Int32), x2 = nI w ∧ w ≤ mN M ∧ s3 = ft_sA σ 54 B ∧ ∀ d i, d < 8 → i < 20 → ∀ j, bt (B (d * 20 + i)) j = true ↔ bt (mS M) d = true ∧ ∃ v, v < w ∧ mD M v = d ∧ (i = mF M v ∨ i = mF M v + 10) ∧ Ru M (mkB M v i) j) (fun x2 _ => 24 - x2.toNatClampNeg) ?_ ⟨0, g, rfl, Nat.zero_le _, rfl, fun d i hd hi j => ?_⟩
  · rintro X4 x2 s3 ⟨w, B, rfl, hw, hs3, hB⟩ ih
    have hM3 : RepM s3 2 M := by rw [hs3]; exact hM.same rfl rfl rfl rfl
    have hc : (nI w).toNatClampNeg = w := nI_clamp (by omega)
    rw [hM3.1]
    have hle : nI (mN M) ≤ nI w ↔ mN M ≤ w := nI_leI (by omega) (by omega)
    refine ⟨fun q => ?_, fun q => ?_⟩
    · have e : w = mN M := by have := hle.mp q; omega
      subst e
      rw [hs3]
      refine h B (fun d i hd hi j => ?_)
      rw [hB d i hd hi j]
      constructor
      · rintro ⟨a, v, hv, h1, h2, h3⟩
        exact ⟨a, _, ⟨v, hv, h1, h2, rfl⟩, h3⟩
      · rintro ⟨a, t, ⟨v, hv, h1, h2, rfl⟩, h3⟩
        exact ⟨a, v, hv, h1, h2, h3⟩
    · have hlt : w < mN M := Nat.lt_of_not_le (fun z => q (hle.mpr z))
      obtain ⟨hF, hD, hT⟩ := hM3.2.2.2 w hlt
      obtain ⟨bF, bD, bT⟩ := hok.2.1 w hlt
      have hin : vp_in (nI w) 24 := vp_in_nI (by omega) (by decide)
      have hmu : 24 - (nI w + 1).toNatClampNeg < 24 - (nI w).toNatClampNeg := by
        rw [nI_1 w, nI_clamp (by omega), hc]; omega
      refine ⟨hin, ?_⟩
      rw [hc, show s3.2.1 4 w = nI (mD M w) from hD, show s3.2.1 3 w = nI (mF M w) from hF]
      rintro _ rfl
      refine t_isSeen (by omega) ?_
      rw [hM3.2.1]
      refine ⟨fun z => ?_, fun z => ⟨hin, ?_⟩⟩
      · have hsn : bt (mS M) (mD M w) = false := (b01_z _).mp z
        refine ih _ _ ⟨w + 1, B, nI_1 w, hlt, hs3, fun d i hd hi j => ?_⟩ hmu
        rw [hB d i hd hi j]
        constructor
        · rintro ⟨a, v, hv, h1⟩; exact ⟨a, v, by omega, h1⟩
        · rintro ⟨a, v, hv, h1, h2⟩
          by_cases e : v = w
          · subst e; rw [← h1, hsn] at a; cases a
          · exact ⟨a, v, by omega, h1, h2⟩
      · have hsn : bt (mS M) (mD M w) = true := by
          cases e : bt (mS M) (mD M w)
          · rw [e] at z; exact absurd rfl z
          · rfl
        rintro _ rfl
        intro X9 hX9
        have step : ∀ i, (i = mF M w ∨ i = mF M w + 10) → ∀ (s8 : ft_St) (B8 : Nat → Int32), s8 = ft_sA σ 54 B8 → (∀ s' : ft_St, s' = ft_sA σ 54 (upd B8 (mD M w * 20 + i) (B8 (mD M w * 20 + i) ||| σ.2.1 53 (mkB M w i))) → X9 (nI (i + 10)) s') → X9 (nI i) s8 := by
          intro i hi s8 B8 hs8 kk
          have hi20 : i < 20 := by omega
          have hM8 : RepM s8 2 M := by rw [hs8]; exact hM.same rfl rfl rfl rfl
          have ei : nI (mD M w) * 20 + nI i = nI (mD M w * 20 + i) := by
            rw [show (20 : Int32) = nI 20 from rfl, pk_mul, nI_add]
          have hin160 : vp_in (nI (mD M w * 20 + i)) 160 := vp_in_nI (by omega) (by decide)
          have h54 : s8.2.1 54 = B8 := by rw [hs8]; exact sA_s σ 54 B8
          have h53 : s8.2.1 53 = σ.2.1 53 := by rw [hs8]; rfl
          refine hX9 _ _ ⟨fun z => absurd ((nI_leI (a := 20) (by decide) (by omega)).mp z) (by omega), fun _ => ?_⟩
          rw [ei]
          refine ⟨hin160, t_markBehind hM8 hok hlt hi20 ?_⟩
          have hmk := mkB_lt hok (i := i) hlt
          refine ⟨vp_in_nI hmk (by decide), hin160, fun s12 hs12 => ?_⟩
          rw [h54, h53, nI_clamp (show mD M w * 20 + i < 2 ^ 31 by omega), nI_clamp (show mkB M w i < 2 ^ 31 by omega)] at hs12
          rw [show nI i + 10 = nI (i + 10) from nI_add i 10]
          refine kk s12 ?_
          rw [hs12, hs8, sA_sA]
        refine step (mF M w) (Or.inl rfl) s3 B hs3 (fun sa hsa => step (mF M w + 10) (Or.inr rfl) sa _ hsa (fun sb hsb => ?_))
        refine hX9 _ _ ⟨fun _ => ?_, fun z => absurd ((nI_leI (a := 20) (by decide) (show mF M w + 10 + 10 < 2 ^ 31 by omega)).mpr (by omega)) z⟩
        refine ih _ _ ⟨w + 1, _, nI_1 w, hlt, hsb, fun d i hd hi j => ?_⟩ hmu
        rw [upd_or, upd_or, hB d i hd hi j]
        have hU : ∀ a, bt (σ.2.1 53 (mkB M w a)) j = true ↔ Ru M (mkB M w a) j := fun a => hV _ (mkB_lt hok hlt) j
        rw [hU, hU]
        constructor
        · rintro ((⟨a, v, hv, h1⟩ | ⟨e, h1⟩) | ⟨e, h1⟩)
          · exact ⟨a, v, by omega, h1⟩
          · have e1 : d = mD M w := by omega
            have e2 : i = mF M w := by omega
            subst e1 e2
            exact ⟨hsn, w, by omega, rfl, Or.inl rfl, h1⟩
          · have e1 : d = mD M w := by omega
            have e2 : i = mF M w + 10 := by omega
            subst e1 e2
            exact ⟨hsn, w, by omega, rfl, Or.inr rfl, h1⟩
        · rintro ⟨a, v, hv, h1, h2, h3⟩
          by_cases e : v = w
          · subst e
            rcases h2 with h2 | h2
            · subst h2 h1; exact Or.inl (Or.inr ⟨rfl, h3⟩)
            · subst h2 h1; exact Or.inr ⟨by omega, h3⟩
          · exact Or.inl (Or.inl ⟨a, v, by omega, h1, h2, h3⟩)
  · rw [hg _ (by omega), b_0]
    constructor
    · intro z; cases z
    · rintro ⟨_, v, hv, _⟩; omega
