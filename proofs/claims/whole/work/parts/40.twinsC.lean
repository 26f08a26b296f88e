/-! the class's twins at cell k (59 or 66), the machine at 2 -/
def Kt (k : Nat) : Prop := k = 59 ∨ k = 66
def tc (k : Nat) : Nat → Prop := fun a => k ≤ a ∧ a ≤ k + 6
theorem RepM.tw {σ σ' : ft_St} {M : MM} {k : Nat} (h : RepM σ 2 M) (hk : Kt k) (hf : FrC (tc k) σ σ') : RepM σ' 2 M := h.frame hf (fun a q => by unfold mc at q; unfold tc; rcases hk with e | e <;> omega)
theorem t_isSeenT {σ : ft_St} {k d : Nat} {Φ : Int32 → Prop} (hd : d < 32) (h : Φ (b01 (bt (σ.1 k 0) d))) : w_X6_isSeen k (nI d) σ Φ := by
  unfold w_X6_isSeen
  rw [b_tst hd]
  cases q : bt (σ.1 k 0) d <;> rw [q] at h
  · exact ⟨fun _ => h, fun z => by cases z⟩
  · exact ⟨fun z => absurd rfl z, fun _ => h⟩
/-- a step of the second one, by its place -/
def Alp (M : MM) (sn : Int32) (q q' : Nat) : Prop := ∃ w, w < mN M ∧ bt sn (mD M w) = false ∧ bt (mX M) (mD M w) = false ∧ q = mF M w ∧ q' = mT M w
theorem Alp.lt {M : MM} (hok : MOk M) {sn : Int32} {q q' : Nat} (h : Alp M sn q q') : q < 10 ∧ q' < 10 := by
  obtain ⟨w, hw, -, -, h1, h2⟩ := h
  have := hok.2.1 w hw
  omega
def gA1 (M : MM) (sn : Int32) (B : Nat → Int32) (w : Nat) : Nat → Int32 := if bt sn (mD M w) = true ∨ bt (mX M) (mD M w) = true then B else upd B (mF M w) (B (mF M w) ||| B (mT M w))
def gAn (M : MM) (sn : Int32) (A : Nat → Int32) : Nat → Nat → Int32
  | 0 => A
  | n + 1 => gA1 M sn (gAn M sn A n) n
theorem t_growAlone {σ : ft_St} {k : Nat} {M : MM} {Φ : Int32 → ft_St → Prop} (hk : Kt k) (hM : RepM σ 2 M) (hok : MOk M) (h : ∀ x, ft_bz x → (x = 0 → gAn M (σ.1 k 0) (σ.2.1 (k + 1)) (mN M) = σ.2.1 (k + 1)) → Φ x (ft_sA σ (k + 1) (gAn M (σ.1 k 0) (σ.2.1 (k + 1)) (mN M)))) : w_X6_growAlone k σ Φ := by
  have hn := hok.1
  unfold w_X6_growAlone
  refine LP3.rule (fun x1 x2 s3 => ∃ w, x2 = nI w ∧ w ≤ mN M ∧ ft_bz x1 ∧ s3 = ft_sA σ (k + 1) (gAn M (σ.1 k 0) (σ.2.1 (k + 1)) w) ∧ (x1 = 0 → gAn M (σ.1 k 0) (σ.2.1 (k + 1)) w = σ.2.1 (k + 1))) (fun _ x2 _ => 24 - x2.toNatClampNeg) ?_ ⟨0, rfl, Nat.zero_le _, Or.inl rfl, (sA_self σ (k + 1)).symm, fun _ => rfl⟩
  rintro X4 x1 x2 s3 ⟨w, rfl, hw, hbz, hs3, hz⟩ ih
  have hf3 : FrC (tc k) σ s3 := by rw [hs3]; exact FrC.sA σ _ ⟨by omega, by omega⟩
  have hM3 : RepM s3 2 M := hM.tw hk hf3
  have e1 : s3.1 = σ.1 := by rw [hs3]; rfl
  have ek : s3.2.1 (k + 1) = gAn M (σ.1 k 0) (σ.2.1 (k + 1)) w := by rw [hs3, sA_s]
  have hc : (nI w).toNatClampNeg = w := nI_clamp (by omega)
  rw [hM3.1]
  have hle : nI (mN M) ≤ nI w ↔ mN M ≤ w := nI_leI (by omega) (by omega)
  refine ⟨fun q => ⟨hbz, ?_⟩, fun q => ?_⟩
  · have e : w = mN M := by have := hle.mp q; omega
    subst e
    rw [hs3]
    exact h x1 hbz hz
  · have hlt : w < mN M := Nat.lt_of_not_le (fun z => q (hle.mpr z))
    obtain ⟨hF, hD, hT⟩ := hM3.2.2.2 w hlt
    obtain ⟨bF, bD, bT⟩ := hok.2.1 w hlt
    have hin : vp_in (nI w) 24 := vp_in_nI (by omega) (by decide)
    have hmu : 24 - (nI w + 1).toNatClampNeg < 24 - (nI w).toNatClampNeg := by
      rw [nI_1 w, nI_clamp (by omega), hc]; omega
    have stay : (bt (σ.1 k 0) (mD M w) = true ∨ bt (mX M) (mD M w) = true) → X4 x1 (nI w + 1) s3 := by
      intro y
      have e2 : gAn M (σ.1 k 0) (σ.2.1 (k + 1)) (w + 1) = gAn M (σ.1 k 0) (σ.2.1 (k + 1)) w := by
        show gA1 M _ _ w = _
        rw [gA1, if_pos y]
      exact ih _ _ _ ⟨w + 1, nI_1 w, hlt, hbz, by rw [e2]; exact hs3, by rw [e2]; exact hz⟩ hmu
    have tr : ∀ {b : Bool}, ¬ b01 b = 0 → b = true := fun {b} z => by
      cases b
      · exact absurd rfl z
      · rfl
    rw [hc, show s3.2.1 4 w = nI (mD M w) from hD, show s3.2.1 3 w = nI (mF M w) from hF, show s3.2.1 5 w = nI (mT M w) from hT]
    refine ⟨hin, ?_⟩
    rintro _ rfl
    refine t_isSeenT (by omega) ?_
    rw [e1]
    refine ⟨fun z => stay (Or.inl (tr z)), fun z => t_isFault (by omega) ?_⟩
    rw [hM3.2.2.1]
    refine ⟨fun z2 => stay (Or.inr (tr z2)), fun z2 => ⟨hin, ?_⟩⟩
    have n1 := (b01_z _).mp z
    have n2 := (b01_z _).mp z2
    have e2 : gAn M (σ.1 k 0) (σ.2.1 (k + 1)) (w + 1) = upd (gAn M (σ.1 k 0) (σ.2.1 (k + 1)) w) (mF M w) (gAn M (σ.1 k 0) (σ.2.1 (k + 1)) w (mF M w) ||| gAn M (σ.1 k 0) (σ.2.1 (k + 1)) w (mT M w)) := by
      show gA1 M _ _ w = _
      rw [gA1, if_neg (by rw [n1, n2]; simp)]
    rintro _ rfl
    rw [nI_clamp (show mF M w < 2 ^ 31 by omega), nI_clamp (show mT M w < 2 ^ 31 by omega), ek]
    have hinF : vp_in (nI (mF M w)) 10 := vp_in_nI bF (by decide)
    refine ⟨hinF, hin, vp_in_nI bT (by decide), ?_⟩
    rintro _ rfl
    have fin : ∀ x, ft_bz x → (x = 0 → gAn M (σ.1 k 0) (σ.2.1 (k + 1)) (w + 1) = σ.2.1 (k + 1)) → vp_in (nI (mF M w)) 10 ∧ ∀ s12 : ft_St, s12 = ft_sA s3 (k + 1) (upd (gAn M (σ.1 k 0) (σ.2.1 (k + 1)) w) (mF M w) (gAn M (σ.1 k 0) (σ.2.1 (k + 1)) w (mF M w) ||| gAn M (σ.1 k 0) (σ.2.1 (k + 1)) w (mT M w))) → X4 x (nI w + 1) s12 := by
      intro x hbx hzx
      refine ⟨hinF, fun s12 h12 => ih _ _ _ ⟨w + 1, nI_1 w, hlt, hbx, ?_, hzx⟩ hmu⟩
      rw [h12, hs3, sA_sA, e2]
    intro J11 hJ11
    intro J13 hJ13
    refine ⟨fun y => hJ13 (hJ11 1 (fin 1 (Or.inr rfl) (fun y => absurd y (by decide)))), fun y => ⟨hinF, fun y2 => hJ11 0 (fin 0 (Or.inl rfl) (fun _ => ?_)), fun y2 => hJ13 (hJ11 1 (fin 1 (Or.inr rfl) (fun y => absurd y (by decide))))⟩⟩
    rw [e2, y2, upd_self]
    exact hz y
theorem gA1_mono {M : MM} {sn : Int32} {B : Nat → Int32} {w a j : Nat} (h : bt (B a) j = true) : bt (gA1 M sn B w a) j = true := by
  unfold gA1
  split
  · exact h
  · exact upd_or.mpr (Or.inl h)
theorem gAn_up {M : MM} {sn : Int32} {A : Nat → Int32} {n m a j : Nat} (hnm : n ≤ m) (h : bt (gAn M sn A n a) j = true) : bt (gAn M sn A m a) j = true := by
  induction m with
  | zero => rw [Nat.le_zero.mp hnm] at h; exact h
  | succ m ih =>
    rcases Nat.lt_or_ge n (m + 1) with q | q
    · exact gA1_mono (ih (by omega))
    · rw [show n = m + 1 by omega] at h; exact h
theorem gAn_step {M : MM} {sn : Int32} {A : Nat → Int32} {n w j : Nat} (hw : w < n) (h1 : bt sn (mD M w) = false) (h2 : bt (mX M) (mD M w) = false) (h : bt (A (mT M w)) j = true) : bt (gAn M sn A n (mF M w)) j = true := by
  refine gAn_up (n := w + 1) hw ?_
  show bt (gA1 M sn (gAn M sn A w) w (mF M w)) j = true
  unfold gA1
  rw [if_neg (by rw [h1, h2]; simp)]
  exact upd_or.mpr (Or.inr ⟨rfl, gAn_up (n := 0) (Nat.zero_le _) h⟩)
theorem gAn_sound {M : MM} (hok : MOk M) {sn : Int32} {A : Nat → Int32} (h : ∀ a, a < 10 → ∀ j, bt (A a) j = true → R1 (Alp M sn) a j) : ∀ n, n ≤ mN M → ∀ a, a < 10 → ∀ j, bt (gAn M sn A n a) j = true → R1 (Alp M sn) a j
  | 0, _ => h
  | n + 1, hn => by
    have ih := gAn_sound hok h n (by omega)
    show ∀ a, a < 10 → ∀ j, bt (gA1 M sn (gAn M sn A n) n a) j = true → R1 (Alp M sn) a j
    unfold gA1
    by_cases q : bt sn (mD M n) = true ∨ bt (mX M) (mD M n) = true
    · rw [if_pos q]; exact ih
    · rw [if_neg q]
      intro a ha j z
      rcases upd_or.mp z with z2 | ⟨e, z2⟩
      · exact ih a ha j z2
      · have hn' : n < mN M := by omega
        have bb := hok.2.1 n hn'
        subst e
        have q1 : bt sn (mD M n) = false := by cases e : bt sn (mD M n) <;> simp_all
        have q2 : bt (mX M) (mD M n) = false := by cases e : bt (mX M) (mD M n) <;> simp_all
        exact R1.head ⟨n, hn', q1, q2, rfl, rfl⟩ (ih _ bb.2.2 j z2)
def TwA (M : MM) (sn : Int32) (A : Nat → Int32) : Prop := ∀ q, q < 10 → ∀ j, bt (A q) j = true ↔ R1 (Alp M sn) q j
def TwG (M : MM) (sn : Int32) (B : Nat → Int32) : Prop := ∀ d q, d < 8 → q < 10 → ∀ j, bt (B (d * 10 + q)) j = true ↔ bt sn d = true ∧ bt (mX M) d = false ∧ ∃ v, v < mN M ∧ mD M v = d ∧ mF M v = q ∧ R1 (Alp M sn) (mT M v) j
theorem t_findAlone {σ : ft_St} {k : Nat} {M : MM} {Φ : ft_St → Prop} (hk : Kt k) (hM : RepM σ 2 M) (hok : MOk M) (h : ∀ A, TwA M (σ.1 k 0) A → Φ (ft_sA σ (k + 1) A)) : w_X6_findAlone k σ Φ := by
  unfold w_X6_findAlone
  refine LP2.rule (fun x s => ∃ (i : Nat) (g : Nat → Int32), x = nI i ∧ i ≤ 10 ∧ s = ft_sA σ (k + 1) g ∧ ∀ a, a < i → g a = 1 <<< (nI a &&& 31)) (fun x _ => 10 - x.toNatClampNeg) ?_ ⟨0, σ.2.1 (k + 1), rfl, by decide, (sA_self σ (k + 1)).symm, fun j hj => absurd hj (Nat.not_lt_zero _)⟩
  rintro X x s ⟨i, g, rfl, hi, hs, hg⟩ ih
  have hc : (nI i).toNatClampNeg = i := nI_clamp (by omega)
  have hle : (10 : Int32) ≤ nI i ↔ 10 ≤ i := nI_leI (a := 10) (by decide) (by omega)
  refine ⟨fun q => ?_, fun q => ?_⟩
  · have hi10 : i = 10 := by have := hle.mp q; omega
    subst hi10
    refine LP3.rule (fun x4 x5 s6 => ∃ (r : Nat) (A : Nat → Int32), x5 = nI r ∧ r ≤ 10 ∧ ft_bz x4 ∧ s6 = ft_sA σ (k + 1) A ∧ (∀ a, a < 10 → ∀ j, bt (A a) j = true → R1 (Alp M (σ.1 k 0)) a j) ∧ (∀ a, a < 10 → ∀ j, Rk (Alp M (σ.1 k 0)) r a j → bt (A a) j = true) ∧ (x4 = 0 → gAn M (σ.1 k 0) A (mN M) = A)) (fun _ x5 _ => 10 - x5.toNatClampNeg) ?_ ⟨0, g, rfl, by decide, Or.inr rfl, hs, ?_, ?_, fun z => absurd z (by decide)⟩
    · rintro X7 x4 x5 s6 ⟨r, A, rfl, hr, hb4, hs6, hsd, hcp, hz⟩ ih2
      have hcr : (nI r).toNatClampNeg = r := nI_clamp (by omega)
      have hler : (10 : Int32) ≤ nI r ↔ 10 ≤ r := nI_leI (a := 10) (by decide) (by omega)
      have refl : ∀ a, a < 10 → bt (A a) a = true := fun a ha => hcp a ha a (Rk.refl r a)
      refine ⟨fun q2 => ?_, fun q2 => ⟨fun z => ?_, fun z => ?_⟩⟩
      · rw [hs6]
        refine h A (fun a ha j => ⟨hsd a ha j, fun e => ?_⟩)
        have hj : j < 10 := R1.lt (fun x y e => (e.lt hok).2) ha e
        exact hcp a ha j (Rk.mono (by have := hler.mp q2; omega) (Rk_bound (N := 10) (fun x y e => (e.lt hok).1) (by decide) ha hj e))
      · rw [hs6]
        have hcl := hz z
        refine h A (fun a ha j => ⟨hsd a ha j, fun e => ?_⟩)
        have key := rows_closed (A := fun a j => bt (A a) j = true ∨ a = j) (fun a => Or.inr rfl) (fun a t e j y => by
          obtain ⟨w, hw, h1, h2, rfl, rfl⟩ := id e
          rw [← hcl]
          rcases y with y | y
          · exact Or.inl (gAn_step hw h1 h2 y)
          · subst y
            exact Or.inl (gAn_step hw h1 h2 (refl _ (e.lt hok).2))) e
        rcases key with key | key
        · exact key
        · subst key; exact refl a ha
      · have hf6 : FrC (tc k) σ s6 := by rw [hs6]; exact FrC.sA σ _ ⟨by omega, by omega⟩
        have hM6 : RepM s6 2 M := hM.tw hk hf6
        have e61 : s6.1 = σ.1 := by rw [hs6]; rfl
        have ek : s6.2.1 (k + 1) = A := by rw [hs6, sA_s]
        have hr10 : r < 10 := Nat.lt_of_not_le (fun y => q2 (hler.mpr y))
        refine t_growAlone hk hM6 hok (fun x hbx hzx => ?_)
        rw [e61, ek] at hzx ⊢
        refine ih2 _ _ _ ⟨r + 1, gAn M (σ.1 k 0) A (mN M), nI_1 r, hr10, hbx, ?_, gAn_sound hok hsd _ (Nat.le_refl _), ?_, fun y => by rw [hzx y]; exact hzx y⟩ ?_
        · rw [hs6, sA_sA]
        · intro a ha j y
          rcases y with y | ⟨t, e, y⟩
          · exact gAn_up (n := 0) (Nat.zero_le _) (hcp a ha j y)
          · obtain ⟨w, hw, h1, h2, rfl, rfl⟩ := id e
            exact gAn_step hw h1 h2 (hcp _ (e.lt hok).2 j y)
        · show 10 - (nI r + 1).toNatClampNeg < 10 - (nI r).toNatClampNeg
          rw [nI_1 r, nI_clamp (by omega), hcr]; omega
    · intro a ha j y
      rw [hg a ha] at y
      have hj := b_lt y
      rw [b_bitI (by omega) hj] at y
      subst y
      exact R1.refl _
    · intro a ha j y
      rw [hg a ha, show j = a from (show a = j from y).symm, b_bitI (by omega) (by omega)]
  · have hlt : i < 10 := Nat.lt_of_not_le (fun z => q (hle.mpr z))
    refine ⟨vp_in_nI hlt (by decide), fun s4 hs4 => ?_⟩
    refine ih _ _ ⟨i + 1, upd g i (1 <<< (nI i &&& 31)), nI_1 i, hlt, ?_, ?_⟩ ?_
    · rw [hs4, hs, sA_s, hc, sA_sA]
    · intro j hj
      by_cases e : j = i
      · rw [e]; exact upd_s
      · rw [upd_n e]; exact hg j (by omega)
    · show 10 - (nI i + 1).toNatClampNeg < 10 - (nI i).toNatClampNeg
      rw [nI_1 i, nI_clamp (by omega), hc]; omega
theorem t_findAlong {σ : ft_St} {k : Nat} {M : MM} {Φ : ft_St → Prop} (hk : Kt k) (hM : RepM σ 2 M) (hok : MOk M) (hA : TwA M (σ.1 k 0) (σ.2.1 (k + 1))) (h : ∀ B, TwG M (σ.1 k 0) B → Φ (ft_sA σ (k + 2) B)) : w_X6_findAlong k σ Φ := by
  have hn := hok.1
  unfold w_X6_findAlong
  have hN : cC_N (k + 2) = 80 := by rcases hk with rfl | rfl <;> rfl
  refine t_fill (by rw [hN]; decide) (fun g hg => ?_)
  rw [hN] at hg
  refine LP2.rule (fun x2 s3 => ∃ (w : Nat) (B : Nat → Int32), x2 = nI w ∧ w ≤ mN M ∧ s3 = ft_sA σ (k + 2) B ∧ ∀ d q, d < 8 → q < 10 → ∀ j, bt (B (d * 10 + q)) j = true ↔ bt (σ.1 k 0) d = true ∧ bt (mX M) d = false ∧ ∃ v, v < w ∧ mD M v = d ∧ mF M v = q ∧ R1 (Alp M (σ.1 k 0)) (mT M v) j) (fun x2 _ => 24 - x2.toNatClampNeg) ?_ ⟨0, g, rfl, Nat.zero_le _, rfl, fun d q hd hq j => ?_⟩
  · rintro X4 x2 s3 ⟨w, B, rfl, hw, hs3, hB⟩ ih
    have hf3 : FrC (tc k) σ s3 := by rw [hs3]; exact FrC.sA σ _ ⟨by omega, by omega⟩
    have hM3 : RepM s3 2 M := hM.tw hk hf3
    have e1 : s3.1 = σ.1 := by rw [hs3]; rfl
    have ek2 : s3.2.1 (k + 2) = B := by rw [hs3, sA_s]
    have ek1 : s3.2.1 (k + 1) = σ.2.1 (k + 1) := by rw [hs3, sA_n _ _ (by omega)]
    have hc : (nI w).toNatClampNeg = w := nI_clamp (by omega)
    rw [hM3.1]
    have hle : nI (mN M) ≤ nI w ↔ mN M ≤ w := nI_leI (by omega) (by omega)
    refine ⟨fun q => ?_, fun q => ?_⟩
    · have e : w = mN M := by have := hle.mp q; omega
      subst e
      rw [hs3]
      exact h B hB
    · have hlt : w < mN M := Nat.lt_of_not_le (fun z => q (hle.mpr z))
      obtain ⟨hF, hD, hT⟩ := hM3.2.2.2 w hlt
      obtain ⟨bF, bD, bT⟩ := hok.2.1 w hlt
      have hin : vp_in (nI w) 24 := vp_in_nI (by omega) (by decide)
      have hmu : 24 - (nI w + 1).toNatClampNeg < 24 - (nI w).toNatClampNeg := by
        rw [nI_1 w, nI_clamp (by omega), hc]; omega
      have tr : ∀ {b : Bool}, ¬ b01 b = 0 → b = true := fun {b} z => by
        cases b
        · exact absurd rfl z
        · rfl
      have stay : (bt (σ.1 k 0) (mD M w) = false ∨ bt (mX M) (mD M w) = true) → X4 (nI w + 1) s3 := by
        intro y
        refine ih _ _ ⟨w + 1, B, nI_1 w, hlt, hs3, fun d q hd hq j => ?_⟩ hmu
        rw [hB d q hd hq j]
        constructor
        · rintro ⟨a, b, v, hv, h1⟩; exact ⟨a, b, v, by omega, h1⟩
        · rintro ⟨a, b, v, hv, h1, h2⟩
          by_cases e : v = w
          · subst e
            rcases y with y | y
            · rw [h1, a] at y; cases y
            · rw [h1, b] at y; cases y
          · exact ⟨a, b, v, by omega, h1, h2⟩
      rw [hc, show s3.2.1 4 w = nI (mD M w) from hD, show s3.2.1 3 w = nI (mF M w) from hF, show s3.2.1 5 w = nI (mT M w) from hT]
      refine ⟨hin, ?_⟩
      rintro _ rfl
      refine t_isSeenT (by omega) ?_
      rw [e1]
      refine ⟨fun z => stay (Or.inl ((b01_z _).mp z)), fun z => t_isFault (by omega) ?_⟩
      rw [hM3.2.2.1]
      refine ⟨fun z2 => stay (Or.inr (tr z2)), fun z2 => ?_⟩
      have n1 := tr z
      have n2 := (b01_z _).mp z2
      have ei : nI (mD M w) * 10 + nI (mF M w) = nI (mD M w * 10 + mF M w) := by
        rw [show (10 : Int32) = nI 10 from rfl, pk_mul, nI_add]
      have hin80 : vp_in (nI (mD M w * 10 + mF M w)) 80 := vp_in_nI (by omega) (by decide)
      rw [ei, ek1, ek2, nI_clamp (show mD M w * 10 + mF M w < 2 ^ 31 by omega), nI_clamp (show mT M w < 2 ^ 31 by omega)]
      refine ⟨hin, hin80, hin, vp_in_nI bT (by decide), hin80, fun s8 h8 => ?_⟩
      refine ih _ _ ⟨w + 1, _, nI_1 w, hlt, by rw [h8, hs3, sA_sA], fun d q hd hq j => ?_⟩ hmu
      rw [upd_or, hB d q hd hq j, hA _ bT j]
      constructor
      · rintro (⟨a, b, v, hv, h1⟩ | ⟨e, h1⟩)
        · exact ⟨a, b, v, by omega, h1⟩
        · have e1 : d = mD M w := by omega
          have e2 : q = mF M w := by omega
          subst e1 e2
          exact ⟨n1, n2, w, by omega, rfl, rfl, h1⟩
      · rintro ⟨a, b, v, hv, h1, h2, h3⟩
        by_cases e : v = w
        · subst e
          subst h1 h2
          exact Or.inr ⟨rfl, h3⟩
        · exact Or.inl ⟨a, b, v, by omega, h1, h2, h3⟩
  · rw [hg _ (by omega), b_0]
    constructor
    · intro z; cases z
    · rintro ⟨_, _, v, hv, _⟩; omega
/-- where the second one can be behind a way of the first one -/
def PTr (sn : Int32) (G : Nat → Int32) (d : Nat) (S : Int32) (q' : Nat) : Prop := (bt sn d = false ∧ bt S q' = true) ∨ (bt sn d = true ∧ ∃ q, q < 10 ∧ bt S q = true ∧ bt (G (d * 10 + q)) q' = true)
theorem t_partners {σ : ft_St} {k d : Nat} {S : Int32} {Φ : Int32 → Prop} (hd : d < 8) (h : ∀ r, (∀ j, bt r j = true ↔ PTr (σ.1 k 0) (σ.2.1 (k + 2)) d S j) → Φ r) : w_X6_partners k (nI d) S σ Φ := by
  unfold w_X6_partners
  rw [b_val (show d < 32 by omega)]
  refine ⟨fun z => ?_, fun z => ?_⟩
  · have hs : bt (σ.1 k 0) d = true := by
      cases e : bt (σ.1 k 0) d
      · rw [e] at z; exact absurd rfl z
      · rfl
    refine LP2.rule (fun x1 x2 => ∃ i, x2 = nI i ∧ i ≤ 10 ∧ ∀ j, bt x1 j = true ↔ ∃ q, q < i ∧ bt S q = true ∧ bt (σ.2.1 (k + 2) (d * 10 + q)) j = true) (fun _ x2 => 10 - x2.toNatClampNeg) ?_ ⟨0, rfl, by decide, fun j => ?_⟩
    · rintro X x1 x2 ⟨i, rfl, hi, hx⟩ ih
      have hc : (nI i).toNatClampNeg = i := nI_clamp (by omega)
      have hle : (10 : Int32) ≤ nI i ↔ 10 ≤ i := nI_leI (a := 10) (by decide) (by omega)
      have hmu : i < 10 → 10 - (nI i + 1).toNatClampNeg < 10 - (nI i).toNatClampNeg := by
        intro _
        rw [nI_1 i, nI_clamp (by omega), hc]; omega
      refine ⟨fun q => ?_, fun q => ?_⟩
      · have hi10 : i = 10 := by have := hle.mp q; omega
        subst hi10
        refine h x1 (fun j => ?_)
        rw [hx j]
        constructor
        · intro y; exact Or.inr ⟨hs, y⟩
        · rintro (⟨a, -⟩ | ⟨-, y⟩)
          · rw [hs] at a; cases a
          · exact y
      · have hlt : i < 10 := Nat.lt_of_not_le (fun z => q (hle.mpr z))
        have ei : nI d * 10 + nI i = nI (d * 10 + i) := by
          rw [show (10 : Int32) = nI 10 from rfl, pk_mul, nI_add]
        rw [b_tst (by omega), ei, nI_clamp (show d * 10 + i < 2 ^ 31 by omega)]
        refine ⟨fun z => ih _ _ ⟨i + 1, nI_1 i, hlt, fun j => ?_⟩ (hmu hlt), fun z => ⟨vp_in_nI (by omega) (by decide), ?_⟩⟩
        · rw [hx j]
          constructor
          · rintro ⟨a, ha, q⟩; exact ⟨a, by omega, q⟩
          · rintro ⟨a, ha, q1, q2⟩
            refine ⟨a, ?_, q1, q2⟩
            have : a ≠ i := fun e => z (e ▸ q1)
            omega
        · rintro _ rfl
          refine ih _ _ ⟨i + 1, nI_1 i, hlt, fun j => ?_⟩ (hmu hlt)
          rw [b_orI, hx j]
          constructor
          · rintro (⟨a, ha, q⟩ | q)
            · exact ⟨a, by omega, q⟩
            · exact ⟨i, by omega, z, q⟩
          · rintro ⟨a, ha, q1, q2⟩
            by_cases e : a = i
            · subst e; exact Or.inr q2
            · exact Or.inl ⟨a, by omega, q1, q2⟩
    · rw [b_0]
      constructor
      · intro z; cases z
      · rintro ⟨a, ha, _⟩; omega
  · have hs : bt (σ.1 k 0) d = false := by
      cases e : bt (σ.1 k 0) d
      · rfl
      · rw [e] at z; exact absurd z (by decide)
    refine h S (fun j => ⟨fun y => Or.inl ⟨hs, y⟩, ?_⟩)
    rintro (⟨-, y⟩ | ⟨a, -⟩)
    · exact y
    · rw [hs] at a; cases a
