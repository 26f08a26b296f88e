/-! numbers within bounds -/
def isN (a : Int32) (m : Nat) : Prop := ∃ n, n ≤ m ∧ a = nI n
theorem isN_iff {a : Int32} {m : Nat} (hm : m < 2 ^ 31) : isN a m ↔ ¬ a < 0 ∧ ¬ nI m < a := by
  have e0 : (0 : Int32).toInt = 0 := by decide
  have em := nI_toInt hm
  rw [Int32.lt_iff_toInt_lt, Int32.lt_iff_toInt_lt, e0, em]
  constructor
  · rintro ⟨n, hn, rfl⟩
    have en := nI_toInt (show n < 2 ^ 31 by omega)
    rw [en]; omega
  · rintro ⟨h1, h2⟩
    refine ⟨a.toInt.toNat, by omega, ?_⟩
    apply Int32.toInt_inj.mp
    rw [nI_toInt (by omega)]
    omega
theorem r_in {a : Int32} {m : Nat} {Φ : Int32 → Prop} (hm : m < 2 ^ 31) (h1 : isN a m → Φ 1) (h0 : ¬ isN a m → Φ 0) : w_X10_in a 0 (nI m) Φ := by
  unfold w_X10_in
  rw [isN_iff hm] at h1 h0
  intro J hJ
  exact ⟨fun y => hJ (h0 (fun z => z.1 y)), fun y => ⟨fun y2 => hJ (h0 (fun z => z.2 y2)), fun y2 => h1 ⟨y, y2⟩⟩⟩
theorem t_within {a : Int32} {m : Nat} {Φ : Int32 → Prop} (hm : m < 2 ^ 31) (h1 : isN a m → Φ 1) (h0 : ¬ isN a m → Φ 0) : w_X9_isWithin a (nI m) Φ := by
  unfold w_X9_isWithin
  rw [isN_iff hm] at h1 h0
  intro J hJ
  exact ⟨fun y => hJ (h0 (fun z => z.1 y)), fun y => ⟨fun y2 => hJ (h0 (fun z => z.2 y2)), fun y2 => h1 ⟨y, y2⟩⟩⟩
theorem r_isPlace {a : Int32} {Φ : Int32 → Prop} (h1 : isN a 9 → Φ 1) (h0 : ¬ isN a 9 → Φ 0) : w_X10_isPlace a Φ := r_in (m := 9) (by decide) (fun y => ⟨Or.inr rfl, h1 y⟩) (fun y => ⟨Or.inl rfl, h0 y⟩)
theorem r_isDeed {a : Int32} {Φ : Int32 → Prop} (h1 : isN a 7 → Φ 1) (h0 : ¬ isN a 7 → Φ 0) : w_X10_isDeed a Φ := r_in (m := 7) (by decide) (fun y => ⟨Or.inr rfl, h1 y⟩) (fun y => ⟨Or.inl rfl, h0 y⟩)
theorem t_isPlace {a : Int32} {Φ : Int32 → Prop} (h1 : isN a 9 → Φ 1) (h0 : ¬ isN a 9 → Φ 0) : w_X9_isPlace a Φ := t_within (m := 9) (by decide) (fun y => ⟨Or.inr rfl, h1 y⟩) (fun y => ⟨Or.inl rfl, h0 y⟩)
theorem t_isDeed {a : Int32} {Φ : Int32 → Prop} (h1 : isN a 7 → Φ 1) (h0 : ¬ isN a 7 → Φ 0) : w_X9_isDeed a Φ := t_within (m := 7) (by decide) (fun y => ⟨Or.inr rfl, h1 y⟩) (fun y => ⟨Or.inl rfl, h0 y⟩)
/-! eyes -/
def EyO (M : MM) (e : Int32) : Prop := ∀ i, bt e i = true → i < 8 ∧ bt (mS M) i = false ∧ bt (mX M) i = false
theorem low8 {x : Int32} (h : ∀ i, bt x i = true → i < 8) : ∃ n, n < 256 ∧ x = nI n := by
  refine ⟨x.toBitVec.toNat, ?_, ?_⟩
  · refine Nat.lt_pow_two_of_testBit (n := 8) _ (fun i hi => ?_)
    cases e : x.toBitVec.toNat.testBit i
    · rfl
    · have := h i e
      omega
  · apply b_ext
    intro i hi
    rw [b_nI hi]
    rfl
theorem n8_bits {n i : Nat} (hn : n < 256) (h : bt (nI n) i = true) : i < 8 := by
  rw [b_nI (b_lt h)] at h
  refine Nat.lt_of_not_le (fun z => ?_)
  rw [Nat.testBit_lt_two_pow (Nat.lt_of_lt_of_le hn (show 2 ^ 8 ≤ 2 ^ i from Nat.pow_le_pow_right (by decide) z))] at h
  cases h
theorem and0 {x y : Int32} : x &&& y = 0 ↔ ∀ i, bt x i = true → bt y i = false := by
  rw [b_eq0]
  constructor
  · intro h i hi
    have := h i (b_lt hi)
    rw [b_and, hi] at this
    exact this
  · intro h i _
    rw [b_and]
    cases e : bt x i
    · rfl
    · rw [h i e]; rfl
theorem or_f {x y : Int32} {i : Nat} : bt (x ||| y) i = false ↔ bt x i = false ∧ bt y i = false := by
  rw [b_or]; cases bt x i <;> cases bt y i <;> decide
theorem EyO_r {M : MM} {e : Int32} : EyO M e ↔ isN e 255 ∧ e &&& (mS M ||| mX M) = 0 := by
  rw [and0]
  constructor
  · intro h
    obtain ⟨n, hn, e1⟩ := low8 (fun i hi => (h i hi).1)
    exact ⟨⟨n, by omega, e1⟩, fun i hi => or_f.mpr (h i hi).2⟩
  · rintro ⟨⟨n, hn, rfl⟩, h⟩ i hi
    exact ⟨n8_bits (by omega) hi, or_f.mp (h i hi)⟩
theorem r_areEyes {σ : ft_St} {M : MM} {e : Int32} {Φ : Int32 → Prop} (hM : RepRM σ M) (h1 : EyO M e → Φ 1) (h0 : ¬ EyO M e → Φ 0) : w_X10_areEyes e σ Φ := by
  unfold w_X10_areEyes
  rw [EyO_r] at h1 h0
  rw [hM.2.1, hM.2.2.1]
  refine r_in (m := 255) (by decide) (fun y J hJ => ⟨fun z => absurd z (by decide), fun _ => ⟨fun z => hJ (h0 (fun w => z w.2)), fun z => h1 ⟨y, z⟩⟩⟩) (fun y J hJ => ⟨fun _ => hJ (h0 (fun w => y w.1)), fun z => absurd rfl z⟩)
/-- with other eyes -/
def withS (M : MM) (s : Int32) : MM := (mN M, mF M, mD M, mT M, s, mX M)
theorem withS_ring {M : MM} {s sn : Int32} : RING (withS M s) sn = RING M sn := rfl
theorem withS_ringB {M : MM} {s sn : Int32} : ringB (withS M s) sn = ringB M sn := rfl
theorem withS_ok {M : MM} (hok : MOk M) {s : Int32} (h : ∀ i, bt s i = true → i < 8) : MOk (withS M s) := ⟨hok.1, hok.2.1, h, hok.2.2.2⟩
theorem or_lt8 {M : MM} (hok : MOk M) {e : Int32} (h : EyO M e) : ∀ i, bt (mS M ||| e) i = true → i < 8 := fun i hi => ((b_orI _ _ i).mp hi).elim (hok.2.2.1 i) (fun y => (h i y).1)
theorem r_isApartWith {σ : ft_St} {M : MM} {e : Int32} {Φ : Int32 → ft_St → Prop} (hM : RepRM σ M) (hok : MOk M) (he : EyO M e) (h : ∀ s, KeepR σ s → Φ (b01 (!ringB M (mS M ||| e))) s) : w_X10_isApartWith e σ Φ := by
  unfold w_X10_isApartWith
  rintro s1 h1
  have hM1 : RepRM s1 (withS M (mS M ||| e)) := by
    rw [h1]
    refine ⟨?_, ?_, ?_, hM.2.2.2⟩
    · rw [sF_1, if_neg (by decide)]; exact hM.1
    · rw [sF_s, hM.2.1]; rfl
    · rw [sF_1, if_neg (by decide)]; exact hM.2.2.1
  refine r_isApart hM1 (withS_ok hok (or_lt8 hok he)) (fun s3 hK s4 h4 => ⟨b01_bz _, ?_⟩)
  refine h s4 ⟨fun j a b c => ?_, fun a q => ?_⟩
  · rw [h4]
    by_cases e5 : j = 5
    · rw [e5, sF_s]
    · rw [sF_1, if_neg e5, hK.1 j a b c, h1, sF_1, if_neg e5]
  · rw [h4, sF_2, hK.2 a q, h1, sF_2]
/-! the fewest eyes -/
noncomputable def bc (x : Int32) : Nat := cnt (fun j => bt x j = true) 20
def EyV (M : MM) (e : Int32) : Prop := EyO M e ∧ ¬ RING M (mS M ||| e)
def IsFew (M : MM) (r : Int32) : Prop := (r = -1 ∧ ∀ e, EyO M e → RING M (mS M ||| e)) ∨ ∃ n, n < 256 ∧ r = nI n ∧ EyV M (nI n) ∧ ∀ m, m < 256 → EyV M (nI m) → bc (nI n) < bc (nI m) ∨ (bc (nI n) = bc (nI m) ∧ n ≤ m)
theorem nI_ne_m1' {k : Nat} (hk : k < 2 ^ 31) : nI k ≠ -1 := by
  intro e
  have h1 := nI_toInt hk
  rw [e] at h1
  have h2 : (-1 : Int32).toInt = -1 := by decide
  omega
theorem IsFew.uniq {M : MM} {r r' : Int32} (h : IsFew M r) (h' : IsFew M r') : r = r' := by
  rcases h with ⟨e, h⟩ | ⟨n, hn, e, h1, h2⟩ <;> rcases h' with ⟨e', h'⟩ | ⟨n', hn', e', h1', h2'⟩
  · rw [e, e']
  · exact absurd (h _ h1'.1) h1'.2
  · exact absurd (h' _ h1.1) h1.2
  · have a := h2 n' hn' h1'
    have b := h2' n hn h1
    have : n = n' := by omega
    rw [e, e', this]
theorem bc_le8 {x : Int32} (h : ∀ i, bt x i = true → i < 8) : bc x ≤ 8 := by
  unfold bc
  rw [cnt_cut (show 8 ≤ 20 by decide) h]
  exact cnt_le _ 8
/-- the answer of fewest -/
noncomputable def fewA (a r : Int32) : Int32 := if a = 0 ∨ r = -1 then r else nI (bc r)
theorem r_fewest {σ : ft_St} {M : MM} {a : Int32} {Φ : Int32 → ft_St → Prop} (hM : RepRM σ M) (hok : MOk M) (h1 : isN a 1 → ∀ r s, IsFew M r → KeepR σ s → Φ (fewA a r) s) (h0 : ¬ isN a 1 → w_X10_bad σ Φ) : w_X10_fewest a σ Φ := by
  unfold w_X10_fewest
  refine r_in (m := 1) (by decide) (fun y => ⟨fun _ => ?_, fun z => absurd z (by decide)⟩) (fun y => ⟨fun z => absurd rfl z, fun _ => h0 y⟩)
  have h2 := h1 y
  refine LP2.rule (fun x2 s3 => ∃ c, x2 = nI c ∧ c ≤ 9 ∧ KeepR σ s3 ∧ ∀ n, n < 256 → EyV M (nI n) → c ≤ bc (nI n)) (fun x2 _ => 9 - x2.toNatClampNeg) ?_ ⟨0, rfl, by decide, KeepR.refl σ, fun _ _ _ => Nat.zero_le _⟩
  rintro X4 x2 s3 ⟨c, rfl, hc, hK3, hlo⟩ ih
  have hcc : (nI c).toNatClampNeg = c := nI_clamp (by omega)
  have hlt : (8 : Int32) < nI c ↔ 8 < c := nI_ltI (a := 8) (by decide) (by omega)
  refine ⟨fun z => ?_, fun z => ?_⟩
  · have e9 : c = 9 := by have := hlt.mp z; omega
    subst e9
    have := h2 (-1) s3 (Or.inl ⟨rfl, fun e he => Classical.byContradiction (fun hr => ?_)⟩) hK3
    · unfold fewA at this
      rw [if_pos (Or.inr rfl)] at this
      exact this
    · obtain ⟨n, hn, rfl⟩ := low8 (fun i hi => (he i hi).1)
      have q := hlo n hn ⟨he, hr⟩
      have := bc_le8 (fun i hi => (he i hi).1)
      omega
  · have hc8 : c ≤ 8 := Nat.le_of_not_lt (fun w => z (hlt.mpr w))
    refine LP2.rule (fun x5 s6 => ∃ n, x5 = nI n ∧ n ≤ 256 ∧ KeepR σ s6 ∧ ∀ m, m < n → EyV M (nI m) → c < bc (nI m)) (fun x5 _ => 256 - x5.toNatClampNeg) ?_ ⟨0, rfl, by decide, hK3, fun m hm => absurd hm (Nat.not_lt_zero _)⟩
    rintro X7 x5 s6 ⟨n, rfl, hn, hK6, hm⟩ ih7
    have hcn : (nI n).toNatClampNeg = n := nI_clamp (by omega)
    have hle : (256 : Int32) ≤ nI n ↔ 256 ≤ n := nI_leI (a := 256) (by decide) (by omega)
    refine ⟨fun w => ?_, fun w => ?_⟩
    · have e : n = 256 := by have := hle.mp w; omega
      subst e
      exact ih _ _ ⟨c + 1, nI_1 c, by omega, hK6, fun m h3 h4 => hm m h3 h4⟩ (by rw [nI_1 c, nI_clamp (by omega), hcc]; omega)
    · have hlt2 : n < 256 := Nat.lt_of_not_le (fun w2 => w (hle.mpr w2))
      have hmu : 256 - (nI n + 1).toNatClampNeg < 256 - (nI n).toNatClampNeg := by
        rw [nI_1 n, nI_clamp (by omega), hcn]; omega
      have hb8 : bc (nI n) ≤ 8 := bc_le8 (fun i hi => n8_bits hlt2 hi)
      have go : ∀ s, KeepR σ s → (EyV M (nI n) → c < bc (nI n)) → X7 (nI n + 1) s := fun s hK q => ih7 _ _ ⟨n + 1, nI_1 n, hlt2, hK, fun m h3 h4 => by
        by_cases e : m = n
        · rw [e] at h4 ⊢; exact q h4
        · exact hm m (by omega) h4⟩ hmu
      refine r_ones ?_
      show (¬ nI (bc (nI n)) = nI c → _) ∧ _
      rw [nI_eq (show bc (nI n) < 2 ^ 31 by omega) (show c < 2 ^ 31 by omega)]
      refine ⟨fun w2 => go s6 hK6 (fun v => by have := hlo n hlt2 v; omega), fun w3 => ?_⟩
      have w2 : bc (nI n) = c := (nI_eq (show bc (nI n) < 2 ^ 31 by omega) (show c < 2 ^ 31 by omega)).mp w3
      refine r_areEyes (hM.keep hK6) (fun v => ⟨fun v2 => absurd v2 (by decide), fun _ => ?_⟩) (fun v => ⟨fun _ => go s6 hK6 (fun q => absurd q.1 v), fun v2 => absurd rfl v2⟩)
      refine r_isApartWith (hM.keep hK6) hok v (fun s11 hK11 => ?_)
      have hK := hK6.trans hK11
      cases er : ringB M (mS M ||| nI n)
      · refine ⟨fun v2 => absurd v2 (by decide), fun _ => ?_⟩
        have hnr : ¬ RING M (mS M ||| nI n) := by rw [← ringB_t, er]; decide
        have hf := h2 (nI n) s11 (Or.inr ⟨n, hlt2, rfl, ⟨v, hnr⟩, fun m h3 h4 => ?_⟩) hK
        · unfold fewA at hf
          refine ⟨fun v3 => ?_, fun v3 => ?_⟩
          · rw [if_neg (fun q => q.elim v3 (nI_ne_m1' (by omega))), w2] at hf; exact hf
          · rw [if_pos (Or.inl v3)] at hf; exact hf
        · rcases Nat.lt_or_ge m n with q | q
          · exact Or.inl (by have := hm m q h4; omega)
          · have := hlo m h3 h4
            omega
      · exact ⟨fun _ => go s11 hK (fun q => absurd (ringB_t.mp er) q.2), fun v2 => absurd rfl v2⟩
/-! the class -/
theorem t_areEnough {σ : ft_St} {M : MM} {e : Int32} {Φ : Int32 → ft_St → Prop} (hM : RepM σ 2 M) (hok : MOk M) (h : ∀ s, FrC (tc 66) σ s → Φ (b01 (!ringB M (mS M ||| e))) s) : w_X9_areEnough e σ Φ := by
  unfold w_X9_areEnough
  rw [hM.2.1]
  refine t_find (Or.inr rfl) hM hok (fun s1 hT hF => ?_)
  have hd := hT.2.2.2.2.apart hok
  have hf := h s1 hF
  refine ⟨fun y => ?_, fun y => ?_⟩
  · rw [ringB_t.mpr (hd.mp y)] at hf; exact hf
  · have : ringB M (mS M ||| e) = false := by
      cases er : ringB M (mS M ||| e)
      · rfl
      · exact absurd (hd.mpr (ringB_t.mp er)) y
    rw [this] at hf; exact hf
def FRE (M : MM) : Int32 := (255 &&& (mS M ^^^ (-1))) &&& (mX M ^^^ (-1))
theorem FRE_bt {M : MM} {i : Nat} : bt (FRE M) i = true ↔ i < 8 ∧ bt (mS M) i = false ∧ bt (mX M) i = false := by
  unfold FRE
  rw [b_and, b_and, b_255]
  by_cases hi : i < 8
  · rw [b_not _ (by omega), b_not _ (by omega)]
    simp [hi]
  · simp [hi]
theorem FRE_O {M : MM} : EyO M (FRE M) := fun _ h => FRE_bt.mp h
theorem EyO_c {M : MM} {e : Int32} : e &&& (FRE M ^^^ (-1)) = 0 ↔ EyO M e := by
  rw [and0]
  constructor
  · intro h i hi
    have := h i hi
    rw [b_not _ (b_lt hi)] at this
    refine FRE_bt.mp ?_
    cases e : bt (FRE M) i
    · rw [e] at this; cases this
    · rfl
  · intro h i hi
    rw [b_not _ (b_lt hi), FRE_bt.mpr (h i hi)]; rfl
theorem t_eyesFree {σ : ft_St} {M : MM} {Φ : Int32 → Prop} (hM : RepM σ 2 M) (h : Φ (FRE M)) : w_X1_eyesFree 2 σ Φ := by
  unfold w_X1_eyesFree
  rw [hM.2.1, hM.2.2.1]; exact h
theorem EyO.more {M : MM} {e : Int32} (he : EyO M e) : Sub8 (mS M ||| e) (mS M ||| FRE M) (mX M) := by
  refine ⟨fun d h => ?_, fun d h1 h2 => ?_⟩
  · rw [b_orI] at h ⊢
    exact h.elim Or.inl (fun y => Or.inr (FRE_bt.mpr (he d y)))
  · rw [b_orI] at h1
    rw [or_f] at h2
    rcases h1 with y | y
    · rw [h2.1] at y; cases y
    · exact (FRE_bt.mp y).2.2
theorem EyO.le {M : MM} {n F : Nat} (hn : n < 256) (hF : F < 256) (eF : FRE M = nI F) (h : EyO M (nI n)) : n ≤ F := by
  have : n &&& F = n := by
    apply Nat.eq_of_testBit_eq
    intro i
    rw [Nat.testBit_and]
    cases e : n.testBit i
    · rfl
    · have hi : i < 8 := Nat.lt_of_not_le (fun z => by
        rw [Nat.testBit_lt_two_pow (Nat.lt_of_lt_of_le hn (show 2 ^ 8 ≤ 2 ^ i from Nat.pow_le_pow_right (by decide) z))] at e
        cases e)
      have h1 : bt (nI n) i = true := by rw [b_nI (by omega)]; exact e
      have h2 := FRE_bt.mpr (h i h1)
      rw [eF, b_nI (by omega)] at h2
      rw [h2]; rfl
  rw [← this]; exact Nat.and_le_right
theorem t_findFewest {σ : ft_St} {M : MM} {Φ : Int32 → ft_St → Prop} (hM : RepM σ 2 M) (hok : MOk M) (h : ∀ r s, IsFew M r → FrC (tc 66) σ s → Φ r s) : w_X9_findFewest σ Φ := by
  unfold w_X9_findFewest
  refine t_eyesFree hM (t_areEnough hM hok (fun s3 hF3 => ?_))
  obtain ⟨F, hF, eF⟩ := low8 (fun i hi => (FRE_bt (M := M).mp hi).1)
  have hM' : ∀ {s}, FrC (tc 66) σ s → RepM s 2 M := fun {s} q => hM.tw (Or.inr rfl) q
  cases er : ringB M (mS M ||| FRE M)
  rotate_left
  · refine ⟨fun z => absurd rfl z, fun _ => h _ _ (Or.inl ⟨rfl, fun e he => (ringB_t.mp er).more hok he.more⟩) hF3⟩
  refine ⟨fun _ => ?_, fun z => absurd z (by decide)⟩
  have vF : EyV M (nI F) := by
    rw [← eF]
    exact ⟨FRE_O, by rw [← ringB_t, er]; decide⟩
  have bnd : ∀ {n : Nat}, n < 256 → bc (nI n) ≤ 8 := fun {n} hn => bc_le8 (fun i hi => n8_bits hn hi)
  have strict : ∀ n, n < F → EyO M (nI n) → bc (nI n) < bc (nI F) := by
    intro n hn he
    refine cnt_lt (fun i _ hi => by rw [← eF]; exact FRE_bt.mpr (he i hi)) (Classical.byContradiction (fun hno => ?_))
    have : nI n = nI F := b_extI (fun i _ => by
      refine ⟨fun hi => by rw [← eF]; exact FRE_bt.mpr (he i hi), fun hi => Classical.byContradiction (fun q => hno ⟨i, ?_, hi, q⟩)⟩
      have := n8_bits hF hi
      omega)
    have := nI_inj (show n < 2 ^ 31 by omega) (show F < 2 ^ 31 by omega) this
    omega
  rw [eF]
  refine LP3.rule (fun x4 x5 s6 => ∃ b n, x4 = nI b ∧ x5 = nI n ∧ n ≤ F ∧ b < 256 ∧ FrC (tc 66) σ s6 ∧ EyV M (nI b) ∧ (b < n ∨ b = F) ∧ ∀ m, (m < n ∨ m = F) → EyV M (nI m) → bc (nI b) < bc (nI m) ∨ (bc (nI b) = bc (nI m) ∧ b ≤ m)) (fun _ x5 _ => F - x5.toNatClampNeg) ?_ ⟨F, 0, rfl, rfl, Nat.zero_le F, hF, hF3, vF, Or.inr rfl, fun m hm _ => Or.inr ⟨by rw [hm.elim (fun q => absurd q (Nat.not_lt_zero _)) id], by omega⟩⟩
  rintro X7 x4 x5 s6 ⟨b, n, rfl, rfl, hn, hb, hF6, hv, hbn, hall⟩ ih
  have hcn : (nI n).toNatClampNeg = n := nI_clamp (by omega)
  have hle : nI F ≤ nI n ↔ F ≤ n := nI_leI (by omega) (by omega)
  refine ⟨fun z => ?_, fun z => ?_⟩
  · have e : n = F := by have := hle.mp z; omega
    refine h _ _ (Or.inr ⟨b, hb, rfl, hv, fun m hm vm => hall m ?_ vm⟩) hF6
    have := EyO.le hm hF eF vm.1
    omega
  · have hlt : n < F := Nat.lt_of_not_le (fun w => z (hle.mpr w))
    have hmu : F - (nI n + 1).toNatClampNeg < F - (nI n).toNatClampNeg := by
      rw [nI_1 n, nI_clamp (by omega), hcn]; omega
    have b1 := bnd (n := n) (by omega)
    have b2 := bnd hb
    have go : ∀ s, FrC (tc 66) σ s → (EyV M (nI n) → bc (nI b) ≤ bc (nI n)) → X7 (nI b) (nI n + 1) s := by
      intro s hs q
      refine ih _ _ _ ⟨b, n + 1, rfl, nI_1 n, hlt, hb, hs, hv, hbn.imp (fun w => by omega) id, fun m hm vm => ?_⟩ hmu
      by_cases e : m = n
      · rw [e] at vm ⊢
        have q1 := q vm
        rcases hbn with w | w
        · omega
        · rw [w] at q1
          have := strict n hlt vm.1
          omega
      · exact hall m (by omega) vm
    refine t_bitCount (fun i hi => by have := n8_bits (by omega) hi; omega) (t_bitCount (fun i hi => by have := n8_bits hb hi; omega) ?_)
    have hle2 : nI (bc (nI b)) ≤ nI (bc (nI n)) ↔ bc (nI b) ≤ bc (nI n) := nI_leI (by omega) (by omega)
    have main : ∀ x10 : Int32, (x10 = 0 ↔ bc (nI b) ≤ bc (nI n)) → (¬ (nI n &&& (nI F ^^^ (-1))) = 0 → X7 (nI b) (nI n + 1) s6) ∧ ((nI n &&& (nI F ^^^ (-1))) = 0 → (x10 = 0 → X7 (nI b) (nI n + 1) s6) ∧ (¬ x10 = 0 → w_X9_areEnough (nI n) s6 (fun (r12 : Int32) (s13 : ft_St) => (r12 = 0 → X7 (nI b) (nI n + 1) s13) ∧ (¬ r12 = 0 → X7 (nI n) (nI n + 1) s13)))) := by
      intro x10 hx
      rw [← eF, EyO_c]
      refine ⟨fun w => go s6 hF6 (fun v => absurd v.1 w), fun w => ⟨fun w2 => go s6 hF6 (fun _ => hx.mp w2), fun w2 => t_areEnough (hM' hF6) hok (fun s13 h13 => ?_)⟩⟩
      have hs := hF6.trans h13
      cases e2 : ringB M (mS M ||| nI n)
      · refine ⟨fun v => absurd v (by decide), fun _ => ?_⟩
        have hl : bc (nI n) < bc (nI b) := Nat.lt_of_not_le (fun q => w2 (hx.mpr q))
        refine ih _ _ _ ⟨n, n + 1, rfl, nI_1 n, hlt, by omega, hs, ⟨w, by rw [← ringB_t, e2]; decide⟩, Or.inl (by omega), fun m hm vm => ?_⟩ hmu
        by_cases e : m = n
        · rw [e]; exact Or.inr ⟨rfl, Nat.le_refl _⟩
        · have := hall m (by omega) vm
          omega
      · exact ⟨fun _ => go s13 hs (fun v => absurd (ringB_t.mp e2) v.2), fun v => absurd rfl v⟩
    intro J11 hJ11
    exact ⟨fun w => hJ11 0 (main 0 ⟨fun _ => hle2.mp w, fun _ => rfl⟩), fun w => hJ11 1 (main 1 ⟨fun v => absurd v (by decide), fun v => absurd (hle2.mpr v) w⟩)⟩
