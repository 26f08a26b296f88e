/-! the machine, as numbers: how many ways, from, deed, to; seen, faults -/
abbrev MM : Type := Nat × (Nat → Nat) × (Nat → Nat) × (Nat → Nat) × Int32 × Int32
abbrev mN (M : MM) : Nat := M.1
abbrev mF (M : MM) : Nat → Nat := M.2.1
abbrev mD (M : MM) : Nat → Nat := M.2.2.1
abbrev mT (M : MM) : Nat → Nat := M.2.2.2.1
abbrev mS (M : MM) : Int32 := M.2.2.2.2.1
abbrev mX (M : MM) : Int32 := M.2.2.2.2.2
def MOk (M : MM) : Prop := mN M ≤ 24 ∧ (∀ w, w < mN M → mF M w < 10 ∧ mD M w < 8 ∧ mT M w < 10) ∧ (∀ i, bt (mS M) i = true → i < 8) ∧ (∀ i, bt (mX M) i = true → i < 8)
def mkB (M : MM) (w i : Nat) : Nat := if 10 ≤ i ∨ bt (mX M) (mD M w) = true then mT M w + 10 else mT M w
theorem mkB_lt {M : MM} (h : MOk M) {w i : Nat} (hw : w < mN M) : mkB M w i < 20 := by
  have := (h.2.1 w hw).2.2
  unfold mkB
  split <;> omega
/-- one step by a way whose deed is of a kind -/
def Ew (M : MM) (Dp : Nat → Prop) (i j : Nat) : Prop := ∃ w, w < mN M ∧ Dp (mD M w) ∧ (i = mF M w ∨ i = mF M w + 10) ∧ j = mkB M w i
theorem Ew.lt {M : MM} (h : MOk M) {Dp : Nat → Prop} {i j : Nat} (e : Ew M Dp i j) : i < 20 ∧ j < 20 := by
  obtain ⟨w, hw, -, h2, h3⟩ := e
  have := (h.2.1 w hw).1
  exact ⟨by omega, by rw [h3]; exact mkB_lt h hw⟩
def Un (M : MM) : Nat → Prop := fun d => bt (mS M) d = false
abbrev Ru (M : MM) : Nat → Nat → Prop := R1 (Ew M (Un M))
theorem R1.lt {E : Nat → Nat → Prop} {N i j : Nat} (hE : ∀ a b, E a b → b < N) (hi : i < N) (h : R1 E i j) : j < N := h (fun j => j < N) (fun a q => by rw [q]; exact hi) (fun a b _ e => hE a b e)
/-- what a sight leads to -/
def AF (M : MM) (S : Int32) (d j : Nat) : Prop := ∃ i, bt S i = true ∧ ∃ t, Ew M (fun e => e = d) i t ∧ Ru M t j
noncomputable def AFT (M : MM) (S : Int32) (d : Nat) : Int32 := bS (AF M S d)
noncomputable def FST (M : MM) : Int32 := bS (Ru M 0)
noncomputable def MKS (M : MM) : Int32 := bS (R1 (Ew M (fun _ => True)) 0)
/-- the class's machine at cell k holds M -/
def RepM (σ : ft_St) (k : Nat) (M : MM) : Prop := σ.1 k 3 = nI (mN M) ∧ σ.1 k 4 = mS M ∧ σ.1 k 5 = mX M ∧ ∀ w, w < mN M → σ.2.1 (k + 1) w = nI (mF M w) ∧ σ.2.1 (k + 2) w = nI (mD M w) ∧ σ.2.1 (k + 3) w = nI (mT M w)
theorem RepM.same {σ σ' : ft_St} {k : Nat} {M : MM} (h : RepM σ k M) (h0 : σ'.1 k = σ.1 k) (h1 : σ'.2.1 (k + 1) = σ.2.1 (k + 1)) (h2 : σ'.2.1 (k + 2) = σ.2.1 (k + 2)) (h3 : σ'.2.1 (k + 3) = σ.2.1 (k + 3)) : RepM σ' k M := by
  unfold RepM
  rw [h0, h1, h2, h3]
  exact h
/-! the store's changes, seen -/
theorem sA_1 (σ : ft_St) (k : Nat) (f : Nat → Int32) : (ft_sA σ k f).1 = σ.1 := rfl
theorem sA_2 (σ : ft_St) (k : Nat) (f : Nat → Int32) (a : Nat) : (ft_sA σ k f).2.1 a = if a = k then f else σ.2.1 a := rfl
theorem sA_s (σ : ft_St) (k : Nat) (f : Nat → Int32) : (ft_sA σ k f).2.1 k = f := if_pos rfl
theorem sA_n (σ : ft_St) {k a : Nat} (f : Nat → Int32) (h : a ≠ k) : (ft_sA σ k f).2.1 a = σ.2.1 a := if_neg h
theorem sA_3 (σ : ft_St) (k : Nat) (f : Nat → Int32) : (ft_sA σ k f).2.2 = σ.2.2 := rfl
theorem sF_1 (σ : ft_St) (k j : Nat) (v : Int32) (a b : Nat) : (ft_sF σ k j v).1 a b = if b = j then (if a = k then v else σ.1 a b) else σ.1 a b := rfl
theorem sF_s (σ : ft_St) (k j : Nat) (v : Int32) : (ft_sF σ k j v).1 k j = v := by simp [ft_sF]
theorem sF_2 (σ : ft_St) (k j : Nat) (v : Int32) : (ft_sF σ k j v).2 = σ.2 := rfl
theorem sF_n (σ : ft_St) {k a : Nat} (j : Nat) (v : Int32) (h : a ≠ k) : (ft_sF σ k j v).1 a = σ.1 a := by
  funext b
  simp [ft_sF, h]
theorem sA_sA (σ : ft_St) (k : Nat) (f g : Nat → Int32) : ft_sA (ft_sA σ k f) k g = ft_sA σ k g := by
  unfold ft_sA
  refine Prod.ext rfl (Prod.ext ?_ rfl)
  funext a
  by_cases h : a = k <;> simp [h]
theorem sA_self (σ : ft_St) (k : Nat) : ft_sA σ k (σ.2.1 k) = σ := by
  unfold ft_sA
  refine Prod.ext rfl (Prod.ext ?_ rfl)
  funext a
  by_cases h : a = k <;> simp [h]
theorem upd_self (f : Nat → Int32) (k : Nat) : upd f k (f k) = f := by
  funext j
  by_cases h : j = k
  · subst h; exact pk_us
  · exact pk_un h
theorem upd_s {f : Nat → Int32} {k : Nat} {x : Int32} : upd f k x k = x := pk_us
theorem upd_n {f : Nat → Int32} {k j : Nat} {x : Int32} (h : j ≠ k) : upd f k x j = f j := pk_un h
/-! truth values -/
def b01 (b : Bool) : Int32 := if b then 1 else 0
theorem b01_z (b : Bool) : b01 b = 0 ↔ b = false := by cases b <;> decide
theorem b01_bz (b : Bool) : ft_bz (b01 b) := by cases b; exact Or.inl rfl; exact Or.inr rfl
/-! the class's machine: small calls -/
theorem t_isSeen {σ : ft_St} {k d : Nat} {Φ : Int32 → Prop} (hd : d < 32) (h : Φ (b01 (bt (σ.1 k 4) d))) : w_X1_isSeen k (nI d) σ Φ := by
  unfold w_X1_isSeen
  rw [b_tst hd]
  cases q : bt (σ.1 k 4) d <;> rw [q] at h
  · exact ⟨fun _ => h, fun z => by cases z⟩
  · exact ⟨fun z => absurd rfl z, fun _ => h⟩
theorem t_isFault {σ : ft_St} {k d : Nat} {Φ : Int32 → Prop} (hd : d < 32) (h : Φ (b01 (bt (σ.1 k 5) d))) : w_X1_isFault k (nI d) σ Φ := by
  unfold w_X1_isFault
  rw [b_tst hd]
  cases q : bt (σ.1 k 5) d <;> rw [q] at h
  · exact ⟨fun _ => h, fun z => by cases z⟩
  · exact ⟨fun z => absurd rfl z, fun _ => h⟩
theorem t_markBehind {σ : ft_St} {k w i : Nat} {M : MM} {Φ : Int32 → Prop} (hM : RepM σ k M) (hok : MOk M) (hw : w < mN M) (hi : i < 20) (h : Φ (nI (mkB M w i))) : w_X1_markBehind k (nI w) (nI i) σ Φ := by
  obtain ⟨h3, h4, h5, hr⟩ := hM
  obtain ⟨hn, hb, -, -⟩ := hok
  obtain ⟨hF, hD, hT⟩ := hr w hw
  have hc : (nI w).toNatClampNeg = w := nI_clamp (by omega)
  have hin : vp_in (nI w) 24 := vp_in_nI (by omega) (by decide)
  have hd : mD M w < 32 := by have := (hb w hw).2.1; omega
  unfold w_X1_markBehind
  rw [hc, hD, hT, h5, b_tst hd]
  have le10 : (10 : Int32) ≤ nI i ↔ 10 ≤ i := nI_leI (a := 10) (by decide) (by omega)
  rw [le10]
  intro J2 hJ2
  have yes : 10 ≤ i ∨ bt (mX M) (mD M w) = true → J2 1 := by
    intro q
    refine hJ2 1 ⟨fun z => absurd z (by decide), fun _ => ⟨hin, ?_⟩⟩
    rw [mkB, if_pos q] at h
    rw [show nI (mT M w) + 10 = nI (mT M w + 10) from (nI_add _ _)]
    exact h
  intro J3 hJ3
  refine ⟨fun q => hJ3 (yes (Or.inl q)), fun q => ⟨hin, fun z => ?_, fun z => hJ3 (yes (Or.inr z))⟩⟩
  refine hJ2 0 ⟨fun _ => ⟨hin, ?_⟩, fun z => absurd rfl z⟩
  rw [mkB, if_neg (by rintro (a | a); exact q a; exact z a)] at h
  exact h
