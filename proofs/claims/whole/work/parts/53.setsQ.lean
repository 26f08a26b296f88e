/-! what is asked of the sets -/
theorem t_verdict {S : Int32} {Φ : Int32 → Prop} (h : Φ (verd S)) : w_X9_verdict S Φ := by
  unfold w_X9_verdict
  rw [verd_c]
  unfold verd at h
  refine ⟨fun y => ⟨fun z => ?_, fun z => ?_⟩, fun y => ?_⟩
  · rw [if_neg y, if_neg z] at h; exact h
  · rw [if_neg y, if_pos z] at h; exact h
  · rw [if_pos y] at h; exact h
noncomputable def cntV (L : LL) (v : Int32) : Int32 := nI (cnt (fun j => verd (L.2.1 j) = v) L.1)
theorem cnt_1 (P : Nat → Prop) (j : Nat) : cnt P (j + 1) = cnt P j + cnt (fun i => P (j + i)) 1 := cnt_split P j 1
theorem cnt_1t {P : Nat → Prop} {j : Nat} (h : P j) : cnt P (j + 1) = cnt P j + 1 := by
  rw [cnt_1]
  have h1 := cnt_le (fun i => P (j + i)) 1
  have h2 : 0 < cnt (fun i => P (j + i)) 1 := cnt_pos.mpr ⟨0, by decide, h⟩
  omega
theorem cnt_1f {P : Nat → Prop} {j : Nat} (h : ¬ P j) : cnt P (j + 1) = cnt P j := by
  rw [cnt_1]
  have h2 : cnt (fun i => P (j + i)) 1 = 0 := cnt_zero.mpr (fun i hi z => by
    have : i = 0 := by omega
    subst this
    exact h z)
  omega
theorem t_countOfS {σ : ft_St} {L : LL} {v : Int32} {Φ : Int32 → Prop} (hL : RepLC σ L) (h : Φ (cntV L v)) : w_X3_countOf 55 v σ Φ := by
  unfold w_X3_countOf
  obtain ⟨hn, e3, hr⟩ := hL
  refine LP2.rule (fun x1 x2 => ∃ j, x2 = nI j ∧ j ≤ L.1 ∧ x1 = nI (cnt (fun j => verd (L.2.1 j) = v) j)) (fun _ x2 => 500 - x2.toNatClampNeg) ?_ ⟨0, rfl, Nat.zero_le _, rfl⟩
  rintro X3 x1 x2 ⟨j, rfl, hj, rfl⟩ ih
  have hcj : (nI j).toNatClampNeg = j := nI_clamp (by omega)
  have hle : σ.1 55 3 ≤ nI j ↔ L.1 ≤ j := by rw [e3]; exact nI_leI (by omega) (by omega)
  refine ⟨fun y => ?_, fun y => ?_⟩
  · have e : j = L.1 := by have := hle.mp y; omega
    subst e; exact h
  · have hlt : j < L.1 := Nat.lt_of_not_le (fun z => y (hle.mpr z))
    have hmu : 500 - (nI j + 1).toNatClampNeg < 500 - (nI j).toNatClampNeg := by
      rw [nI_1 j, nI_clamp (by omega), hcj]; omega
    rw [hcj, show (55 + 1 : Nat) = 56 from rfl, (hr j hlt).1]
    refine ⟨vp_in_nI (by omega) (by decide), t_verdict ⟨fun z => ih _ _ ⟨j + 1, nI_1 j, hlt, ?_⟩ hmu, fun z => ih _ _ ⟨j + 1, nI_1 j, hlt, ?_⟩ hmu⟩⟩
    · rw [cnt_1f z]
    · rw [cnt_1t z]; exact nI_1 _
theorem r_setsWith {σ : ft_St} {L : LL} {v : Int32} {Φ : Int32 → Prop} (hL : RepLR σ L) (h : Φ (cntV L v)) : w_X10_setsWith v σ Φ := by
  unfold w_X10_setsWith
  obtain ⟨hn, e3, hr⟩ := hL
  refine LP2.rule (fun x1 x2 => ∃ j, x2 = nI j ∧ j ≤ L.1 ∧ x1 = nI (cnt (fun j => verd (L.2.1 j) = v) j)) (fun _ x2 => 500 - x2.toNatClampNeg) ?_ ⟨0, rfl, Nat.zero_le _, rfl⟩
  rintro X3 x1 x2 ⟨j, rfl, hj, rfl⟩ ih
  have hcj : (nI j).toNatClampNeg = j := nI_clamp (by omega)
  have hle : σ.1 0 12 ≤ nI j ↔ L.1 ≤ j := by rw [e3]; exact nI_leI (by omega) (by omega)
  refine ⟨fun y => ?_, fun y => ?_⟩
  · have e : j = L.1 := by have := hle.mp y; omega
    subst e; exact h
  · have hlt : j < L.1 := Nat.lt_of_not_le (fun z => y (hle.mpr z))
    have hmu : 500 - (nI j + 1).toNatClampNeg < 500 - (nI j).toNatClampNeg := by
      rw [nI_1 j, nI_clamp (by omega), hcj]; omega
    rw [hcj, (hr j hlt).1]
    refine ⟨vp_in_nI (by omega) (by decide), r_verdict ⟨fun z => ih _ _ ⟨j + 1, nI_1 j, hlt, ?_⟩ hmu, fun z => ih _ _ ⟨j + 1, nI_1 j, hlt, ?_⟩ hmu⟩⟩
    · rw [cnt_1f z]; exact nI_add _ 0
    · rw [cnt_1t z]; exact nI_1 _
def IsSoon (L : LL) (v r : Int32) : Prop := (r = -1 ∧ ∀ j, j < L.1 → ¬ verd (L.2.1 j) = v) ∨ ∃ j, j < L.1 ∧ verd (L.2.1 j) = v ∧ (∀ i, i < j → ¬ verd (L.2.1 i) = v) ∧ r = L.2.2 j
theorem IsSoon.uniq {L : LL} {v r r' : Int32} (h : IsSoon L v r) (h' : IsSoon L v r') : r = r' := by
  rcases h with ⟨e, h⟩ | ⟨j, hj, e, h1, h2⟩ <;> rcases h' with ⟨e', h'⟩ | ⟨j', hj', e', h1', h2'⟩
  · rw [e, e']
  · exact absurd e' (h j' hj')
  · exact absurd e (h' j hj)
  · have : j = j' := by
      rcases Nat.lt_trichotomy j j' with q | q | q
      · exact absurd e (h1' j q)
      · exact q
      · exact absurd e' (h1 j' q)
    rw [h2, h2', this]
theorem t_fewestSights {σ : ft_St} {L : LL} {v : Int32} {Φ : Int32 → Prop} (hL : RepLC σ L) (h : ∀ r, IsSoon L v r → Φ r) : w_X3_fewestSights 55 v σ Φ := by
  unfold w_X3_fewestSights
  obtain ⟨hn, e3, hr⟩ := hL
  refine LP1.rule (fun x1 => ∃ j, x1 = nI j ∧ j ≤ L.1 ∧ ∀ i, i < j → ¬ verd (L.2.1 i) = v) (fun x2 => 500 - x2.toNatClampNeg) ?_ ⟨0, rfl, Nat.zero_le _, fun i hi => absurd hi (Nat.not_lt_zero _)⟩
  rintro X2 x1 ⟨j, rfl, hj, hall⟩ ih
  have hcj : (nI j).toNatClampNeg = j := nI_clamp (by omega)
  have hle : σ.1 55 3 ≤ nI j ↔ L.1 ≤ j := by rw [e3]; exact nI_leI (by omega) (by omega)
  refine ⟨fun y => ?_, fun y => ?_⟩
  · have e : j = L.1 := by have := hle.mp y; omega
    subst e; exact h _ (Or.inl ⟨rfl, hall⟩)
  · have hlt : j < L.1 := Nat.lt_of_not_le (fun z => y (hle.mpr z))
    have hin : vp_in (nI j) 500 := vp_in_nI (by omega) (by decide)
    rw [hcj, show (55 + 1 : Nat) = 56 from rfl, show (55 + 2 : Nat) = 57 from rfl, (hr j hlt).1, (hr j hlt).2]
    refine ⟨hin, t_verdict ⟨fun z => ih _ ⟨j + 1, nI_1 j, hlt, fun i hi => ?_⟩ (by rw [nI_1 j, nI_clamp (by omega), hcj]; omega), fun z => ⟨hin, h _ (Or.inr ⟨j, hlt, z, hall, rfl⟩)⟩⟩⟩
    by_cases e : i = j
    · rw [e]; exact z
    · exact hall i (by omega)
def vA (a : Int32) : Int32 := if a = 0 then 1 else 2
theorem r_soonest {σ : ft_St} {M : MM} {a : Int32} {Φ : Int32 → ft_St → Prop} (hM : RepRM σ M) (hok : MOk M) (h1 : isN a 1 → ∀ r s, IsSoon (BFS M) (vA a) r → KeepR σ s → Φ r s) (h0 : ¬ isN a 1 → w_X10_bad σ Φ) : w_X10_soonest a σ Φ := by
  unfold w_X10_soonest
  refine r_in (m := 1) (by decide) (fun y => ⟨fun _ => ?_, fun z => absurd z (by decide)⟩) (fun y => ⟨fun z => absurd rfl z, fun _ => h0 y⟩)
  have h2 := h1 y
  refine r_findsSets hM hok (fun s2 hL hK => ?_)
  obtain ⟨L, eL⟩ : ∃ L, L = BFS M := ⟨_, rfl⟩
  rw [← eL] at hL h2
  obtain ⟨hn, e3, hr⟩ := hL
  refine LP1.rule (fun x1 => ∃ j, x1 = nI j ∧ j ≤ L.1 ∧ ∀ i, i < j → ¬ verd (L.2.1 i) = vA a) (fun x2 => 500 - x2.toNatClampNeg) ?_ ⟨0, rfl, Nat.zero_le _, fun i hi => absurd hi (Nat.not_lt_zero _)⟩
  rintro X2 x1 ⟨j, rfl, hj, hall⟩ ih
  have hcj : (nI j).toNatClampNeg = j := nI_clamp (by omega)
  have hle : s2.1 0 12 ≤ nI j ↔ L.1 ≤ j := by rw [e3]; exact nI_leI (by omega) (by omega)
  refine ⟨fun y => ?_, fun y => ?_⟩
  · have e : j = L.1 := by have := hle.mp y; omega
    subst e; exact h2 _ s2 (Or.inl ⟨rfl, hall⟩) hK
  · have hlt : j < L.1 := Nat.lt_of_not_le (fun z => y (hle.mpr z))
    have hin : vp_in (nI j) 500 := vp_in_nI (by omega) (by decide)
    rw [hcj, (hr j hlt).1, (hr j hlt).2]
    refine ⟨hin, r_verdict (fun J7 hJ7 => ?_)⟩
    have go : J7 (vA a) := hJ7 _ ⟨fun z => ih _ ⟨j + 1, nI_1 j, hlt, fun i hi => by
      by_cases e : i = j
      · rw [e]; exact z
      · exact hall i (by omega)⟩ (by rw [nI_1 j, nI_clamp (by omega), hcj]; omega), fun z => ⟨hin, h2 _ s2 (Or.inr ⟨j, hlt, z, hall, rfl⟩) hK⟩⟩
    unfold vA at go
    exact ⟨fun z => by rw [if_neg z] at go; exact go, fun z => by rw [if_pos z] at go; exact go⟩
