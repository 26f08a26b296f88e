/-! the model's reading -/
def Bl (T : Nat → Nat) (pos p : Nat) : Prop := pos ≤ p ∧ ∀ i, pos ≤ i → i < p → T i = 32
theorem Bl.refl (T : Nat → Nat) (p : Nat) : Bl T p p := ⟨Nat.le_refl _, fun i h1 h2 => absurd h2 (by omega)⟩
theorem RES_sk {T : Nat → Nat} {tl : Nat} (q : QS) : ∀ (k pos : Nat), pos + k ≤ tl → (∀ i, pos ≤ i → i < pos + k → T i = 32) → RES T tl pos q = RES T tl (pos + k) q
  | 0, _, _, _ => rfl
  | k + 1, pos, h, hb => by
    rw [RES_bl q (by omega) (hb pos (Nat.le_refl _) (by omega)), RES_sk q k (pos + 1) (by omega) (fun i h1 h2 => hb i (by omega) (by omega)), show pos + 1 + k = pos + (k + 1) by omega]
theorem Bl.res {T : Nat → Nat} {tl pos p : Nat} (h : Bl T pos p) (hp : p ≤ tl) (q : QS) : RES T tl pos q = RES T tl p q := by
  have h1 := h.1
  have := RES_sk (T := T) (tl := tl) q (p - pos) pos (by omega) (fun i a b => h.2 i a (by omega))
  rw [show pos + (p - pos) = p by omega] at this
  exact this
theorem Bl.stay {T : Nat → Nat} {pos p : Nat} (h : Bl T pos p) (hn : ¬ T pos = 32) : p = pos := by
  have h1 := h.1
  by_cases e : p = pos
  · exact e
  · exact absurd (h.2 pos (Nat.le_refl _) (by omega)) hn
theorem sub97 {c : Nat} (hc : c ≤ 127) : isN (nI c - 97) 7 ↔ 97 ≤ c ∧ c ≤ 104 := by
  by_cases h : 97 ≤ c
  · rw [show nI c - 97 = nI (c - 97) from nI_sub h]
    constructor
    · rintro ⟨n, hn, e⟩
      have := nI_inj (show c - 97 < 2 ^ 31 by omega) (show n < 2 ^ 31 by omega) e
      omega
    · intro y; exact ⟨c - 97, by omega, rfl⟩
  · rw [isN_iff (by decide)]
    have hneg := (by decide +kernel : ∀ c, c < 97 → nI c - 97 < 0) c (by omega)
    exact ⟨fun y => absurd hneg y.1, fun y => absurd y.1 h⟩
theorem sub48 {c : Nat} (hc : c ≤ 127) : isN (nI c - 48) 9 ↔ 48 ≤ c ∧ c ≤ 57 := by
  by_cases h : 48 ≤ c
  · rw [show nI c - 48 = nI (c - 48) from nI_sub h]
    constructor
    · rintro ⟨n, hn, e⟩
      have := nI_inj (show c - 48 < 2 ^ 31 by omega) (show n < 2 ^ 31 by omega) e
      omega
    · intro y; exact ⟨c - 48, by omega, rfl⟩
  · rw [isN_iff (by decide)]
    have hneg := (by decide +kernel : ∀ c, c < 48 → nI c - 48 < 0) c (by omega)
    exact ⟨fun y => absurd hneg y.1, fun y => absurd y.1 h⟩
theorem subm97 : ¬ isN ((-1) - 97) 7 := by
  rw [isN_iff (by decide)]
  exact fun y => y.1 (by decide)
theorem subm48 : ¬ isN ((-1) - 48) 9 := by
  rw [isN_iff (by decide)]
  exact fun y => y.1 (by decide)
def RepRT (σ : ft_St) (tl : Nat) (T : Nat → Nat) : Prop := σ.1 0 22 = nI tl ∧ ∀ i, i < tl → σ.2.1 15 i = nI (T i)
theorem RepRT.oth {σ σ' : ft_St} {tl : Nat} {T : Nat → Nat} (h : RepRT σ tl T) (k : Oth σ σ') : RepRT σ' tl T := ⟨by rw [k.2.2.2.2]; exact h.1, fun i hi => by rw [k.2.2.2.1]; exact h.2 i hi⟩
theorem Oth.f {σ : ft_St} {j : Nat} (v : Int32) (h : j ≠ 7 ∧ j ≠ 8 ∧ j ≠ 10 ∧ j ≠ 22) : Oth σ (ft_sF σ 0 j v) := by
  have e : ∀ k, k ≠ j → (ft_sF σ 0 j v).1 0 k = σ.1 0 k := fun k hk => by rw [sF_1, if_neg hk]
  exact ⟨⟨e 7 (by omega), e 8 (by omega), rfl⟩, ⟨rfl, e 10 (by omega)⟩, rfl, rfl, e 22 (by omega)⟩
theorem RepRM.f {σ : ft_St} {M : MM} {j : Nat} (hM : RepRM σ M) (v : Int32) (h : j ≠ 1 ∧ j ≠ 5 ∧ j ≠ 6) : RepRM (ft_sF σ 0 j v) M := by
  refine ⟨?_, ?_, ?_, hM.2.2.2⟩
  · rw [sF_1, if_neg (by omega)]; exact hM.1
  · rw [sF_1, if_neg (by omega)]; exact hM.2.1
  · rw [sF_1, if_neg (by omega)]; exact hM.2.2.1
/-- the draft holds the old ways -/
def Ext (M D : MM) : Prop := mN M ≤ mN D ∧ ∀ w, w < mN M → mF D w = mF M w ∧ mD D w = mD M w ∧ mT D w = mT M w
theorem Ext.refl (M : MM) : Ext M M := ⟨Nat.le_refl _, fun _ _ => ⟨rfl, rfl, rfl⟩⟩
theorem Ext.add {M D : MM} (h : Ext M D) (a d b : Nat) : Ext M (addW D a d b) := by
  have h0 := h.1
  refine ⟨Nat.le_succ_of_le h.1, fun w hw => ?_⟩
  obtain ⟨h1, h2, h3⟩ := h.2 w hw
  have ne : w ≠ mN D := by omega
  show va_up (mF D) (mN D) a w = _ ∧ va_up (mD D) (mN D) d w = _ ∧ va_up (mT D) (mN D) b w = _
  rw [up_n ne, up_n ne, up_n ne]
  exact ⟨h1, h2, h3⟩
def Rd (σ0 s : ft_St) (M D : MM) : Prop := RepRM s D ∧ Oth σ0 s ∧ Ext M D
def Rf (σ0 s : ft_St) (M : MM) : Prop := Oth σ0 s ∧ ∀ w, w < mN M → s.2.1 2 w = nI (mF M w) ∧ s.2.1 3 w = nI (mD M w) ∧ s.2.1 4 w = nI (mT M w)
theorem Rd.rf {σ0 s : ft_St} {M D : MM} (h : Rd σ0 s M D) : Rf σ0 s M := by
  refine ⟨h.2.1, fun w hw => ?_⟩
  obtain ⟨e1, e2, e3⟩ := h.2.2.2 w hw
  have h0 := h.2.2.1
  have := h.1.2.2.2 w (by omega)
  rw [e1, e2, e3] at this
  exact this
theorem Rd.f {σ0 s : ft_St} {M D : MM} (h : Rd σ0 s M D) {j : Nat} (v : Int32) (hj : j = 23 ∨ j = 24) : Rd σ0 (ft_sF s 0 j v) M D := ⟨h.1.f v (by omega), h.2.1.trans (Oth.f v (by omega)), h.2.2⟩
theorem Rf.f {σ0 s : ft_St} {M : MM} (h : Rf σ0 s M) {j : Nat} (v : Int32) (hj : j ≠ 7 ∧ j ≠ 8 ∧ j ≠ 10 ∧ j ≠ 22) : Rf σ0 (ft_sF s 0 j v) M := ⟨h.1.trans (Oth.f v hj), h.2⟩
theorem r_here {s : ft_St} {tl pos : Nat} {T : Nat → Nat} {Φ : Int32 → ft_St → Prop} (hT : RepRT s tl T) (hTo : TOk tl T) (hp : pos ≤ tl) (e23 : s.1 0 23 = nI pos) (hE : Bl T pos tl → Φ (-1) (ft_sF s 0 23 (nI tl))) (hC : ∀ p, p < tl → Bl T pos p → ¬ T p = 32 → Φ (nI (T p)) (ft_sF s 0 23 (nI p))) : w_X10_here s Φ := by
  unfold w_X10_here
  have htl := hTo.1
  refine LP1.rule (fun s1 => ∃ p, p ≤ tl ∧ Bl T pos p ∧ s1 = ft_sF s 0 23 (nI p)) (fun s1 => 120 - (s1.1 0 23).toNatClampNeg) ?_ ⟨pos, hp, Bl.refl T pos, by rw [← e23, sF_self]⟩
  rintro X2 s1 ⟨p, hp1, hb, rfl⟩ ih
  have f23 : (ft_sF s 0 23 (nI p)).1 0 23 = nI p := sF_s _ _ _ _
  have f22 : (ft_sF s 0 23 (nI p)).1 0 22 = nI tl := by rw [sF_1, if_neg (by decide)]; exact hT.1
  have hcp : (nI p).toNatClampNeg = p := nI_clamp (by omega)
  rw [f23, f22, sF_2, hcp]
  have hle : nI tl ≤ nI p ↔ tl ≤ p := nI_leI (by omega) (by omega)
  rw [hle]
  intro J3 hJ3
  refine ⟨fun y => hJ3 ?_, fun y => ?_⟩
  · have e : p = tl := by omega
    subst e
    exact ⟨fun _ => hE hb, fun z => absurd (Nat.le_refl _) z⟩
  · have hlt : p < tl := by omega
    have hin : vp_in (nI p) 120 := vp_in_nI (by omega) (by decide)
    have hc := hTo.2 p hlt
    rw [hT.2 p hlt] at hJ3 ⊢
    have e32 : nI (T p) = 32 ↔ T p = 32 := nI_eq (b := 32) (by omega) (by decide)
    rw [e32]
    refine ⟨hin, fun z => hJ3 ⟨fun w => absurd w y, fun _ => ⟨hin, hC p hlt hb z⟩⟩, fun z s4 h4 => ?_⟩
    rw [sF_sF, nI_1 p] at h4
    refine ih s4 ⟨p + 1, hlt, ⟨by have := hb.1; omega, fun i h1 h2 => ?_⟩, h4⟩ ?_
    · by_cases e : i = p
      · rw [e]; exact z
      · exact hb.2 i h1 (by omega)
    · rw [h4, sF_s, f23, nI_clamp (by omega), hcp]; omega
theorem r_ends {s : ft_St} {tl pos : Nat} {T : Nat → Nat} {Φ : Int32 → ft_St → Prop} (hT : RepRT s tl T) (hTo : TOk tl T) (hp : pos ≤ tl) (e23 : s.1 0 23 = nI pos) (h1 : ∀ p, p < tl → Bl T pos p → T p = 59 → Φ 1 (ft_sF s 0 23 (nI (p + 1)))) (h0 : ∀ p, p ≤ tl → Bl T pos p → (p = tl ∨ (p < tl ∧ ¬ T p = 32 ∧ ¬ T p = 59)) → Φ 0 (ft_sF (ft_sF s 0 23 (nI p)) 0 24 (nI p))) : w_X10_ends s Φ := by
  unfold w_X10_ends
  have htl := hTo.1
  have wr : ∀ p, p ≤ tl → Bl T pos p → (p = tl ∨ (p < tl ∧ ¬ T p = 32 ∧ ¬ T p = 59)) → w_X10_wrong ((ft_sF s 0 23 (nI p)).1 0 23) (ft_sF s 0 23 (nI p)) (fun (r4 : Int32) (s5 : ft_St) => ft_bz r4 ∧ Φ r4 s5) := by
    intro p g1 g2 g3
    unfold w_X10_wrong
    rintro s1 rfl
    rw [sF_s]
    exact ⟨Or.inl rfl, h0 p g1 g2 g3⟩
  refine r_here hT hTo hp e23 (fun hb => ⟨fun y => absurd y (by decide), fun _ => wr tl (Nat.le_refl _) hb (Or.inl rfl)⟩) (fun p hlt hb hn => ?_)
  have e59 : nI (T p) = 59 ↔ T p = 59 := nI_eq (b := 59) (by have := hTo.2 p hlt; omega) (by decide)
  rw [e59]
  refine ⟨fun y s3 g3 => ?_, fun y => wr p (Nat.le_of_lt hlt) hb (Or.inr ⟨hlt, hn, y⟩)⟩
  rw [sF_s, nI_1 p, sF_sF] at g3
  rw [g3]
  exact h1 p hlt hb y
