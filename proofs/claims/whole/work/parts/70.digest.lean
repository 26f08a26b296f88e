/-! the digest -/
def h31 (y : Int64) (r : Int32) : Int64 := (31 * y) + (Int32.toInt64 r)
def dF (g : Nat → Int32) : Nat → Nat → Int64 → Int64
  | 0, _, y => y
  | f + 1, k, y => dF g f (k + 1) (h31 y (g k))
theorem dF_s (g : Nat → Int32) {f k m : Nat} (h : k < m) (e : f = m - k) (y : Int64) : dF g f k y = dF g (m - (k + 1)) (k + 1) (h31 y (g k)) := by
  rw [e, show m - k = (m - (k + 1)) + 1 by omega]; rfl
noncomputable def dW (M : MM) : Nat → Nat → Int64 → Int64
  | 0, _, y => y
  | f + 1, w, y => dW M f (w + 1) (dF (fun j => ofV M w (nI j)) 3 0 y)
noncomputable def dE (M : MM) (y : Int64) : Int64 := h31 (h31 (h31 (h31 (h31 y (allV M 0)) (allV M 4)) (allV M 5)) (apartV M 0)) (apartV M 1)
noncomputable def digV (A : AA) : Int64 := dE (zM A.1) (dF (fun k => knownV A.1 (nI k)) 4 0 (dW (zM A.1) (mN (zM A.1)) 0 (dF (fun k => toldV A (nI k)) 8 0 2203)))
theorem isN_nI {k m : Nat} (h : k ≤ m) : isN (nI k) m := ⟨k, h, rfl⟩
theorem c_digest' {σ : ft_St} {A : AA} {Φ : Int64 → ft_St → Prop} (hR : RepC σ A) (hok : AOk A) (h : ∀ σ', RepC σ' A → Φ (digV A) σ') : w_X9_digest σ Φ := by
  unfold w_X9_digest
  have h24 := hok.1.1.1
  obtain ⟨R1, eR1⟩ : ∃ R, R = dF (fun k => toldV A (nI k)) 8 0 2203 := ⟨_, rfl⟩
  obtain ⟨R2, eR2⟩ : ∃ R, R = dW (zM A.1) (mN (zM A.1)) 0 R1 := ⟨_, rfl⟩
  obtain ⟨R3, eR3⟩ : ∃ R, R = dF (fun k => knownV A.1 (nI k)) 4 0 R2 := ⟨_, rfl⟩
  have eD : digV A = dE (zM A.1) R3 := by rw [eR3, eR2, eR1]; rfl
  rw [eD] at h
  refine LP3.rule (fun y1 x2 s3 => ∃ k, x2 = nI k ∧ k ≤ 8 ∧ RepC s3 A ∧ dF (fun k => toldV A (nI k)) (8 - k) k y1 = R1) (fun _ x2 _ => 8 - x2.toNatClampNeg) ?_ ⟨0, rfl, by decide, hR, eR1.symm⟩
  rintro X4 y1 x2 s3 ⟨k, rfl, hk, hR3, hd⟩ ih
  have hck : (nI k).toNatClampNeg = k := nI_clamp (by omega)
  have hlt : (7 : Int32) < nI k ↔ 7 < k := nI_ltI (a := 7) (by decide) (by omega)
  rw [hlt]
  refine ⟨fun z => ?_, fun z => ?_⟩
  rotate_left
  · rw [dF_s _ (show k < 8 by omega) rfl] at hd
    refine t_told hR3 (fun s38 hR38 y39 e39 => ?_)
    unfold toldF at hR38 e39
    rw [cif_t (isN_nI (by omega))] at hR38 e39
    refine ih _ _ _ ⟨k + 1, nI_1 k, by omega, hR38, by rw [e39]; exact hd⟩ (by rw [nI_1 k, nI_clamp (by omega), hck]; omega)
  have ek : k = 8 := by omega
  subst ek
  have hd : y1 = R1 := hd
  subst hd
  clear ih
  refine LP3.rule (fun y5 x6 s7 => ∃ w, x6 = nI w ∧ w ≤ mN (zM A.1) ∧ RepC s7 A ∧ dW (zM A.1) (mN (zM A.1) - w) w y5 = R2) (fun _ x6 _ => 24 - x6.toNatClampNeg) ?_ ⟨0, rfl, Nat.zero_le _, hR3, eR2.symm⟩
  rintro X8 y5 x6 s7 ⟨w, rfl, hw, hR7, hd⟩ ih
  have hcw : (nI w).toNatClampNeg = w := nI_clamp (by omega)
  have hM7 : RepM s7 2 (zM A.1) := hR7.1.1
  have hle : s7.1 2 3 ≤ nI w ↔ mN (zM A.1) ≤ w := by rw [hM7.1]; exact nI_leI (by omega) (by omega)
  rw [hle]
  refine ⟨fun z => ?_, fun z => ?_⟩
  rotate_left
  · obtain ⟨f, hf⟩ : ∃ f, mN (zM A.1) - w = f + 1 := ⟨mN (zM A.1) - w - 1, by omega⟩
    rw [hf] at hd
    have hd : dW (zM A.1) f (w + 1) (dF (fun j => ofV (zM A.1) w (nI j)) 3 0 y5) = R2 := hd
    rw [show f = mN (zM A.1) - (w + 1) by omega] at hd
    refine LP3.rule (fun y30 x31 s32 => ∃ j, x31 = nI j ∧ j ≤ 3 ∧ RepC s32 A ∧ dF (fun j => ofV (zM A.1) w (nI j)) (3 - j) j y30 = dF (fun j => ofV (zM A.1) w (nI j)) 3 0 y5) (fun _ x31 _ => 3 - x31.toNatClampNeg) ?_ ⟨0, rfl, by decide, hR7, rfl⟩
    rintro X33 y30 x31 s32 ⟨j, rfl, hj, hR32, hdj⟩ ih33
    have hcj : (nI j).toNatClampNeg = j := nI_clamp (by omega)
    have hlt2 : (2 : Int32) < nI j ↔ 2 < j := nI_ltI (a := 2) (by decide) (by omega)
    rw [hlt2]
    refine ⟨fun y => ?_, fun y => ?_⟩
    · have ej : j = 3 := by omega
      subst ej
      have hdj : y30 = dF (fun j => ofV (zM A.1) w (nI j)) 3 0 y5 := hdj
      refine ih _ _ _ ⟨w + 1, nI_1 w, by omega, hR32, by rw [hdj]; exact hd⟩ (by rw [nI_1 w, nI_clamp (by omega), hcw]; omega)
    · rw [dF_s _ (show j < 3 by omega) rfl] at hdj
      refine t_of hR32 hok (fun s35 hR35 y36 e36 => ?_)
      unfold ofF at hR35 e36
      rw [cif_t ⟨⟨w, by omega, rfl⟩, isN_nI (by omega)⟩] at hR35 e36
      have e36 : y36 = h31 y30 (ofV (zM A.1) (nI w).toNatClampNeg (nI j)) := e36
      rw [hcw] at e36
      exact ih33 _ _ _ ⟨j + 1, nI_1 j, by omega, hR35, by rw [e36]; exact hdj⟩ (by rw [nI_1 j, nI_clamp (by omega), hcj]; omega)
  have ew : w = mN (zM A.1) := by omega
  rw [ew, Nat.sub_self] at hd
  have hd : y5 = R2 := hd
  subst hd
  clear ih
  refine LP3.rule (fun y9 x10 s11 => ∃ k, x10 = nI k ∧ k ≤ 4 ∧ RepC s11 A ∧ dF (fun k => knownV A.1 (nI k)) (4 - k) k y9 = R3) (fun _ x10 _ => 4 - x10.toNatClampNeg) ?_ ⟨0, rfl, by decide, hR7, eR3.symm⟩
  rintro X12 y9 x10 s11 ⟨k, rfl, hk, hR11, hd⟩ ih
  have hck : (nI k).toNatClampNeg = k := nI_clamp (by omega)
  have hlt : (3 : Int32) < nI k ↔ 3 < k := nI_ltI (a := 3) (by decide) (by omega)
  rw [hlt]
  refine ⟨fun z => ?_, fun z => ?_⟩
  rotate_left
  · rw [dF_s _ (show k < 4 by omega) rfl] at hd
    refine o_known hR11 hok (fun s28 hR28 y29 e29 => ?_)
    unfold knownF at hR28 e29
    rw [cif_t (isN_nI (by omega))] at hR28 e29
    refine ih _ _ _ ⟨k + 1, nI_1 k, by omega, hR28, by rw [e29]; exact hd⟩ (by rw [nI_1 k, nI_clamp (by omega), hck]; omega)
  have ek : k = 4 := by omega
  subst ek
  have hd : y9 = R3 := hd
  subst hd
  have al : ∀ {s k}, RepC s A → isN k 5 → ∀ Ψ : Int32 → ft_St → Prop, (∀ s', RepC s' A → Ψ (allV (zM A.1) k) s') → w_X9_all k s Ψ := fun {s k} hs hk Ψ g => o_all hs hok (by
    unfold allF
    rw [cif_t hk]; exact g)
  have ap : ∀ {s k}, RepC s A → isN k 1 → ∀ Ψ : Int32 → ft_St → Prop, (∀ s', RepC s' A → Ψ (apartV (zM A.1) k) s') → w_X9_apart k s Ψ := fun {s k} hs hk Ψ g => o_apart hs hok (by
    unfold apartF
    rw [cif_t hk]; exact g)
  refine al hR11 (isN_nI (k := 0) (by decide)) _ (fun s14 hR14 y15 e15 => al hR14 (isN_nI (k := 4) (by decide)) _ (fun s17 hR17 y18 e18 => al hR17 (isN_nI (k := 5) (by decide)) _ (fun s20 hR20 y21 e21 => ap hR20 (isN_nI (k := 0) (by decide)) _ (fun s23 hR23 y24 e24 => ap hR23 (isN_nI (k := 1) (by decide)) _ (fun s26 hR26 => ?_)))))
  have := h s26 hR26
  rw [e24, e21, e18, e15]
  exact this
theorem in_1 {a : Int32} {m : Nat} {Ψ : Int32 → Prop} (hm : m < 2 ^ 31) (ha : isN a m) (h : w_X10_in a 0 (nI m) Ψ) : Ψ 1 := by
  obtain ⟨h1, h2⟩ := (isN_iff hm).mp ha
  exact ((h True (fun _ => trivial)).2 h1).2 h2
theorem r_allBy {σ : ft_St} {A : AA} {k : Int32} {Φ : Int32 → ft_St → Prop} (hR : RepR σ A) (hok : AOk A) (hk : isN k 5) (h : ∀ σ', RepR σ' A → Φ (allV (zM A.1) k) σ') : w_X10_allBy k σ Φ := by
  have := r_all (k := k) (Φ := Φ) hR hok (by
    unfold allF
    rw [cif_t hk]; exact h)
  exact (in_1 (m := 5) (by decide) hk this).2 (by decide)
theorem r_apartBy {σ : ft_St} {A : AA} {k : Int32} {Φ : Int32 → ft_St → Prop} (hR : RepR σ A) (hok : AOk A) (hk : isN k 1) (h : ∀ σ', RepR σ' A → Φ (apartV (zM A.1) k) σ') : w_X10_apartBy k σ Φ := by
  have := r_apart (k := k) (Φ := Φ) hR hok (by
    unfold apartF
    rw [cif_t hk]; exact h)
  exact (in_1 (m := 1) (by decide) hk this).2 (by decide)
theorem r_digest {σ : ft_St} {A : AA} {Φ : Int64 → ft_St → Prop} (hR : RepR σ A) (hok : AOk A) (h : ∀ σ', RepR σ' A → Φ (digV A) σ') : w_X10_digest σ Φ := by
  unfold w_X10_digest
  have h24 := hok.1.1.1
  have hM := hR.1.1
  obtain ⟨R1, eR1⟩ : ∃ R, R = dF (fun k => toldV A (nI k)) 8 0 2203 := ⟨_, rfl⟩
  obtain ⟨R2, eR2⟩ : ∃ R, R = dW (zM A.1) (mN (zM A.1)) 0 R1 := ⟨_, rfl⟩
  obtain ⟨R3, eR3⟩ : ∃ R, R = dF (fun k => knownV A.1 (nI k)) 4 0 R2 := ⟨_, rfl⟩
  have eD : digV A = dE (zM A.1) R3 := by rw [eR3, eR2, eR1]; rfl
  rw [eD] at h
  refine LP2.rule (fun y1 x2 => ∃ k, x2 = nI k ∧ k ≤ 8 ∧ dF (fun k => toldV A (nI k)) (8 - k) k y1 = R1) (fun _ x2 => 8 - x2.toNatClampNeg) ?_ ⟨0, rfl, by decide, eR1.symm⟩
  rintro X3 y1 x2 ⟨k, rfl, hk, hd⟩ ih
  have hck : (nI k).toNatClampNeg = k := nI_clamp (by omega)
  have hlt : (8 : Int32) ≤ nI k ↔ 8 ≤ k := nI_leI (a := 8) (by decide) (by omega)
  rw [hlt]
  refine ⟨fun z => ?_, fun z => ?_⟩
  rotate_left
  · rw [dF_s _ (show k < 8 by omega) rfl] at hd
    refine r_toldV hR (isN_nI (by omega)) (fun y30 e30 => ih _ _ ⟨k + 1, nI_1 k, by omega, by rw [e30]; exact hd⟩ (by rw [nI_1 k, nI_clamp (by omega), hck]; omega))
  have ek : k = 8 := by omega
  subst ek
  have hd : y1 = R1 := hd
  subst hd
  clear ih
  refine LP2.rule (fun y4 x5 => ∃ w, x5 = nI w ∧ w ≤ mN (zM A.1) ∧ dW (zM A.1) (mN (zM A.1) - w) w y4 = R2) (fun _ x5 => 24 - x5.toNatClampNeg) ?_ ⟨0, rfl, Nat.zero_le _, eR2.symm⟩
  rintro X6 y4 x5 ⟨w, rfl, hw, hd⟩ ih
  have hcw : (nI w).toNatClampNeg = w := nI_clamp (by omega)
  have hle : σ.1 0 1 ≤ nI w ↔ mN (zM A.1) ≤ w := by rw [hM.1]; exact nI_leI (by omega) (by omega)
  rw [hle]
  refine ⟨fun z => ?_, fun z => ?_⟩
  rotate_left
  · obtain ⟨f, hf⟩ : ∃ f, mN (zM A.1) - w = f + 1 := ⟨mN (zM A.1) - w - 1, by omega⟩
    rw [hf] at hd
    have hd : dW (zM A.1) f (w + 1) (h31 (h31 (h31 y4 (ofV (zM A.1) w (nI 0))) (ofV (zM A.1) w (nI 1))) (ofV (zM A.1) w (nI 2))) = R2 := hd
    rw [show f = mN (zM A.1) - (w + 1) by omega] at hd
    obtain ⟨r1, r2, r3⟩ := hM.2.2.2 w (by omega)
    have hin : vp_in (nI w) 24 := vp_in_nI (by omega) (by decide)
    rw [hcw, r1, r2, r3]
    refine ⟨hin, fun y26 e26 => ⟨hin, fun y27 e27 => ⟨hin, fun y28 e28 => ih _ _ ⟨w + 1, nI_1 w, by omega, ?_⟩ (by rw [nI_1 w, nI_clamp (by omega), hcw]; omega)⟩⟩⟩
    rw [e28, e27, e26]
    exact hd
  have ew : w = mN (zM A.1) := by omega
  rw [ew, Nat.sub_self] at hd
  have hd : y4 = R2 := hd
  subst hd
  clear ih
  refine LP2.rule (fun y7 x8 => ∃ k, x8 = nI k ∧ k ≤ 4 ∧ dF (fun k => knownV A.1 (nI k)) (4 - k) k y7 = R3) (fun _ x8 => 4 - x8.toNatClampNeg) ?_ ⟨0, rfl, by decide, eR3.symm⟩
  rintro X9 y7 x8 ⟨k, rfl, hk, hd⟩ ih
  have hck : (nI k).toNatClampNeg = k := nI_clamp (by omega)
  have hlt : (4 : Int32) ≤ nI k ↔ 4 ≤ k := nI_leI (a := 4) (by decide) (by omega)
  rw [hlt]
  refine ⟨fun z => ?_, fun z => ?_⟩
  rotate_left
  · rw [dF_s _ (show k < 4 by omega) rfl] at hd
    refine r_knownV hR hok (isN_nI (by omega)) (fun y25 e25 => ih _ _ ⟨k + 1, nI_1 k, by omega, by rw [e25]; exact hd⟩ (by rw [nI_1 k, nI_clamp (by omega), hck]; omega))
  have ek : k = 4 := by omega
  subst ek
  have hd : y7 = R3 := hd
  subst hd
  refine r_allBy hR hok (isN_nI (k := 0) (by decide)) (fun s11 hR11 y12 e12 => r_allBy hR11 hok (isN_nI (k := 4) (by decide)) (fun s14 hR14 y15 e15 => r_allBy hR14 hok (isN_nI (k := 5) (by decide)) (fun s17 hR17 y18 e18 => r_apartBy hR17 hok (isN_nI (k := 0) (by decide)) (fun s20 hR20 y21 e21 => r_apartBy hR20 hok (isN_nI (k := 1) (by decide)) (fun s23 hR23 => ?_)))))
  have := h s23 hR23
  rw [e21, e18, e15, e12]
  exact this
