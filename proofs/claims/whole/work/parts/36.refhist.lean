/-! the model: ways, states -/
theorem sF_self (σ : ft_St) (k j : Nat) : ft_sF σ k j (σ.1 k j) = σ := by
  unfold ft_sF
  refine Prod.ext ?_ rfl
  funext a b
  by_cases h : b = j <;> by_cases h2 : a = k <;> simp [h, h2]
def Oth (σ σ' : ft_St) : Prop := (σ'.1 0 7 = σ.1 0 7 ∧ σ'.1 0 8 = σ.1 0 8 ∧ σ'.2.1 5 = σ.2.1 5) ∧ (σ'.2.1 6 = σ.2.1 6 ∧ σ'.1 0 10 = σ.1 0 10) ∧ (σ'.2.1 1 = σ.2.1 1 ∧ σ'.2.1 15 = σ.2.1 15 ∧ σ'.1 0 22 = σ.1 0 22)
theorem Oth.refl (σ : ft_St) : Oth σ σ := ⟨⟨rfl, rfl, rfl⟩, ⟨rfl, rfl⟩, rfl, rfl, rfl⟩
theorem Oth.trans {σ σ' σ'' : ft_St} (h : Oth σ σ') (g : Oth σ' σ'') : Oth σ σ'' := ⟨⟨g.1.1.trans h.1.1, g.1.2.1.trans h.1.2.1, g.1.2.2.trans h.1.2.2⟩, ⟨g.2.1.1.trans h.2.1.1, g.2.1.2.trans h.2.1.2⟩, g.2.2.1.trans h.2.2.1, g.2.2.2.1.trans h.2.2.2.1, g.2.2.2.2.trans h.2.2.2.2⟩
theorem r_isThere {σ : ft_St} {M : MM} {a d b : Nat} {Φ : Int32 → Prop} (hM : RepRM σ M) (hok : MOk M) (ha : a < 100) (hd : d < 100) (hb : b < 100) (h : Φ (b01 (hasB M a d b))) : w_X10_isThere (nI a) (nI d) (nI b) σ Φ := by
  have hn := hok.1
  unfold w_X10_isThere
  refine LP2.rule (fun y x => ∃ w, x = nI w ∧ w ≤ mN M ∧ ft_bz y ∧ (y = 0 ↔ ∀ v, v < w → ¬ (mF M v = a ∧ mD M v = d ∧ mT M v = b))) (fun _ x => 24 - x.toNatClampNeg) ?_ ⟨0, rfl, Nat.zero_le _, Or.inl rfl, ⟨fun _ v hv => absurd hv (Nat.not_lt_zero _), fun _ => rfl⟩⟩
  rintro X y x ⟨w, rfl, hw, hbz, hy⟩ ih
  have hc : (nI w).toNatClampNeg = w := nI_clamp (by omega)
  rw [hM.1, hc]
  have hle : nI (mN M) ≤ nI w ↔ mN M ≤ w := nI_leI (by omega) (by omega)
  refine ⟨fun q => ⟨hbz, ?_⟩, fun q => ?_⟩
  · have e : w = mN M := by have := hle.mp q; omega
    have e2 : y = b01 (hasB M a d b) := by
      rcases hbz with z | z
      · rw [hasB_f.mpr (by rintro ⟨v, hv, h1⟩; exact hy.mp z v (by omega) h1)]; exact z
      · have : hasW M a d b := Classical.byContradiction (fun hno => by
          have h0 := hy.mpr (fun v hv h1 => hno ⟨v, by omega, h1⟩)
          rw [z] at h0; exact absurd h0 (by decide))
        rw [hasB_t.mpr this]; exact z
    rw [e2]; exact h
  · have hlt : w < mN M := Nat.lt_of_not_le (fun z => q (hle.mpr z))
    obtain ⟨hF, hD, hT⟩ := hM.2.2.2 w hlt
    obtain ⟨bF, bD, bT⟩ := hok.2.1 w hlt
    have hin : vp_in (nI w) 24 := vp_in_nI (by omega) (by decide)
    have hmu : 24 - (nI w + 1).toNatClampNeg < 24 - (nI w).toNatClampNeg := by
      rw [nI_1 w, nI_clamp (by omega), hc]; omega
    have yes : (¬ ∀ v, v < w + 1 → ¬ (mF M v = a ∧ mD M v = d ∧ mT M v = b)) → X 1 (nI w + 1) := fun z => ih _ _ ⟨w + 1, nI_1 w, hlt, Or.inr rfl, ⟨fun e => absurd e (by decide), fun e => absurd e z⟩⟩ hmu
    have no : y = 0 → ¬ (mF M w = a ∧ mD M w = d ∧ mT M w = b) → X 0 (nI w + 1) := fun z0 z => ih _ _ ⟨w + 1, nI_1 w, hlt, Or.inl rfl, ⟨fun _ v hv => by
      by_cases e : v = w
      · subst e; exact z
      · exact hy.mp z0 v (by omega), fun _ => rfl⟩⟩ hmu
    rw [hF, hD, hT, nI_eq (by omega) (by omega), nI_eq (by omega) (by omega), nI_eq (by omega) (by omega)]
    intro J4 hJ4
    refine ⟨fun z => hJ4 (yes (fun hh => z (hy.mpr (fun v hv => hh v (by omega))))), fun z => ⟨hin, fun J5 hJ5 => ?_⟩⟩
    refine ⟨fun z1 => hJ5 (no z (fun hh => z1 hh.1)), fun z1 => ⟨hin, fun z2 => hJ5 (no z (fun hh => z2 hh.2.1)), fun z2 => ⟨hin, fun z3 => hJ5 (no z (fun hh => z3 hh.2.2)), fun z3 => hJ4 (yes (fun hh => hh w (by omega) ⟨z1, z2, z3⟩))⟩⟩⟩
theorem r_comesWay {σ : ft_St} {M : MM} {a d b : Nat} {Φ : ft_St → Prop} (hM : RepRM σ M) (hn : mN M < 24) (h : ∀ σ', RepRM σ' (addW M a d b) → Oth σ σ' → Φ σ') : w_X10_comesWay (nI a) (nI d) (nI b) σ Φ := by
  unfold w_X10_comesWay
  have hin : vp_in (nI (mN M)) 24 := vp_in_nI hn (by decide)
  have hc : (nI (mN M)).toNatClampNeg = mN M := nI_clamp (by omega)
  rw [hM.1, hc]
  refine ⟨hin, fun s2 h2 => ?_⟩
  have e2 : s2.1 = σ.1 := by rw [h2]; rfl
  rw [e2, hM.1, hc]
  refine ⟨hin, fun s3 h3 => ?_⟩
  have e3 : s3.1 = σ.1 := by rw [h3]; exact e2
  rw [e3, hM.1, hc]
  refine ⟨hin, fun s4 h4 s5 h5 => ?_⟩
  have e4 : s4.1 = σ.1 := by rw [h4]; exact e3
  rw [e4, hM.1] at h5
  have ee : s5 = ft_sF (ft_sA (ft_sA (ft_sA σ 2 (upd (σ.2.1 2) (mN M) (nI a))) 3 (upd (σ.2.1 3) (mN M) (nI d))) 4 (upd (σ.2.1 4) (mN M) (nI b))) 0 1 (nI (mN M) + 1) := by
    rw [h5, h4, h3, h2]; rfl
  refine h s5 ⟨?_, ?_, ?_, fun w hw => ?_⟩ ?_
  · rw [ee, sF_s]; exact nI_add (mN M) 1
  · rw [ee]; exact hM.2.1
  · rw [ee]; exact hM.2.2.1
  · have hw : w < mN M + 1 := hw
    rw [ee]
    show upd (σ.2.1 2) (mN M) (nI a) w = nI (va_up (mF M) (mN M) a w) ∧ upd (σ.2.1 3) (mN M) (nI d) w = nI (va_up (mD M) (mN M) d w) ∧ upd (σ.2.1 4) (mN M) (nI b) w = nI (va_up (mT M) (mN M) b w)
    by_cases e : w = mN M
    · rw [e, upd_s, upd_s, upd_s, up_s, up_s, up_s]; exact ⟨rfl, rfl, rfl⟩
    · rw [upd_n e, upd_n e, upd_n e, up_n e, up_n e, up_n e]; exact hM.2.2.2 w (by omega)
  · rw [ee]; exact ⟨⟨rfl, rfl, rfl⟩, ⟨rfl, rfl⟩, rfl, rfl, rfl⟩
/-- a state in the row of kept ones -/
def RepK (f : Nat → Int32) (at_ : Nat) (z : SS) : Prop := (f at_ = nI (mN (zM z)) ∧ f (at_ + 1) = mS (zM z) ∧ f (at_ + 2) = mX (zM z) ∧ f (at_ + 3) = zK z ∧ f (at_ + 4) = nI (zC z)) ∧ (∀ w, w < mN (zM z) → f (at_ + 5 + w) = nI (mF (zM z) w) ∧ f (at_ + 29 + w) = nI (mD (zM z) w) ∧ f (at_ + 53 + w) = nI (mT (zM z) w)) ∧ ∀ i, i < zC z → f (at_ + 77 + i) = zG z i
theorem RepK.same {f g : Nat → Int32} {a b : Nat} {z : SS} (h : RepK f a z) (hok : SOk z) (hg : ∀ j, j < 85 → g (b + j) = f (a + j)) : RepK g b z := by
  obtain ⟨⟨h0, h1, h2, h3, h4⟩, h5, h6⟩ := h
  have hn := hok.1.1
  have hc := hok.2.1
  refine ⟨⟨?_, ?_, ?_, ?_, ?_⟩, fun w hw => ?_, fun i hi => ?_⟩
  · have := hg 0 (by omega); rw [Nat.add_zero, Nat.add_zero] at this; rw [this]; exact h0
  · rw [hg 1 (by omega)]; exact h1
  · rw [hg 2 (by omega)]; exact h2
  · rw [hg 3 (by omega)]; exact h3
  · rw [hg 4 (by omega)]; exact h4
  · have g1 := hg (5 + w) (by omega)
    have g2 := hg (29 + w) (by omega)
    have g3 := hg (53 + w) (by omega)
    simp only [← Nat.add_assoc] at g1 g2 g3
    rw [g1, g2, g3]; exact h5 w hw
  · have g1 := hg (77 + i) (by omega)
    simp only [← Nat.add_assoc] at g1
    rw [g1]; exact h6 i hi
def RepRZ (σ : ft_St) (z : SS) : Prop := RepRM σ (zM z) ∧ σ.1 0 7 = zK z ∧ σ.1 0 8 = nI (zC z) ∧ ∀ i, i < zC z → σ.2.1 5 i = zG z i
def RepRH (σ : ft_St) (hc : Nat) (hist : Nat → SS) : Prop := hc ≤ 6 ∧ σ.1 0 10 = nI hc ∧ ∀ i, i < hc → RepK (σ.2.1 6) (85 * (hc - 1 - i)) (hist i)
theorem r_leavesState {σ : ft_St} {z : SS} {hc : Nat} {hist : Nat → SS} {Φ : ft_St → Prop} (hZ : RepRZ σ z) (hok : SOk z) (hH : RepRH σ hc hist) (hoks : ∀ i, i < hc → SOk (hist i)) (h : ∀ f', (∀ i, i < (if hc < 6 then hc + 1 else 6) → RepK f' (85 * ((if hc < 6 then hc + 1 else 6) - 1 - i)) (keepH z hist i)) → Φ (ft_sF (ft_sA σ 6 f') 0 10 (nI (if hc < 6 then hc + 1 else 6)))) : w_X10_leavesState σ Φ := by
  obtain ⟨hc6, h10, hK⟩ := hH
  have hn := hok.1.1
  have hcc := hok.2.1
  unfold w_X10_leavesState
  -- behind the shift
  have part2 : ∀ (f1 : Nat → Int32) (h1 : Nat), h1 ≤ 5 → h1 + 1 = (if hc < 6 then hc + 1 else 6) → (∀ i, i < h1 → RepK f1 (85 * (h1 - 1 - i)) (hist i)) → ∀ s1 : ft_St, s1 = ft_sF (ft_sA σ 6 f1) 0 10 (nI h1) → (vp_in (85 * (s1.1 0 10)) 510 ∧ ∀ (s3 : ft_St), s3 = ft_sA s1 6 (upd (s1.2.1 6) (Int32.toNatClampNeg (85 * (s1.1 0 10))) (s1.1 0 1)) → vp_in ((85 * (s1.1 0 10)) + 1) 510 ∧ ∀ (s4 : ft_St), s4 = ft_sA s3 6 (upd (s3.2.1 6) (Int32.toNatClampNeg ((85 * (s1.1 0 10)) + 1)) (s3.1 0 5)) → vp_in ((85 * (s1.1 0 10)) + 2) 510 ∧ ∀ (s5 : ft_St), s5 = ft_sA s4 6 (upd (s4.2.1 6) (Int32.toNatClampNeg ((85 * (s1.1 0 10)) + 2)) (s4.1 0 6)) → vp_in ((85 * (s1.1 0 10)) + 3) 510 ∧ ∀ (s6 : ft_St), s6 = ft_sA s5 6 (upd (s5.2.1 6) (Int32.toNatClampNeg ((85 * (s1.1 0 10)) + 3)) (s5.1 0 7)) → vp_in ((85 * (s1.1 0 10)) + 4) 510 ∧ ∀ (s7 : ft_St), s7 = ft_sA s6 6 (upd (s6.2.1 6) (Int32.toNatClampNeg ((85 * (s1.1 0 10)) + 4)) (s6.1 0 8)) → LP2 (fun (X10 : Int32 → ft_St → Prop) (x8 : Int32) (s9 : ft_St) => (24 ≤ x8 → LP2 (fun (X13 : Int32 → ft_St → Prop) (x11 : Int32) (s12 : ft_St) => (8 ≤ x11 → ∀ (s14 : ft_St), s14 = ft_sF s12 0 10 ((s12.1 0 10) + 1) → Φ s14) ∧ (¬ 8 ≤ x11 → vp_in x11 8 ∧ vp_in (((85 * (s1.1 0 10)) + 77) + x11) 510 ∧ ∀ (s15 : ft_St), s15 = ft_sA s12 6 (upd (s12.2.1 6) (Int32.toNatClampNeg (((85 * (s1.1 0 10)) + 77) + x11)) (s12.2.1 5 (Int32.toNatClampNeg x11))) → X13 (x11 + 1) s15)) 0 s9) ∧ (¬ 24 ≤ x8 → vp_in x8 24 ∧ vp_in (((85 * (s1.1 0 10)) + 5) + x8) 510 ∧ ∀ (s16 : ft_St), s16 = ft_sA s9 6 (upd (s9.2.1 6) (Int32.toNatClampNeg (((85 * (s1.1 0 10)) + 5) + x8)) (s9.2.1 2 (Int32.toNatClampNeg x8))) → vp_in x8 24 ∧ vp_in (((85 * (s1.1 0 10)) + 29) + x8) 510 ∧ ∀ (s17 : ft_St), s17 = ft_sA s16 6 (upd (s16.2.1 6) (Int32.toNatClampNeg (((85 * (s1.1 0 10)) + 29) + x8)) (s16.2.1 3 (Int32.toNatClampNeg x8))) → vp_in x8 24 ∧ vp_in (((85 * (s1.1 0 10)) + 53) + x8) 510 ∧ ∀ (s18 : ft_St), s18 = ft_sA s17 6 (upd (s17.2.1 6) (Int32.toNatClampNeg (((85 * (s1.1 0 10)) + 53) + x8)) (s17.2.1 4 (Int32.toNatClampNeg x8))) → X10 (x8 + 1) s18)) 0 s7) := by
    intro f1 h1 hh1 hh2 hK1 s1 hs1
    have e10 : s1.1 0 10 = nI h1 := by rw [hs1, sF_s]
    obtain ⟨p, hp⟩ : ∃ p, p = 85 * h1 := ⟨_, rfl⟩
    have hp425 : p ≤ 425 := by omega
    have e85 : (85 : Int32) * s1.1 0 10 = nI p := by rw [e10, show (85 : Int32) = nI 85 from rfl, pk_mul, hp]
    rw [e85]
    have ad : ∀ a b : Nat, nI a + nI b = nI (a + b) := nI_add
    have l1 : nI p + 1 = nI (p + 1) := ad p 1
    have l2 : nI p + 2 = nI (p + 2) := ad p 2
    have l3 : nI p + 3 = nI (p + 3) := ad p 3
    have l4 : nI p + 4 = nI (p + 4) := ad p 4
    have l5 : nI p + 5 = nI (p + 5) := ad p 5
    have l29 : nI p + 29 = nI (p + 29) := ad p 29
    have l53 : nI p + 53 = nI (p + 53) := ad p 53
    have l77 : nI p + 77 = nI (p + 77) := ad p 77
    have cl : ∀ a : Nat, a < 510 → (nI a).toNatClampNeg = a := fun a ha => nI_clamp (by omega)
    have vi : ∀ a : Nat, a < 510 → vp_in (nI a) 510 := fun a ha => vp_in_nI ha (by decide)
    rw [l1, l2, l3, l4, l5, l29, l53, l77, cl p (by omega), cl (p + 1) (by omega), cl (p + 2) (by omega), cl (p + 3) (by omega), cl (p + 4) (by omega)]
    -- all stores here are of one form
    have put : ∀ (f : Nat → Int32) (s s' : ft_St) (i : Nat) (v : Int32), s = ft_sF (ft_sA σ 6 f) 0 10 (nI h1) → s' = ft_sA s 6 (upd (s.2.1 6) i v) → s' = ft_sF (ft_sA σ 6 (upd f i v)) 0 10 (nI h1) := by
      intro f s s' i v hs hs'
      rw [hs', hs]
      have e1 : (ft_sF (ft_sA σ 6 f) 0 10 (nI h1)).2.1 6 = f := sA_s σ 6 f
      rw [e1]
      show ft_sF (ft_sA (ft_sA σ 6 f) 6 (upd f i v)) 0 10 (nI h1) = _
      rw [sA_sA]
    have rd : ∀ (f : Nat → Int32) (s : ft_St), s = ft_sF (ft_sA σ 6 f) 0 10 (nI h1) → s.1 0 1 = σ.1 0 1 ∧ s.1 0 5 = σ.1 0 5 ∧ s.1 0 6 = σ.1 0 6 ∧ s.1 0 7 = σ.1 0 7 ∧ s.1 0 8 = σ.1 0 8 ∧ s.2.1 2 = σ.2.1 2 ∧ s.2.1 3 = σ.2.1 3 ∧ s.2.1 4 = σ.2.1 4 ∧ s.2.1 5 = σ.2.1 5 := by
      intro f s hs
      rw [hs]
      exact ⟨rfl, rfl, rfl, rfl, rfl, rfl, rfl, rfl, rfl⟩
    refine ⟨vi p (by omega), fun s3 h3 => ?_⟩
    have k3 := put f1 s1 s3 _ _ hs1 h3
    refine ⟨vi _ (by omega), fun s4 h4 => ?_⟩
    have k4 := put _ s3 s4 _ _ k3 h4
    refine ⟨vi _ (by omega), fun s5 h5 => ?_⟩
    have k5 := put _ s4 s5 _ _ k4 h5
    refine ⟨vi _ (by omega), fun s6 h6 => ?_⟩
    have k6 := put _ s5 s6 _ _ k5 h6
    refine ⟨vi _ (by omega), fun s7 h7 => ?_⟩
    have k7 := put _ s6 s7 _ _ k6 h7
    rw [(rd _ s1 hs1).1, (rd _ s3 k3).2.1, (rd _ s4 k4).2.2.1, (rd _ s5 k5).2.2.2.1, (rd _ s6 k6).2.2.2.2.1] at k7
    obtain ⟨f7, hf7⟩ : ∃ f7, f7 = upd (upd (upd (upd (upd f1 p (σ.1 0 1)) (p + 1) (σ.1 0 5)) (p + 2) (σ.1 0 6)) (p + 3) (σ.1 0 7)) (p + 4) (σ.1 0 8) := ⟨_, rfl⟩
    rw [← hf7] at k7
    have g0 : (∀ j, j < p → f7 j = f1 j) ∧ f7 p = σ.1 0 1 ∧ f7 (p + 1) = σ.1 0 5 ∧ f7 (p + 2) = σ.1 0 6 ∧ f7 (p + 3) = σ.1 0 7 ∧ f7 (p + 4) = σ.1 0 8 := by
      rw [hf7]
      refine ⟨fun j hj => ?_, ?_, ?_, ?_, ?_, ?_⟩
      · rw [upd_n (by omega), upd_n (by omega), upd_n (by omega), upd_n (by omega), upd_n (by omega)]
      · rw [upd_n (by omega), upd_n (by omega), upd_n (by omega), upd_n (by omega), upd_s]
      · rw [upd_n (by omega), upd_n (by omega), upd_n (by omega), upd_s]
      · rw [upd_n (by omega), upd_n (by omega), upd_s]
      · rw [upd_n (by omega), upd_s]
      · rw [upd_s]
    refine LP2.rule (fun x s => ∃ (w : Nat) (f : Nat → Int32), x = nI w ∧ w ≤ 24 ∧ s = ft_sF (ft_sA σ 6 f) 0 10 (nI h1) ∧ (∀ j, j < p + 5 → f j = f7 j) ∧ ∀ v, v < w → f (p + 5 + v) = σ.2.1 2 v ∧ f (p + 29 + v) = σ.2.1 3 v ∧ f (p + 53 + v) = σ.2.1 4 v) (fun x _ => 24 - x.toNatClampNeg) ?_ ⟨0, f7, rfl, by decide, k7, fun _ _ => rfl, fun v hv => absurd hv (Nat.not_lt_zero _)⟩
    rintro X10 x8 s9 ⟨w, f, rfl, hw, hs9, hlo, hv⟩ ih
    have hcw : (nI w).toNatClampNeg = w := nI_clamp (by omega)
    have hle : (24 : Int32) ≤ nI w ↔ 24 ≤ w := nI_leI (a := 24) (by decide) (by omega)
    refine ⟨fun q => ?_, fun q => ?_⟩
    · have e24 : w = 24 := by have := hle.mp q; omega
      subst e24
      refine LP2.rule (fun x s => ∃ (i : Nat) (g : Nat → Int32), x = nI i ∧ i ≤ 8 ∧ s = ft_sF (ft_sA σ 6 g) 0 10 (nI h1) ∧ (∀ j, j < p + 77 → g j = f j) ∧ ∀ v, v < i → g (p + 77 + v) = σ.2.1 5 v) (fun x _ => 8 - x.toNatClampNeg) ?_ ⟨0, f, rfl, by decide, hs9, fun _ _ => rfl, fun v hv => absurd hv (Nat.not_lt_zero _)⟩
      rintro X13 x11 s12 ⟨i, g, rfl, hi, hs12, hlo2, hv2⟩ ih2
      have hci : (nI i).toNatClampNeg = i := nI_clamp (by omega)
      have hle2 : (8 : Int32) ≤ nI i ↔ 8 ≤ i := nI_leI (a := 8) (by decide) (by omega)
      refine ⟨fun q2 s14 h14 => ?_, fun q2 => ?_⟩
      · have e8 : i = 8 := by have := hle2.mp q2; omega
        subst e8
        have es : s14 = ft_sF (ft_sA σ 6 g) 0 10 (nI (if hc < 6 then hc + 1 else 6)) := by
          rw [h14, hs12, sF_s, sF_sF, nI_1, hh2]
        rw [es]
        refine h g (fun i hi => ?_)
        rw [← hh2] at hi ⊢
        by_cases e : i = 0
        · subst e
          rw [show 85 * (h1 + 1 - 1 - 0) = p by omega]
          show RepK g p z
          refine ⟨⟨?_, ?_, ?_, ?_, ?_⟩, fun w hw => ?_, fun j hj => ?_⟩
          · rw [hlo2 _ (by omega), hlo _ (by omega), g0.2.1]; exact hZ.1.1
          · rw [hlo2 _ (by omega), hlo _ (by omega), g0.2.2.1]; exact hZ.1.2.1
          · rw [hlo2 _ (by omega), hlo _ (by omega), g0.2.2.2.1]; exact hZ.1.2.2.1
          · rw [hlo2 _ (by omega), hlo _ (by omega), g0.2.2.2.2.1]; exact hZ.2.1
          · rw [hlo2 _ (by omega), hlo _ (by omega), g0.2.2.2.2.2]; exact hZ.2.2.1
          · have := hv w (by omega)
            rw [hlo2 _ (by omega), hlo2 _ (by omega), hlo2 _ (by omega), this.1, this.2.1, this.2.2]
            exact hZ.1.2.2.2 w hw
          · rw [hv2 j (by omega)]; exact hZ.2.2.2 j hj
        · show RepK g _ (if i = 0 then z else hist (i - 1))
          rw [if_neg e]
          have := hK1 (i - 1) (by omega)
          have hoki : SOk (hist (i - 1)) := hoks (i - 1) (by split at hh2 <;> omega)
          rw [show 85 * (h1 + 1 - 1 - i) = 85 * (h1 - 1 - (i - 1)) by omega]
          refine this.same hoki (fun j hj => ?_)
          have hb : 85 * (h1 - 1 - (i - 1)) + j < p := by omega
          rw [hlo2 _ (by omega), hlo _ (by omega), g0.1 _ hb]
      · have hlt : i < 8 := Nat.lt_of_not_le (fun z => q2 (hle2.mpr z))
        rw [ad, hci, cl (p + 77 + i) (by omega)]
        refine ⟨vp_in_nI hlt (by decide), vi _ (by omega), fun s15 h15 => ?_⟩
        have k15 := put _ s12 s15 _ _ hs12 h15
        rw [(rd _ s12 hs12).2.2.2.2.2.2.2.2] at k15
        refine ih2 _ _ ⟨i + 1, _, nI_1 i, hlt, k15, fun j hj => ?_, fun v hvv => ?_⟩ (by rw [nI_1 i, nI_clamp (by omega), hci]; omega)
        · rw [upd_n (by omega)]; exact hlo2 j hj
        · by_cases e : v = i
          · subst e; exact upd_s
          · rw [upd_n (by omega)]; exact hv2 v (by omega)
    · have hlt : w < 24 := Nat.lt_of_not_le (fun z => q (hle.mpr z))
      have hin : vp_in (nI w) 24 := vp_in_nI hlt (by decide)
      rw [ad, ad, ad, hcw, cl (p + 5 + w) (by omega), cl (p + 29 + w) (by omega), cl (p + 53 + w) (by omega)]
      refine ⟨hin, vi _ (by omega), fun s16 h16 => ⟨hin, vi _ (by omega), fun s17 h17 => ⟨hin, vi _ (by omega), fun s18 h18 => ?_⟩⟩⟩
      have k16 := put _ s9 s16 _ _ hs9 h16
      have k17 := put _ s16 s17 _ _ k16 h17
      have k18 := put _ s17 s18 _ _ k17 h18
      rw [(rd _ s9 hs9).2.2.2.2.2.1, (rd _ s16 k16).2.2.2.2.2.2.1, (rd _ s17 k17).2.2.2.2.2.2.2.1] at k18
      refine ih _ _ ⟨w + 1, _, nI_1 w, hlt, k18, fun j hj => ?_, fun v hvv => ?_⟩ (by rw [nI_1 w, nI_clamp (by omega), hcw]; omega)
      · rw [upd_n (by omega), upd_n (by omega), upd_n (by omega)]; exact hlo j hj
      · by_cases e : v = w
        · subst e
          refine ⟨?_, ?_, ?_⟩
          · rw [upd_n (by omega), upd_n (by omega), upd_s]
          · rw [upd_n (by omega), upd_s]
          · rw [upd_s]
        · have := hv v (by omega)
          refine ⟨?_, ?_, ?_⟩
          · rw [upd_n (by omega), upd_n (by omega), upd_n (by omega)]; exact this.1
          · rw [upd_n (by omega), upd_n (by omega), upd_n (by omega)]; exact this.2.1
          · rw [upd_n (by omega), upd_n (by omega), upd_n (by omega)]; exact this.2.2
  have self : σ = ft_sF (ft_sA σ 6 (σ.2.1 6)) 0 10 (nI hc) := by
    rw [sA_self, ← h10, sF_self]
  intro J2 hJ2
  rw [h10, show (6 : Int32) = nI 6 from rfl, nI_eq (by omega) (by decide)]
  refine ⟨fun q => hJ2 _ (part2 (σ.2.1 6) hc (by omega) (by rw [if_pos (by omega)]) hK σ self), fun q => ?_⟩
  subst q
  refine LP2.rule (fun x s => ∃ (i : Nat) (f : Nat → Int32), x = nI i ∧ i ≤ 425 ∧ s = ft_sF (ft_sA σ 6 f) 0 10 (nI 6) ∧ (∀ j, j < i → f j = σ.2.1 6 (j + 85)) ∧ ∀ j, i ≤ j → f j = σ.2.1 6 j) (fun x _ => 425 - x.toNatClampNeg) ?_ ⟨0, σ.2.1 6, rfl, by decide, self, fun j hj => absurd hj (Nat.not_lt_zero _), fun _ _ => rfl⟩
  rintro X x s ⟨i, f, rfl, hi, hs, hlo, hhi⟩ ih
  have hci : (nI i).toNatClampNeg = i := nI_clamp (by omega)
  have hle : (425 : Int32) ≤ nI i ↔ 425 ≤ i := nI_leI (a := 425) (by decide) (by omega)
  have es6 : s.2.1 6 = f := by rw [hs]; exact sA_s σ 6 f
  refine ⟨fun q s22 h22 => ?_, fun q => ?_⟩
  · have e : i = 425 := by have := hle.mp q; omega
    subst e
    refine hJ2 _ (part2 f 5 (by decide) (by rw [if_neg (by decide)]) (fun i hi => ?_) s22 ?_)
    · have := hK i (by omega)
      refine this.same (hoks i (by omega)) (fun j hj => ?_)
      rw [hlo _ (by omega), show 85 * (5 - 1 - i) + j + 85 = 85 * (6 - 1 - i) + j by omega]
    · rw [h22, hs, sF_s, sF_sF]; rfl
  · have hlt : i < 425 := Nat.lt_of_not_le (fun z => q (hle.mpr z))
    rw [show nI i + 85 = nI (i + 85) from nI_add i 85, hci, nI_clamp (show i + 85 < 2 ^ 31 by omega), es6]
    refine ⟨vp_in_nI (by omega) (by decide), vp_in_nI (by omega) (by decide), fun s23 h23 => ?_⟩
    refine ih _ _ ⟨i + 1, upd f i (f (i + 85)), nI_1 i, hlt, ?_, fun j hj => ?_, fun j hj => ?_⟩ (by rw [nI_1 i, nI_clamp (by omega), hci]; omega)
    · rw [h23, hs]
      show ft_sF (ft_sA (ft_sA σ 6 f) 6 _) 0 10 _ = _
      rw [sA_sA]
    · by_cases e : j = i
      · subst e; rw [upd_s]; exact hhi _ (by omega)
      · rw [upd_n e]; exact hlo j (by omega)
    · rw [upd_n (by omega)]; exact hhi j (by omega)
