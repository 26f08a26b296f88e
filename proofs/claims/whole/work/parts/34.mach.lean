/-! ways come and go -/
def addW (M : MM) (a d b : Nat) : MM := (mN M + 1, va_up (mF M) (mN M) a, va_up (mD M) (mN M) d, va_up (mT M) (mN M) b, mS M, mX M)
def remW (M : MM) (w : Nat) : MM := (mN M - 1, fun k => if k < w then mF M k else mF M (k + 1), fun k => if k < w then mD M k else mD M (k + 1), fun k => if k < w then mT M k else mT M (k + 1), mS M, mX M)
def hasW (M : MM) (a d b : Nat) : Prop := ∃ w, w < mN M ∧ mF M w = a ∧ mD M w = d ∧ mT M w = b
noncomputable def hasB (M : MM) (a d b : Nat) : Bool := (Classical.propDecidable (hasW M a d b)).decide
theorem hasB_t {M : MM} {a d b : Nat} : hasB M a d b = true ↔ hasW M a d b := by simp [hasB]
theorem hasB_f {M : MM} {a d b : Nat} : hasB M a d b = false ↔ ¬ hasW M a d b := by simp [hasB]
theorem up_s {α : Type} {f : Nat → α} {k : Nat} {x : α} : va_up f k x k = x := by simp [va_up]
theorem up_n {α : Type} {f : Nat → α} {k j : Nat} {x : α} (h : j ≠ k) : va_up f k x j = f j := by simp [va_up, h]
theorem addW_ok {M : MM} (hok : MOk M) (hn : mN M < 24) {a d b : Nat} (ha : a < 10) (hd : d < 8) (hb : b < 10) : MOk (addW M a d b) := by
  refine ⟨hn, fun w hw => ?_, hok.2.2.1, hok.2.2.2⟩
  have hw : w < mN M + 1 := hw
  show va_up (mF M) (mN M) a w < 10 ∧ va_up (mD M) (mN M) d w < 8 ∧ va_up (mT M) (mN M) b w < 10
  by_cases e : w = mN M
  · rw [e, up_s, up_s, up_s]; exact ⟨ha, hd, hb⟩
  · rw [up_n e, up_n e, up_n e]; exact hok.2.1 w (by omega)
theorem remW_ok {M : MM} (hok : MOk M) {v : Nat} (hv : v < mN M) : MOk (remW M v) := by
  refine ⟨by have := hok.1; show mN M - 1 ≤ 24; omega, fun w hw => ?_, hok.2.2.1, hok.2.2.2⟩
  have hw : w < mN M - 1 := hw
  show (if w < v then mF M w else mF M (w + 1)) < 10 ∧ (if w < v then mD M w else mD M (w + 1)) < 8 ∧ (if w < v then mT M w else mT M (w + 1)) < 10
  by_cases e : w < v
  · rw [if_pos e, if_pos e, if_pos e]; exact hok.2.1 w (by omega)
  · rw [if_neg e, if_neg e, if_neg e]; exact hok.2.1 (w + 1) (by omega)
/-! what stays -/
def FrC (P : Nat → Prop) (σ σ' : ft_St) : Prop := ∀ a, ¬ P a → σ'.1 a = σ.1 a ∧ σ'.2.1 a = σ.2.1 a
theorem FrC.refl {P : Nat → Prop} (σ : ft_St) : FrC P σ σ := fun _ _ => ⟨rfl, rfl⟩
theorem FrC.trans {P : Nat → Prop} {σ σ' σ'' : ft_St} (h : FrC P σ σ') (h2 : FrC P σ' σ'') : FrC P σ σ'' := fun a q => ⟨(h2 a q).1.trans (h a q).1, (h2 a q).2.trans (h a q).2⟩
theorem FrC.mono {P Q : Nat → Prop} {σ σ' : ft_St} (h : FrC P σ σ') (hPQ : ∀ a, P a → Q a) : FrC Q σ σ' := fun a q => h a (fun z => q (hPQ a z))
theorem FrC.sA {P : Nat → Prop} (σ : ft_St) {k : Nat} (f : Nat → Int32) (h : P k) : FrC P σ (ft_sA σ k f) := fun a q => ⟨rfl, sA_n σ f (fun e => q (e ▸ h))⟩
theorem FrC.sF {P : Nat → Prop} (σ : ft_St) {k : Nat} (j : Nat) (v : Int32) (h : P k) : FrC P σ (ft_sF σ k j v) := fun a q => ⟨sF_n σ j v (fun e => q (e ▸ h)), rfl⟩
def mc (k : Nat) : Nat → Prop := fun a => k ≤ a ∧ a ≤ k + 3
theorem RepM.frame {P : Nat → Prop} {σ σ' : ft_St} {k : Nat} {M : MM} (h : RepM σ k M) (hf : FrC P σ σ') (hd : ∀ a, mc k a → ¬ P a) : RepM σ' k M :=
  h.same (hf k (hd k ⟨by omega, by omega⟩)).1 (hf (k + 1) (hd _ ⟨by omega, by omega⟩)).2 (hf (k + 2) (hd _ ⟨by omega, by omega⟩)).2 (hf (k + 3) (hd _ ⟨by omega, by omega⟩)).2
theorem nI_inj {a b : Nat} (ha : a < 2 ^ 31) (hb : b < 2 ^ 31) (h : nI a = nI b) : a = b := (nI_eq ha hb).mp h
theorem t_has {σ : ft_St} {k : Nat} {M : MM} {a d b : Nat} {Φ : Int32 → Prop} (hM : RepM σ k M) (hok : MOk M) (ha : a < 100) (hd : d < 100) (hb : b < 100) (h : Φ (b01 (hasB M a d b))) : w_X1_has k (nI a) (nI d) (nI b) σ Φ := by
  have hn := hok.1
  unfold w_X1_has
  refine LP1.rule (fun x => ∃ w, x = nI w ∧ w ≤ mN M ∧ ∀ v, v < w → ¬ (mF M v = a ∧ mD M v = d ∧ mT M v = b)) (fun x => 24 - x.toNatClampNeg) ?_ ⟨0, rfl, Nat.zero_le _, fun v hv => absurd hv (Nat.not_lt_zero _)⟩
  rintro X x ⟨w, rfl, hw, hno⟩ ih
  have hc : (nI w).toNatClampNeg = w := nI_clamp (by omega)
  rw [hM.1, hc]
  have hle : nI (mN M) ≤ nI w ↔ mN M ≤ w := nI_leI (by omega) (by omega)
  refine ⟨fun q => ?_, fun q => ?_⟩
  · have e : w = mN M := by have := hle.mp q; omega
    rw [hasB_f.mpr (by rintro ⟨v, hv, h1⟩; exact hno v (by omega) h1)] at h
    exact h
  · have hlt : w < mN M := Nat.lt_of_not_le (fun z => q (hle.mpr z))
    obtain ⟨hF, hD, hT⟩ := hM.2.2.2 w hlt
    obtain ⟨bF, bD, bT⟩ := hok.2.1 w hlt
    have hin : vp_in (nI w) 24 := vp_in_nI (by omega) (by decide)
    have nxt : ¬ (mF M w = a ∧ mD M w = d ∧ mT M w = b) → X (nI w + 1) := fun z => ih _ ⟨w + 1, nI_1 w, hlt, fun v hv => by
      by_cases e : v = w
      · subst e; exact z
      · exact hno v (by omega)⟩ (by rw [nI_1 w, nI_clamp (by omega), hc]; omega)
    rw [hF, hD, hT, nI_eq (by omega) (by omega), nI_eq (by omega) (by omega), nI_eq (by omega) (by omega)]
    refine ⟨hin, fun z => nxt (fun y => z y.1), fun z => ⟨hin, fun z2 => nxt (fun y => z2 y.2.1), fun z2 => ⟨hin, fun z3 => nxt (fun y => z3 y.2.2), fun z3 => ?_⟩⟩⟩
    rw [hasB_t.mpr ⟨w, hlt, z, z2, z3⟩] at h
    exact h
theorem t_isFull {σ : ft_St} {k : Nat} {M : MM} {Φ : Int32 → Prop} (hM : RepM σ k M) (hok : MOk M) (h : Φ (if mN M < 24 then 0 else 1)) : w_X1_isFull k σ Φ := by
  have hn := hok.1
  unfold w_X1_isFull
  rw [hM.1, show (nI (mN M) < 24) ↔ mN M < 24 from nI_ltI (b := 24) (by omega) (by decide)]
  refine ⟨fun z => ?_, fun z => ?_⟩
  · rw [if_pos z] at h; exact h
  · rw [if_neg z] at h; exact h
theorem t_add {σ : ft_St} {k : Nat} {M : MM} {a d b : Nat} {Φ : ft_St → Prop} (hM : RepM σ k M) (hok : MOk M) (hn : mN M < 24) (h : ∀ σ', RepM σ' k (addW M a d b) → FrC (mc k) σ σ' → Φ σ') : w_X1_add k (nI a) (nI d) (nI b) σ Φ := by
  unfold w_X1_add
  refine t_isFull hM hok ?_
  rw [if_pos hn]
  refine ⟨fun z => absurd rfl z, fun _ => ?_⟩
  have hin : vp_in (nI (mN M)) 24 := vp_in_nI hn (by decide)
  have hc : (nI (mN M)).toNatClampNeg = mN M := nI_clamp (by omega)
  rw [hM.1, hc]
  refine ⟨hin, fun s2 h2 => ?_⟩
  have e2 : s2.1 = σ.1 := by rw [h2]; rfl
  rw [e2, hM.1, hc]
  refine ⟨hin, fun s3 h3 => ?_⟩
  have e3 : s3.1 = σ.1 := by rw [h3]; exact e2
  rw [e3, hM.1, hc]
  refine ⟨hin, fun s4 h4 s5 h5 => ?_⟩
  have e4 : s4.1 = σ.1 := by rw [h4]; exact e3
  rw [e4, hM.1] at h5
  have a1 : s4.2.1 (k + 1) = upd (σ.2.1 (k + 1)) (mN M) (nI a) := by rw [h4, sA_n _ _ (by omega), h3, sA_n _ _ (by omega), h2, sA_s]
  have a2 : s4.2.1 (k + 2) = upd (σ.2.1 (k + 2)) (mN M) (nI d) := by rw [h4, sA_n _ _ (by omega), h3, sA_s, h2, sA_n _ _ (by omega)]
  have a3 : s4.2.1 (k + 3) = upd (σ.2.1 (k + 3)) (mN M) (nI b) := by rw [h4, sA_s, h3, sA_n _ _ (by omega), h2, sA_n _ _ (by omega)]
  have e5 : s5.2 = s4.2 := by rw [h5]; rfl
  refine h s5 ⟨?_, ?_, ?_, fun w hw => ?_⟩ ?_
  · rw [h5, sF_s]; exact nI_add (mN M) 1
  · rw [h5, sF_1, if_neg (by decide), e4]; exact hM.2.1
  · rw [h5, sF_1, if_neg (by decide), e4]; exact hM.2.2.1
  · have hw : w < mN M + 1 := hw
    rw [e5, a1, a2, a3]
    show _ = nI (va_up (mF M) (mN M) a w) ∧ _ = nI (va_up (mD M) (mN M) d w) ∧ _ = nI (va_up (mT M) (mN M) b w)
    by_cases e : w = mN M
    · rw [e, upd_s, upd_s, upd_s, up_s, up_s, up_s]; exact ⟨rfl, rfl, rfl⟩
    · rw [upd_n e, upd_n e, upd_n e, up_n e, up_n e, up_n e]; exact hM.2.2.2 w (by omega)
  · have f2 : FrC (mc k) σ s2 := by rw [h2]; exact FrC.sA σ _ ⟨by omega, by omega⟩
    have f3 : FrC (mc k) s2 s3 := by rw [h3]; exact FrC.sA s2 _ ⟨by omega, by omega⟩
    have f4 : FrC (mc k) s3 s4 := by rw [h4]; exact FrC.sA s3 _ ⟨by omega, by omega⟩
    have f5 : FrC (mc k) s4 s5 := by rw [h5]; exact FrC.sF s4 _ _ ⟨by omega, by omega⟩
    exact ((f2.trans f3).trans f4).trans f5
/-! one place of three rows moves down, again and again -/
theorem t_remove {σ : ft_St} {k : Nat} {M : MM} {v : Nat} {Φ : ft_St → Prop} (hM : RepM σ k M) (hok : MOk M) (hv : v < mN M) (h : ∀ σ', RepM σ' k (remW M v) → FrC (mc k) σ σ' → Φ σ') : w_X1_remove k (nI v) σ Φ := by
  have hn := hok.1
  unfold w_X1_remove
  rw [show nI v + 1 = nI (v + 1) from nI_1 v]
  refine LP2.rule (fun x s => ∃ i, x = nI i ∧ v < i ∧ i ≤ mN M ∧ FrC (mc k) σ s ∧ s.1 = σ.1 ∧ (∀ w, w < mN M → w + 1 < i → s.2.1 (k + 1) w = nI (mF (remW M v) w) ∧ s.2.1 (k + 2) w = nI (mD (remW M v) w) ∧ s.2.1 (k + 3) w = nI (mT (remW M v) w)) ∧ (∀ w, w < mN M → i ≤ w → s.2.1 (k + 1) w = nI (mF M w) ∧ s.2.1 (k + 2) w = nI (mD M w) ∧ s.2.1 (k + 3) w = nI (mT M w))) (fun x _ => 24 - x.toNatClampNeg) ?_ ⟨v + 1, rfl, by omega, hv, FrC.refl σ, rfl, fun w hw h2 => ?_, fun w hw _ => hM.2.2.2 w hw⟩
  · rintro X x s ⟨i, rfl, hvi, hi, hf, hs1, hlo, hhi⟩ ih
    have hc : (nI i).toNatClampNeg = i := nI_clamp (by omega)
    have hp : nI i - 1 = nI (i - 1) := by
      obtain ⟨j, rfl⟩ : ∃ j, i = j + 1 := ⟨i - 1, by omega⟩
      rw [nI_pred]; rfl
    have hcp : (nI (i - 1)).toNatClampNeg = i - 1 := nI_clamp (by omega)
    rw [hs1, hM.1, hp, hc, hcp]
    have hle : nI (mN M) ≤ nI i ↔ mN M ≤ i := nI_leI (by omega) (by omega)
    refine ⟨fun q s4 h4 => ?_, fun q => ?_⟩
    · have e : i = mN M := by have := hle.mp q; omega
      refine h s4 ⟨?_, ?_, ?_, fun w hw => ?_⟩ (hf.trans (by rw [h4]; exact FrC.sF s _ _ ⟨by omega, by omega⟩))
      · rw [h4, sF_s]
        show nI (mN M) - 1 = nI (mN M - 1)
        obtain ⟨j, e2⟩ : ∃ j, mN M = j + 1 := ⟨mN M - 1, by omega⟩
        rw [e2, nI_pred]; rfl
      · rw [h4, sF_1, if_neg (by decide), hs1]; exact hM.2.1
      · rw [h4, sF_1, if_neg (by decide), hs1]; exact hM.2.2.1
      · have hw : w < mN M - 1 := hw
        rw [h4, sF_2]
        exact hlo w (by omega) (by omega)
    · have hlt : i < mN M := Nat.lt_of_not_le (fun z => q (hle.mpr z))
      have hin : vp_in (nI i) 24 := vp_in_nI (by omega) (by decide)
      have hinp : vp_in (nI (i - 1)) 24 := vp_in_nI (by omega) (by decide)
      refine ⟨hin, hinp, fun s5 h5 => ⟨hin, hinp, fun s6 h6 => ⟨hin, hinp, fun s7 h7 => ?_⟩⟩⟩
      have a1 : s7.2.1 (k + 1) = upd (s.2.1 (k + 1)) (i - 1) (s.2.1 (k + 1) i) := by rw [h7, sA_n _ _ (by omega), h6, sA_n _ _ (by omega), h5, sA_s]
      have a2 : s7.2.1 (k + 2) = upd (s.2.1 (k + 2)) (i - 1) (s.2.1 (k + 2) i) := by rw [h7, sA_n _ _ (by omega), h6, sA_s, h5, sA_n _ _ (by omega)]
      have a3 : s7.2.1 (k + 3) = upd (s.2.1 (k + 3)) (i - 1) (s.2.1 (k + 3) i) := by rw [h7, sA_s, h6, sA_n _ _ (by omega), h5, sA_n _ _ (by omega)]
      have f5 : FrC (mc k) s s5 := by rw [h5]; exact FrC.sA s _ ⟨by omega, by omega⟩
      have f6 : FrC (mc k) s5 s6 := by rw [h6]; exact FrC.sA s5 _ ⟨by omega, by omega⟩
      have f7 : FrC (mc k) s6 s7 := by rw [h7]; exact FrC.sA s6 _ ⟨by omega, by omega⟩
      refine ih _ _ ⟨i + 1, nI_1 i, by omega, hlt, ((hf.trans f5).trans f6).trans f7, by rw [h7, h6, h5]; exact hs1, fun w hw h2 => ?_, fun w hw h2 => ?_⟩ ?_
      · rw [a1, a2, a3]
        by_cases e : w = i - 1
        · subst e
          rw [upd_s, upd_s, upd_s]
          have hx := hhi i hlt (Nat.le_refl _)
          show _ = nI (if i - 1 < v then _ else _) ∧ _ = nI (if i - 1 < v then _ else _) ∧ _ = nI (if i - 1 < v then _ else _)
          rw [if_neg (by omega), if_neg (by omega), if_neg (by omega), show i - 1 + 1 = i by omega]
          exact hx
        · rw [upd_n e, upd_n e, upd_n e]
          exact hlo w hw (by omega)
      · rw [a1, a2, a3, upd_n (by omega), upd_n (by omega), upd_n (by omega)]
        exact hhi w hw (by omega)
      · show 24 - (nI i + 1).toNatClampNeg < 24 - (nI i).toNatClampNeg
        rw [nI_1 i, nI_clamp (by omega), hc]; omega
  · show _ = nI (if w < v then _ else _) ∧ _ = nI (if w < v then _ else _) ∧ _ = nI (if w < v then _ else _)
    rw [if_pos (by omega), if_pos (by omega), if_pos (by omega)]
    exact hM.2.2.2 w hw
theorem cpy0 {f g : Nat → Int32} {n j : Nat} (h : j < n) : va_cpy f g 0 0 n j = f j := by
  rw [pk_cpy_in (Nat.zero_le _) (by omega)]
  simp
theorem t_takeM {σ : ft_St} {k k1 : Nat} {M : MM} {Φ : ft_St → Prop} (hM : RepM σ k1 M) (hok : MOk M) (hd : k1 + 3 < k ∨ k + 3 < k1) (h : ∀ σ', RepM σ' k M → FrC (mc k) σ σ' → Φ σ') : w_X1_take k k1 σ Φ := by
  have hn := hok.1
  unfold w_X1_take
  intro s1 h1 s2 h2 s3 h3 s4 h4 s5 h5 s6 h6
  have c0 : Int32.toNatClampNeg 0 = 0 := rfl
  have c24 : Int32.toNatClampNeg 24 = 24 := rfl
  rw [c0, c24] at h1 h2 h3
  have e3 : s3.1 = σ.1 := by rw [h3, h2, h1]; rfl
  have r1 : s3.2.1 (k + 1) = va_cpy (σ.2.1 (k1 + 1)) (σ.2.1 (k + 1)) 0 0 24 := by rw [h3, sA_n _ _ (by omega), h2, sA_n _ _ (by omega), h1, sA_s]
  have r2 : s3.2.1 (k + 2) = va_cpy (σ.2.1 (k1 + 2)) (σ.2.1 (k + 2)) 0 0 24 := by rw [h3, sA_n _ _ (by omega), h2, sA_s, h1, sA_n _ _ (by omega), sA_n _ _ (by omega)]
  have r3 : s3.2.1 (k + 3) = va_cpy (σ.2.1 (k1 + 3)) (σ.2.1 (k + 3)) 0 0 24 := by rw [h3, sA_s, h2, sA_n _ _ (by omega), sA_n _ _ (by omega), h1, sA_n _ _ (by omega), sA_n _ _ (by omega)]
  have e6 : s6.2 = s3.2 := by rw [h6, h5, h4]; rfl
  have f1 : FrC (mc k) σ s1 := by rw [h1]; exact FrC.sA σ _ ⟨by omega, by omega⟩
  have f2 : FrC (mc k) s1 s2 := by rw [h2]; exact FrC.sA s1 _ ⟨by omega, by omega⟩
  have f3 : FrC (mc k) s2 s3 := by rw [h3]; exact FrC.sA s2 _ ⟨by omega, by omega⟩
  have f4 : FrC (mc k) s3 s4 := by rw [h4]; exact FrC.sF s3 _ _ ⟨by omega, by omega⟩
  have f5 : FrC (mc k) s4 s5 := by rw [h5]; exact FrC.sF s4 _ _ ⟨by omega, by omega⟩
  have f6 : FrC (mc k) s5 s6 := by rw [h6]; exact FrC.sF s5 _ _ ⟨by omega, by omega⟩
  have hk : k1 ≠ k := by omega
  refine h s6 ⟨?_, ?_, ?_, fun w hw => ?_⟩ (((((f1.trans f2).trans f3).trans f4).trans f5).trans f6)
  · rw [h6, sF_1, if_neg (by decide), h5, sF_1, if_neg (by decide), h4, sF_s, e3]; exact hM.1
  · rw [h6, sF_1, if_neg (by decide), h5, sF_s, h4, sF_n _ _ _ hk, e3]; exact hM.2.1
  · rw [h6, sF_s, h5, sF_n _ _ _ hk, h4, sF_n _ _ _ hk, e3]; exact hM.2.2.1
  · rw [e6, r1, r2, r3, cpy0 (by omega), cpy0 (by omega), cpy0 (by omega)]
    exact hM.2.2.2 w hw
