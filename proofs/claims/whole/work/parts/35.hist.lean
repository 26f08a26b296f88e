/-! a state: the machine, how many sights, what is known, the sights -/
abbrev SS : Type := MM × Nat × Int32 × (Nat → Int32)
abbrev zM (z : SS) : MM := z.1
abbrev zC (z : SS) : Nat := z.2.1
abbrev zK (z : SS) : Int32 := z.2.2.1
abbrev zG (z : SS) : Nat → Int32 := z.2.2.2
def SOk (z : SS) : Prop := MOk (zM z) ∧ zC z ≤ 8 ∧ (∀ i, bt (zK z) i = true → i < 20) ∧ ∀ i, i < zC z → ∃ d, d < 8 ∧ zG z i = nI d
def RepW (σ : ft_St) (k : Nat) (z : SS) : Prop := σ.1 k 1 = nI (zC z) ∧ σ.1 k 2 = zK z ∧ ∀ i, i < zC z → σ.2.1 (k + 1) i = zG z i
def wc (k : Nat) : Nat → Prop := fun a => k ≤ a ∧ a ≤ k + 1
theorem RepW.same {σ σ' : ft_St} {k : Nat} {z : SS} (h : RepW σ k z) (h0 : σ'.1 k = σ.1 k) (h1 : σ'.2.1 (k + 1) = σ.2.1 (k + 1)) : RepW σ' k z := by
  unfold RepW
  rw [h0, h1]
  exact h
theorem RepW.frame {P : Nat → Prop} {σ σ' : ft_St} {k : Nat} {z : SS} (h : RepW σ k z) (hf : FrC P σ σ') (hd : ∀ a, wc k a → ¬ P a) : RepW σ' k z :=
  h.same (hf k (hd k ⟨by omega, by omega⟩)).1 (hf (k + 1) (hd _ ⟨by omega, by omega⟩)).2
theorem t_begin {σ : ft_St} {k : Nat} {S : Int32} {Φ : ft_St → Prop} (h : ∀ σ', σ' = ft_sF (ft_sF σ k 1 0) k 2 S → Φ σ') : w_X8_begin k S σ Φ := by
  unfold w_X8_begin
  intro s1 h1 s2 h2
  exact h s2 (by rw [h2, h1])
/-- a sight more, the eldest of nine goes -/
def seeZ (z : SS) (d : Nat) (S : Int32) : SS := (zM z, (if zC z < 8 then zC z + 1 else 8), S, fun i => if i = 0 then nI d else zG z (i - 1))
theorem t_addW {σ : ft_St} {k : Nat} {z : SS} {d : Nat} {S : Int32} {Φ : ft_St → Prop} (hW : RepW σ k z) (hc8 : zC z ≤ 8) (h : ∀ σ', RepW σ' k (seeZ z d S) → FrC (wc k) σ σ' → Φ σ') : w_X8_add k (nI d) S σ Φ := by
  unfold w_X8_add
  refine LP2.rule (fun x s => ∃ i, x = nI i ∧ i ≤ 7 ∧ FrC (wc k) σ s ∧ s.1 = σ.1 ∧ (∀ j, j ≤ i → s.2.1 (k + 1) j = σ.2.1 (k + 1) j) ∧ (∀ j, i < j → j < 8 → s.2.1 (k + 1) j = σ.2.1 (k + 1) (j - 1))) (fun x _ => x.toNatClampNeg) ?_ ⟨7, rfl, by decide, FrC.refl σ, rfl, fun _ _ => rfl, fun j h1 h2 => absurd h2 (by omega)⟩
  rintro X x s ⟨i, rfl, hi, hf, hs1, hlo, hhi⟩ ih
  have hc : (nI i).toNatClampNeg = i := nI_clamp (by omega)
  have hle : nI i ≤ 0 ↔ i ≤ 0 := nI_leI (b := 0) (by omega) (by decide)
  refine ⟨fun q => ⟨vp_in_nI (n := 0) (by decide) (by decide), fun s4 h4 s5 h5 s6 h6 => ?_⟩, fun q => ?_⟩
  · have e : i = 0 := by have := hle.mp q; omega
    subst e
    have c0 : Int32.toNatClampNeg 0 = 0 := rfl
    rw [c0] at h4
    have e4 : s4.1 = σ.1 := by rw [h4]; exact hs1
    have e6 : s6.2 = s4.2 := by rw [h6, h5]; rfl
    have hcnt : (if (8 : Int32) < s4.1 k 1 + 1 then (8 : Int32) else s4.1 k 1 + 1) = nI (zC (seeZ z d S)) := by
      rw [e4, hW.1, nI_1]
      have hlt : (8 : Int32) < nI (zC z + 1) ↔ 8 < zC z + 1 := nI_ltI (a := 8) (by decide) (by omega)
      show _ = nI (if zC z < 8 then zC z + 1 else 8)
      by_cases z8 : zC z < 8
      · rw [if_neg (by rw [hlt]; omega), if_pos z8]
      · rw [if_pos (by rw [hlt]; omega), if_neg z8]; rfl
    refine h s6 ⟨?_, ?_, fun j hj => ?_⟩ ?_
    · rw [h6, sF_1, if_neg (by decide), h5, sF_s]; exact hcnt
    · rw [h6, sF_s]; rfl
    · have hj : j < (if zC z < 8 then zC z + 1 else 8) := hj
      rw [e6, h4, sA_s]
      show _ = if j = 0 then nI d else zG z (j - 1)
      by_cases e : j = 0
      · rw [e, upd_s, if_pos rfl]
      · have hj2 : j < 8 ∧ j - 1 < zC z := by split at hj <;> omega
        rw [upd_n e, if_neg e, hhi j (by omega) hj2.1]
        exact hW.2.2 _ hj2.2
    · have f4 : FrC (wc k) s s4 := by rw [h4]; exact FrC.sA s _ ⟨by omega, by omega⟩
      have f5 : FrC (wc k) s4 s5 := by rw [h5]; exact FrC.sF s4 _ _ ⟨by omega, by omega⟩
      have f6 : FrC (wc k) s5 s6 := by rw [h6]; exact FrC.sF s5 _ _ ⟨by omega, by omega⟩
      exact ((hf.trans f4).trans f5).trans f6
  · have hi0 : 0 < i := Nat.pos_of_ne_zero (fun z => q (hle.mpr (by omega)))
    have hp : nI i - 1 = nI (i - 1) := by
      obtain ⟨j, rfl⟩ : ∃ j, i = j + 1 := ⟨i - 1, by omega⟩
      rw [nI_pred]; rfl
    have hm : nI i + (-1) = nI (i - 1) := sb_m1 hi0
    have hcp : (nI (i - 1)).toNatClampNeg = i - 1 := nI_clamp (by omega)
    rw [hp, hm, hc, hcp]
    refine ⟨vp_in_nI (by omega) (by decide), vp_in_nI (by omega) (by decide), fun s7 h7 => ?_⟩
    have a7 : s7.2.1 (k + 1) = upd (s.2.1 (k + 1)) i (s.2.1 (k + 1) (i - 1)) := by rw [h7, sA_s]
    refine ih _ _ ⟨i - 1, rfl, by omega, hf.trans (by rw [h7]; exact FrC.sA s _ ⟨by omega, by omega⟩), by rw [h7]; exact hs1, fun j hj => ?_, fun j h1 h2 => ?_⟩ (by rw [hcp, hc]; omega)
    · rw [a7, upd_n (by omega)]; exact hlo j (by omega)
    · rw [a7]
      by_cases e : j = i
      · subst e; rw [upd_s]; exact hlo _ (by omega)
      · rw [upd_n e]; exact hhi j (by omega) h2
theorem t_takeW {σ : ft_St} {k k1 : Nat} {z : SS} {Φ : ft_St → Prop} (hW : RepW σ k1 z) (hc8 : zC z ≤ 8) (hd : k1 + 1 < k ∨ k + 1 < k1) (h : ∀ σ', RepW σ' k z → FrC (wc k) σ σ' → Φ σ') : w_X8_take k k1 σ Φ := by
  unfold w_X8_take
  intro s1 h1 s2 h2 s3 h3
  have c0 : Int32.toNatClampNeg 0 = 0 := rfl
  have c8 : Int32.toNatClampNeg 8 = 8 := rfl
  rw [c0, c8] at h1
  have e1 : s1.1 = σ.1 := by rw [h1]; rfl
  have e3 : s3.2 = s1.2 := by rw [h3, h2]; rfl
  have hk : k1 ≠ k := by omega
  have f1 : FrC (wc k) σ s1 := by rw [h1]; exact FrC.sA σ _ ⟨by omega, by omega⟩
  have f2 : FrC (wc k) s1 s2 := by rw [h2]; exact FrC.sF s1 _ _ ⟨by omega, by omega⟩
  have f3 : FrC (wc k) s2 s3 := by rw [h3]; exact FrC.sF s2 _ _ ⟨by omega, by omega⟩
  refine h s3 ⟨?_, ?_, fun i hi => ?_⟩ ((f1.trans f2).trans f3)
  · rw [h3, sF_1, if_neg (by decide), h2, sF_s, e1]; exact hW.1
  · rw [h3, sF_s, h2, sF_n _ _ _ hk, e1]; exact hW.2.1
  · rw [e3, h1, sA_s, cpy0 (by omega)]; exact hW.2.2 i hi
/-- a State at cell k -/
def RepS (σ : ft_St) (k : Nat) (z : SS) : Prop := RepM σ (k + 1) (zM z) ∧ RepW σ (k + 5) z
def sc (k : Nat) : Nat → Prop := fun a => k + 1 ≤ a ∧ a ≤ k + 6
theorem RepS.frame {P : Nat → Prop} {σ σ' : ft_St} {k : Nat} {z : SS} (h : RepS σ k z) (hf : FrC P σ σ') (hd : ∀ a, sc k a → ¬ P a) : RepS σ' k z :=
  ⟨h.1.frame hf (fun a q => hd a (by unfold mc at q; unfold sc; omega)), h.2.frame hf (fun a q => hd a (by unfold wc at q; unfold sc; omega))⟩
theorem t_takeS {σ : ft_St} {k k1 : Nat} {z : SS} {Φ : ft_St → Prop} (hS : RepS σ k1 z) (hok : SOk z) (hd : k1 + 6 < k ∨ k + 6 < k1) (h : ∀ σ', RepS σ' k z → FrC (sc k) σ σ' → Φ σ') : w_X4_take k k1 σ Φ := by
  unfold w_X4_take
  refine t_takeM hS.1 hok.1 (by omega) (fun s1 hM1 f1 => ?_)
  have hW1 : RepW s1 (k1 + 5) z := hS.2.frame f1 (fun a q => by unfold wc at q; unfold mc; omega)
  refine t_takeW hW1 hok.2.1 (by omega) (fun s2 hW2 f2 => ?_)
  refine h s2 ⟨hM1.frame f2 (fun a q => by unfold mc at q; unfold wc; omega), hW2⟩ ?_
  exact (f1.mono (fun a q => by unfold mc at q; unfold sc; omega)).trans (f2.mono (fun a q => by unfold wc at q; unfold sc; omega))
/-- the states to go back to: nx the next place, hc how many, hist i the i-th back -/
def RepH (σ : ft_St) (hc : Nat) (hist : Nat → SS) : Prop := ∃ nx, nx < 6 ∧ hc ≤ 6 ∧ σ.1 8 1 = nI nx ∧ σ.1 8 2 = nI hc ∧ ∀ i, i < hc → RepS σ (10 + 7 * ((nx + 5 - i) % 6)) (hist i)
def hcells : Nat → Prop := fun a => 8 ≤ a ∧ a ≤ 51
theorem RepH.frame {P : Nat → Prop} {σ σ' : ft_St} {hc : Nat} {hist : Nat → SS} (h : RepH σ hc hist) (hf : FrC P σ σ') (hd : ∀ a, hcells a → ¬ P a) : RepH σ' hc hist := by
  obtain ⟨nx, h1, h2, h3, h4, h5⟩ := h
  have e8 := (hf 8 (hd 8 ⟨by omega, by omega⟩)).1
  refine ⟨nx, h1, h2, by rw [e8]; exact h3, by rw [e8]; exact h4, fun i hi => (h5 i hi).frame hf (fun a q => hd a ?_)⟩
  have : (nx + 5 - i) % 6 < 6 := Nat.mod_lt _ (by decide)
  unfold sc at q
  unfold hcells
  omega
/-- one more, of seven the eldest goes -/
def keepH (z : SS) (hist : Nat → SS) : Nat → SS := fun i => if i = 0 then z else hist (i - 1)
theorem t_keep {σ : ft_St} {z : SS} {hc : Nat} {hist : Nat → SS} {Φ : ft_St → Prop} (hS : RepS σ 1 z) (hok : SOk z) (hH : RepH σ hc hist) (h : ∀ σ', RepH σ' (if hc < 6 then hc + 1 else 6) (keepH z hist) → FrC hcells σ σ' → Φ σ') : w_X0_keep 8 1 σ Φ := by
  obtain ⟨nx, h1, h2, h3, h4, h5⟩ := hH
  unfold w_X0_keep
  rw [h3, nI_clamp (show nx < 2 ^ 31 by omega)]
  refine ⟨vp_in_nI h1 (by decide), ?_⟩
  rw [show 8 + 1 + 1 + 7 * nx = 10 + 7 * nx by omega]
  refine t_takeS hS hok (by omega) (fun s1 hS1 f1 => ?_)
  have e8 : s1.1 8 = σ.1 8 := (f1 8 (by unfold sc; omega)).1
  have fH1 : FrC hcells σ s1 := f1.mono (fun a q => by unfold sc at q; unfold hcells; omega)
  rw [e8, h3, show (5 : Int32) = nI 5 from rfl, nI_eq (by omega) (by decide), show nI nx + 1 = nI (nx + 1) from nI_1 nx]
  have fin : ∀ x2 n2, x2 = nI n2 → n2 = (nx + 1) % 6 → ∀ (s4 : ft_St), s4 = ft_sF s1 8 1 x2 → ∀ (s5 : ft_St), s5 = ft_sF s4 8 2 (if 6 < ((s4.1 8 2) + 1) then 6 else ((s4.1 8 2) + 1)) → Φ s5 := by
    intro x2 n2 hx2 hn2 s4 hs4 s5 hs5
    have e4 : s4.1 8 2 = nI hc := by rw [hs4, sF_1, if_neg (by decide), e8]; exact h4
    have ecnt : (if (6 : Int32) < s4.1 8 2 + 1 then (6 : Int32) else s4.1 8 2 + 1) = nI (if hc < 6 then hc + 1 else 6) := by
      rw [e4, nI_1]
      have hlt : (6 : Int32) < nI (hc + 1) ↔ 6 < hc + 1 := nI_ltI (a := 6) (by decide) (by omega)
      by_cases z8 : hc < 6
      · rw [if_neg (by rw [hlt]; omega), if_pos z8]
      · rw [if_pos (by rw [hlt]; omega), if_neg z8]; rfl
    rw [ecnt] at hs5
    have f4 : FrC (fun a => a = 8) s1 s4 := by rw [hs4]; exact FrC.sF s1 _ _ rfl
    have f5 : FrC (fun a => a = 8) s4 s5 := by rw [hs5]; exact FrC.sF s4 _ _ rfl
    have f45 := f4.trans f5
    refine h s5 ⟨n2, by omega, by split <;> omega, ?_, ?_, fun i hi => ?_⟩ (fH1.trans (f45.mono (fun a q => by unfold hcells; omega)))
    · rw [hs5, sF_1, if_neg (by decide), hs4, sF_s]; exact hx2
    · rw [hs5, sF_s]
    · by_cases e : i = 0
      · subst e
        have ep : (n2 + 5 - 0) % 6 = nx := by omega
        rw [ep]
        exact hS1.frame f45 (fun a q => by unfold sc at q; omega)
      · have hi2 : i < 6 ∧ i - 1 < hc := by split at hi <;> omega
        have ep : (n2 + 5 - i) % 6 = (nx + 5 - (i - 1)) % 6 := by omega
        have en : (nx + 5 - (i - 1)) % 6 ≠ nx := by omega
        rw [ep]
        show RepS s5 _ (if i = 0 then z else hist (i - 1))
        rw [if_neg e]
        exact ((h5 (i - 1) hi2.2).frame f1 (fun a q => by unfold sc at q; unfold sc; omega)).frame f45 (fun a q => by unfold sc at q; omega)
  intro J hJ
  refine ⟨fun q => hJ _ (fin _ (nx + 1) rfl (by omega)), fun q => hJ _ (fin _ 0 rfl (by omega))⟩
theorem t_giveBack {σ : ft_St} {hc : Nat} {hist : Nat → SS} {Φ : ft_St → Prop} (hH : RepH σ hc hist) (h0 : 0 < hc) (hok : SOk (hist 0)) (h : ∀ σ', RepS σ' 1 (hist 0) → RepH σ' (hc - 1) (fun i => hist (i + 1)) → FrC (fun a => a = 8 ∨ sc 1 a) σ σ' → Φ σ') : w_X0_giveBack 8 1 σ Φ := by
  obtain ⟨nx, h1, h2, h3, h4, h5⟩ := hH
  unfold w_X0_giveBack
  rw [h4, h3]
  have hle : nI hc ≤ 0 ↔ hc ≤ 0 := nI_leI (b := 0) (by omega) (by decide)
  refine ⟨fun q => absurd (hle.mp q) (by omega), fun _ => ?_⟩
  rw [show (0 : Int32) = nI 0 from rfl, nI_eq (by omega) (by decide)]
  have fin : ∀ x1 n1, x1 = nI n1 → n1 = (nx + 5) % 6 → ∀ (s3 : ft_St), s3 = ft_sF σ 8 1 x1 → ∀ (s4 : ft_St), s4 = ft_sF s3 8 2 ((s3.1 8 2) - 1) → vp_in (s4.1 8 1) 6 ∧ w_X4_take 1 ((8 + 1) + 1 + 7 * (Int32.toNatClampNeg (s4.1 8 1))) s4 (fun (s5 : ft_St) => Φ s5) := by
    intro x1 n1 hx1 hn1 s3 hs3 s4 hs4
    have e3 : s3.1 8 2 = nI hc := by rw [hs3, sF_1, if_neg (by decide)]; exact h4
    have e4 : s4.1 8 1 = nI n1 := by rw [hs4, sF_1, if_neg (by decide), hs3, sF_s]; exact hx1
    rw [e4, nI_clamp (show n1 < 2 ^ 31 by omega), show 8 + 1 + 1 + 7 * n1 = 10 + 7 * n1 by omega]
    refine ⟨vp_in_nI (by omega) (by decide), ?_⟩
    have f3 : FrC (fun a => a = 8) σ s3 := by rw [hs3]; exact FrC.sF σ _ _ rfl
    have f4 : FrC (fun a => a = 8) s3 s4 := by rw [hs4]; exact FrC.sF s3 _ _ rfl
    have f34 := f3.trans f4
    have ep : (nx + 5 - 0) % 6 = n1 := by omega
    have hS0 := h5 0 h0
    rw [ep] at hS0
    have hS4 : RepS s4 (10 + 7 * n1) (hist 0) := hS0.frame f34 (fun a q => by unfold sc at q; omega)
    refine t_takeS hS4 hok (by omega) (fun s5 hS5 f5 => ?_)
    have e58 : s5.1 8 = s4.1 8 := (f5 8 (by unfold sc; omega)).1
    refine h s5 hS5 ⟨n1, by omega, by omega, by rw [e58]; exact e4, ?_, fun i hi => ?_⟩ ((f34.mono (fun a q => Or.inl q)).trans (f5.mono (fun a q => Or.inr q)))
    · rw [e58, hs4, sF_s, e3]
      obtain ⟨j, e2⟩ : ∃ j, hc = j + 1 := ⟨hc - 1, by omega⟩
      rw [e2, nI_pred]; rfl
    · have ep2 : (n1 + 5 - i) % 6 = (nx + 5 - (i + 1)) % 6 := by omega
      rw [ep2]
      exact ((h5 (i + 1) (by omega)).frame f34 (fun a q => by unfold sc at q; omega)).frame f5 (fun a q => by unfold sc at q; unfold sc; omega)
  intro J hJ
  refine ⟨fun q => hJ _ (fin _ (nx - 1) ?_ (by omega)), fun q => hJ _ (fin _ 5 rfl (by omega))⟩
  obtain ⟨j, e2⟩ : ∃ j, nx = j + 1 := ⟨nx - 1, by omega⟩
  rw [e2, nI_pred]; rfl
