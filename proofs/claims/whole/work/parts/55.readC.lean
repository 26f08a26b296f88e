def TOk (tl : Nat) (T : Nat → Nat) : Prop := tl ≤ 120 ∧ ∀ i, i < tl → T i ≤ 127
def RepTx (σ : ft_St) (tl : Nat) (T : Nat → Nat) : Prop := σ.1 73 1 = nI tl ∧ ∀ i, i < tl → σ.2.1 74 i = nI (T i)
theorem RepTx.frame {P : Nat → Prop} {σ σ' : ft_St} {tl : Nat} {T : Nat → Nat} (h : RepTx σ tl T) (hf : FrC P σ σ') (h3 : ¬ P 73) (h4 : ¬ P 74) : RepTx σ' tl T := by
  refine ⟨?_, fun i hi => ?_⟩
  · rw [(hf 73 h3).1]; exact h.1
  · rw [(hf 74 h4).2]; exact h.2 i hi
/-- the beginning -/
def q0 (M : MM) : QS := (0, 0, 0, 0, 0, 0, M)
theorem b0_8 : ∀ i, bt 0 i = true → i < 8 := fun i hi => by
  rw [b_0] at hi; cases hi
theorem q0_ok {M : MM} (hok : MOk M) : QOk 0 (q0 M) := ⟨⟨Nat.zero_le _, Nat.le_refl _, Nat.le_refl _⟩, fun y => absurd y (by show ¬ (0 = 1 ∨ 0 = 2); decide), fun y => absurd y (by show ¬ (0 = 2); decide), b0_8, hok⟩
theorem t_follow {σ : ft_St} {M : MM} {tl : Nat} {T : Nat → Nat} {Φ : Int32 → ft_St → Prop} (hM : RepM σ 2 M) (hok : MOk M) (hT : RepTx σ tl T) (hTo : TOk tl T) (h0 : ∀ p, p ≤ 120 → RES T tl 0 (q0 M) = .inl p → ∀ σ', FrC rdc σ σ' → Φ ((-10) - nI p) σ') (h1 : ∀ n D, n ≤ 120 → MOk D → RES T tl 0 (q0 M) = .inr (n, D) → ∀ σ', RepM σ' 76 D → FrC rdc σ σ' → Φ (nI n) σ') : w_X2_follow 75 73 2 σ Φ := by
  unfold w_X2_follow
  refine t_takeM (k := 76) hM hok (Or.inl (by decide)) (fun s1 hM1 hF1 s2 g2 s3 g3 => ?_)
  have hF3 : FrC rdc σ s3 := by
    rw [g3, g2]
    exact ((hF1.mono (fun a q => by unfold mc at q; unfold rdc; omega)).trans (FrC.f75 _ _ _)).trans (FrC.f75 _ _ _)
  have hQ3 : RepQ s3 (q0 M) := by
    rw [g3, g2]
    refine ⟨⟨?_, sF_s _ _ _ _, fun z => absurd z (by show ¬ (0 = 1 ∨ 0 = 2); decide)⟩, fun z => absurd z (by show ¬ (0 = 1 ∨ 0 = 2); decide), fun z => absurd z (by show ¬ (0 = 2); decide), fun z => absurd z (by show ¬ (3 < 0); decide), (hM1.f75 _ _).f75 _ _⟩
    rw [sF_1, if_neg (by decide), sF_s]; rfl
  refine LP2.rule (fun x4 s5 => ∃ pos q, x4 = nI pos ∧ pos ≤ tl ∧ RepQ s5 q ∧ QOk pos q ∧ FrC rdc σ s5 ∧ RES T tl pos q = RES T tl 0 (q0 M)) (fun x4 _ => 120 - x4.toNatClampNeg) ?_ ⟨0, q0 M, rfl, Nat.zero_le _, hQ3, q0_ok hok, hF3, rfl⟩
  rintro X6 x4 s5 ⟨pos, q, rfl, hp, hQ, hQo, hF, hR⟩ ih
  have htl := hTo.1
  have hT5 : RepTx s5 tl T := hT.frame hF (by unfold rdc; decide) (by unfold rdc; decide)
  have hcp : (nI pos).toNatClampNeg = pos := nI_clamp (by omega)
  have hle : s5.1 73 1 ≤ nI pos ↔ tl ≤ pos := by rw [hT5.1]; exact nI_leI (by omega) (by omega)
  refine ⟨fun y => ?_, fun y => ?_⟩
  · have e : pos = tl := by have := hle.mp y; omega
    subst e
    rw [RES_end] at hR
    have a1 := hQo.1.1
    have a2 := hQo.1.2.1
    rw [hQ.1.1, hQ.1.2.1, hT5.1]
    have z1 : nI q.1 = 0 ↔ q.1 = 0 := nI_eq (b := 0) (by omega) (by decide)
    have z2 : nI q.2.1 = 0 ↔ q.2.1 = 0 := nI_eq (b := 0) (by omega) (by decide)
    rw [z1, z2]
    intro J7 hJ7
    have bad : ¬ (q.1 = 0 ∧ q.2.1 ≠ 0) → J7 := fun w => by
      rw [if_neg w] at hR
      exact hJ7 (h0 pos (by omega) hR.symm s5 hF)
    refine ⟨fun w => bad (fun v => w v.1), fun w => ⟨fun v => ?_, fun v => bad (fun u => u.2 v)⟩⟩
    rw [if_pos ⟨w, v⟩] at hR
    exact h1 q.2.1 _ (by omega) hQo.2.2.2.2 hR.symm s5 hQ.2.2.2.2 hF
  · have hlt : pos < tl := Nat.lt_of_not_le (fun z => y (hle.mpr z))
    have hmu : 120 - (nI pos + 1).toNatClampNeg < 120 - (nI pos).toNatClampNeg := by
      rw [nI_1 pos, nI_clamp (by omega), hcp]; omega
    have hc := hTo.2 pos hlt
    refine ⟨vp_in_nI (by omega) (by decide), fun x8 h8 => ?_⟩
    rw [hcp, show (73 + 1 : Nat) = 74 from rfl, hT5.2 pos hlt] at h8
    rw [h8]
    have e32 : nI (T pos) = 32 ↔ T pos = 32 := nI_eq (b := 32) (by omega) (by decide)
    rw [e32]
    refine ⟨fun z => ih _ _ ⟨pos + 1, q, nI_1 pos, hlt, hQ, hQo.more, hF, by rw [← RES_bl q hlt z]; exact hR⟩ hmu, fun z => ?_⟩
    refine t_take hc (by omega) hQ hQo (fun p hq s10 hf => ?_) (fun q' hq s10 hq' hf => ?_)
    · have hR2 := (RES_l hlt z hq).symm.trans hR
      have hpb : p ≤ 120 := by
        -- a place of the text
        obtain ⟨st, n, wp, a, d, l, D⟩ := q
        have w1 : wp ≤ pos := hQo.1.2.2
        unfold qstep at hq
        dsimp only at hq
        split at hq
        · split at hq
          · cases hq
          · split at hq
            · cases hq
            · split at hq <;> cases hq
              omega
        · split at hq
          · split at hq <;> cases hq
            omega
          · split at hq
            · split at hq
              · split at hq <;> cases hq
                omega
              · cases hq; omega
            · split at hq
              · split at hq <;> cases hq
                omega
              · split at hq
                · cases hq
                · split at hq <;> cases hq
                  omega
      have : ¬ nI p = -1 := nI_ne_m1' (by omega)
      exact ⟨fun w => absurd w this, fun _ => h0 p hpb hR2.symm s10 (hF.trans hf)⟩
    · exact ⟨fun _ => ih _ _ ⟨pos + 1, q', nI_1 pos, hlt, hq', qstep_ok hQo hq, hF.trans hf, by rw [← RES_r hlt z hq]; exact hR⟩ hmu, fun w => absurd rfl w⟩
