/-! the model's pairs -/
def KeepR (σ σ' : ft_St) : Prop := (∀ j, j ≠ 12 → j ≠ 23 → j ≠ 24 → σ'.1 0 j = σ.1 0 j) ∧ ∀ a, (a ≤ 6 ∨ a = 15) → σ'.2.1 a = σ.2.1 a
theorem KeepR.refl (σ : ft_St) : KeepR σ σ := ⟨fun _ _ _ _ => rfl, fun _ _ => rfl⟩
theorem KeepR.trans {σ σ' σ'' : ft_St} (h : KeepR σ σ') (g : KeepR σ' σ'') : KeepR σ σ'' := ⟨fun j a b c => (g.1 j a b c).trans (h.1 j a b c), fun a q => (g.2 a q).trans (h.2 a q)⟩
theorem KeepR.sA (σ : ft_St) {k : Nat} (f : Nat → Int32) (h : 6 < k ∧ k ≠ 15) : KeepR σ (ft_sA σ k f) := ⟨fun _ _ _ _ => rfl, fun a q => sA_n σ f (by omega)⟩
theorem KeepR.sL (σ : ft_St) (k : Nat) (f : Nat → Int64) : KeepR σ (ft_sL σ k f) := ⟨fun _ _ _ _ => rfl, fun a q => rfl⟩
theorem KeepR.sF (σ : ft_St) {j : Nat} (v : Int32) (h : j = 12 ∨ j = 23 ∨ j = 24) : KeepR σ (ft_sF σ 0 j v) := ⟨fun i a b c => by rw [sF_1, if_neg (by omega)], fun a q => rfl⟩
theorem RepRM.keep {σ σ' : ft_St} {M : MM} (h : RepRM σ M) (k : KeepR σ σ') : RepRM σ' M := by
  unfold RepRM
  rw [k.1 1 (by decide) (by decide) (by decide), k.1 5 (by decide) (by decide) (by decide), k.1 6 (by decide) (by decide) (by decide), k.2 2 (by omega), k.2 3 (by omega), k.2 4 (by omega)]
  exact h
def c01 (f : Nat → Int32) : Prop := ∀ c, c < 200 → f c = 0 ∨ f c = 1
theorem r_markBehind {m t : Nat} {b : Bool} {Φ : Int32 → Prop} (hm : m < 20) (ht : t < 10) (h : Φ (nI (if 10 ≤ m ∨ b = true then t + 10 else t))) : w_X10_markBehind (nI m) (nI t) (b01 b) Φ := by
  unfold w_X10_markBehind
  have le10 : (10 : Int32) ≤ nI m ↔ 10 ≤ m := nI_leI (a := 10) (by decide) (by omega)
  rw [le10]
  have yes : 10 ≤ m ∨ b = true → Φ (10 + nI t) := fun y => by
    rw [if_pos y] at h
    rw [show (10 : Int32) + nI t = nI (10 + t) from nI_add 10 t, Nat.add_comm 10 t]; exact h
  intro J hJ
  refine ⟨fun z => hJ (yes (Or.inl z)), fun z => ⟨fun z2 => ?_, fun z2 => hJ (yes (Or.inr ?_))⟩⟩
  · rw [if_neg (by rintro (a | a); exact z a; rw [(b01_z b).mp z2] at a; cases a)] at h
    rw [show (0 : Int32) + nI t = nI (0 + t) from nI_add 0 t, Nat.zero_add]; exact h
  · cases b
    · exact absurd rfl z2
    · rfl
theorem r_comesPair {σ : ft_St} {m q : Nat} {Φ : ft_St → Prop} (hm : m < 20) (hq : q < 10) (h : Φ (ft_sA σ 9 (upd (σ.2.1 9) (10 * m + q) 1))) : w_X10_comesPair (nI m) (nI q) σ Φ := by
  unfold w_X10_comesPair
  have e : (10 : Int32) * nI m + nI q = nI (10 * m + q) := by rw [show (10 : Int32) = nI 10 from rfl, pk_mul, nI_add]
  rw [e, nI_clamp (show 10 * m + q < 2 ^ 31 by omega)]
  refine ⟨vp_in_nI (by omega) (by decide), fun s1 h1 => ?_⟩
  rw [h1]; exact h
/-- what one way adds to a pair -/
def Cw (M : MM) (sn : Int32) (m q v c : Nat) : Prop := ((m = mF M v ∨ m = mF M v + 10) ∧ ((bt sn (mD M v) = false ∧ c = 10 * mkB M v m + q) ∨ (bt sn (mD M v) = true ∧ bt (mX M) (mD M v) = false ∧ ∃ u, u < mN M ∧ mD M u = mD M v ∧ mF M u = q ∧ c = 10 * mkB M v m + mT M u))) ∨ (bt sn (mD M v) = false ∧ bt (mX M) (mD M v) = false ∧ mF M v = q ∧ c = 10 * m + mT M v)
theorem PE_Cw {M : MM} {sn : Int32} {m q c : Nat} (hq : q < 10) : PE M sn (10 * m + q) c ↔ ∃ v, v < mN M ∧ Cw M sn m q v c := by
  have e1 : (10 * m + q) / 10 = m := by omega
  have e2 : (10 * m + q) % 10 = q := by omega
  constructor
  · rintro (⟨w, hw, h1, h⟩ | ⟨w, hw, h1, h2, h3, h⟩)
    · rw [e1] at h1 h
      rw [e2] at h
      exact ⟨w, hw, Or.inl ⟨h1, h⟩⟩
    · rw [e2] at h3
      rw [e1] at h
      exact ⟨w, hw, Or.inr ⟨h1, h2, h3, h⟩⟩
  · rintro ⟨w, hw, ⟨h1, h⟩ | ⟨h1, h2, h3, h⟩⟩
    · refine Or.inl ⟨w, hw, ?_, ?_⟩
      · rw [e1]; exact h1
      · rw [e1, e2]; exact h
    · refine Or.inr ⟨w, hw, h1, h2, ?_, ?_⟩
      · rw [e2]; exact h3
      · rw [e1]; exact h
theorem c01_upd {f : Nat → Int32} {c : Nat} (h : c01 f) : c01 (upd f c 1) := fun a ha => by
  by_cases e : a = c
  · rw [e, upd_s]; exact Or.inr rfl
  · rw [upd_n e]; exact h a ha
theorem upd1 {f : Nat → Int32} {c a : Nat} : upd f c 1 a = 1 ↔ f a = 1 ∨ a = c := by
  by_cases e : a = c
  · rw [e, upd_s]; simp
  · rw [upd_n e]; simp [e]
theorem r_goesFrom {σ : ft_St} {m q : Nat} {M : MM} {Φ : ft_St → Prop} (hM : RepRM σ M) (hok : MOk M) (hm : m < 20) (hq : q < 10) (h01 : c01 (σ.2.1 9)) (h : ∀ f, c01 f → (∀ c, c < 200 → (f c = 1 ↔ σ.2.1 9 c = 1 ∨ PE M (mS M) (10 * m + q) c)) → Φ (ft_sA σ 9 f)) : w_X10_goesFrom (nI m) (nI q) σ Φ := by
  have hn := hok.1
  unfold w_X10_goesFrom
  have em : nI m - nI m / 10 * 10 = nI (m % 10) := pk_rem (d := 10) (by omega) (by decide) (by decide)
  rw [em]
  refine LP2.rule (fun x1 s2 => ∃ (w : Nat) (f : Nat → Int32), x1 = nI w ∧ w ≤ mN M ∧ s2 = ft_sA σ 9 f ∧ c01 f ∧ ∀ c, c < 200 → (f c = 1 ↔ σ.2.1 9 c = 1 ∨ ∃ v, v < w ∧ Cw M (mS M) m q v c)) (fun x1 _ => 24 - x1.toNatClampNeg) ?_ ⟨0, σ.2.1 9, rfl, Nat.zero_le _, (sA_self σ 9).symm, h01, fun c _ => ⟨fun y => Or.inl y, ?_⟩⟩
  · rintro X3 x1 s2 ⟨w, f, rfl, hw, hs2, hf01, hf⟩ ih
    have hM2 : RepRM s2 M := by rw [hs2]; exact hM.keep (KeepR.sA σ f ⟨by decide, by decide⟩)
    have hc : (nI w).toNatClampNeg = w := nI_clamp (by omega)
    rw [hM2.1]
    have hle : nI (mN M) ≤ nI w ↔ mN M ≤ w := nI_leI (by omega) (by omega)
    refine ⟨fun z => ?_, fun z => ?_⟩
    · have e : w = mN M := by have := hle.mp z; omega
      subst e
      rw [hs2]
      refine h f hf01 (fun c hc => ?_)
      rw [hf c hc, PE_Cw hq]
    · have hlt : w < mN M := Nat.lt_of_not_le (fun y => z (hle.mpr y))
      obtain ⟨hF, hD, hT⟩ := hM2.2.2.2 w hlt
      obtain ⟨bF, bD, bT⟩ := hok.2.1 w hlt
      have hin : vp_in (nI w) 24 := vp_in_nI (by omega) (by decide)
      have hmu : 24 - (nI w + 1).toNatClampNeg < 24 - (nI w).toNatClampNeg := by
        rw [nI_1 w, nI_clamp (by omega), hc]; omega
      have tr : ∀ {b : Bool}, ¬ b01 b = 0 → b = true := fun {b} z => by
        cases b
        · exact absurd rfl z
        · rfl
      have hmk := mkB_lt hok (i := m) hlt
      rw [hc, hF, hD, hT, nI_eq (show mF M w < 2 ^ 31 by omega) (show m % 10 < 2 ^ 31 by omega)]
      refine ⟨hin, ?_⟩
      -- the second part: the second one alone
      have part2 : ∀ (g : Nat → Int32) (s4 : ft_St), s4 = ft_sA σ 9 g → c01 g → (∀ c, c < 200 → (g c = 1 ↔ f c = 1 ∨ ((m = mF M w ∨ m = mF M w + 10) ∧ ((bt (mS M) (mD M w) = false ∧ c = 10 * mkB M w m + q) ∨ (bt (mS M) (mD M w) = true ∧ bt (mX M) (mD M w) = false ∧ ∃ u, u < mN M ∧ mD M u = mD M w ∧ mF M u = q ∧ c = 10 * mkB M w m + mT M u))))) → (vp_in (nI w) 24 ∧ (¬ (s4.2.1 2 w) = nI q → X3 (nI w + 1) s4) ∧ ((s4.2.1 2 w) = nI q → vp_in (nI w) 24 ∧ w_X10_isSeen (s4.2.1 3 w) s4 (fun (r6 : Int32) => (¬ r6 = 0 → X3 (nI w + 1) s4) ∧ (r6 = 0 → vp_in (nI w) 24 ∧ w_X10_isFault (s4.2.1 3 w) s4 (fun (r7 : Int32) => (¬ r7 = 0 → X3 (nI w + 1) s4) ∧ (r7 = 0 → vp_in (nI w) 24 ∧ w_X10_comesPair (nI m) (s4.2.1 4 w) s4 (fun (s8 : ft_St) => X3 (nI w + 1) s8))))))) := by
        intro g s4 hs4 hg01 hg
        have hM4 : RepRM s4 M := by rw [hs4]; exact hM.keep (KeepR.sA σ g ⟨by decide, by decide⟩)
        obtain ⟨hF4, hD4, hT4⟩ := hM4.2.2.2 w hlt
        rw [hF4, hD4, hT4, nI_eq (show mF M w < 2 ^ 31 by omega) (show q < 2 ^ 31 by omega)]
        have stay : ¬ (bt (mS M) (mD M w) = false ∧ bt (mX M) (mD M w) = false ∧ mF M w = q) → X3 (nI w + 1) s4 := by
          intro hno
          refine ih _ _ ⟨w + 1, g, nI_1 w, hlt, hs4, hg01, fun c hc => ?_⟩ hmu
          rw [hg c hc, hf c hc]
          constructor
          · rintro ((y | ⟨v, hv, y⟩) | y)
            · exact Or.inl y
            · exact Or.inr ⟨v, by omega, y⟩
            · exact Or.inr ⟨w, by omega, Or.inl y⟩
          · rintro (y | ⟨v, hv, y⟩)
            · exact Or.inl (Or.inl y)
            · by_cases e : v = w
              · subst e
                rcases y with y | ⟨y1, y2, y3, -⟩
                · exact Or.inr y
                · exact absurd ⟨y1, y2, y3⟩ hno
              · exact Or.inl (Or.inr ⟨v, by omega, y⟩)
        refine ⟨hin, fun y => stay (fun n => y n.2.2), fun y => ⟨hin, r_isSeen (by omega) ?_⟩⟩
        rw [hM4.2.1]
        refine ⟨fun y2 => stay (fun n => by rw [tr y2] at n; cases n.1), fun y2 => ⟨hin, r_isFault (by omega) ?_⟩⟩
        rw [hM4.2.2.1]
        refine ⟨fun y3 => stay (fun n => by rw [tr y3] at n; cases n.2.1), fun y3 => ⟨hin, r_comesPair hm bT ?_⟩⟩
        have n1 := (b01_z _).mp y2
        have n2 := (b01_z _).mp y3
        have e9 : s4.2.1 9 = g := by rw [hs4, sA_s]
        rw [e9]
        refine ih _ _ ⟨w + 1, _, nI_1 w, hlt, by rw [hs4, sA_sA], c01_upd hg01, fun c hc => ?_⟩ hmu
        rw [upd1, hg c hc, hf c hc]
        constructor
        · rintro (((yy | ⟨v, hv, yy⟩) | yy) | yy)
          · exact Or.inl yy
          · exact Or.inr ⟨v, by omega, yy⟩
          · exact Or.inr ⟨w, by omega, Or.inl yy⟩
          · exact Or.inr ⟨w, by omega, Or.inr ⟨n1, n2, y, yy⟩⟩
        · rintro (yy | ⟨v, hv, yy⟩)
          · exact Or.inl (Or.inl (Or.inl yy))
          · by_cases e : v = w
            · rw [e] at yy
              rcases yy with y5 | ⟨-, -, -, y4⟩
              · exact Or.inl (Or.inr y5)
              · exact Or.inr y4
            · exact Or.inl (Or.inl (Or.inr ⟨v, by omega, yy⟩))
      intro J5 hJ5
      refine ⟨fun y => hJ5 _ (part2 f s2 hs2 hf01 (fun c hc => ?_)), fun y => ⟨hin, hin, r_isFault (by omega) ?_⟩⟩
      · constructor
        · intro y2; exact Or.inl y2
        · rintro (y2 | ⟨y2, -⟩)
          · exact y2
          · exact absurd (show mF M w = m % 10 by omega) y
      · rw [hM2.2.2.1]
        have hmw : m = mF M w ∨ m = mF M w + 10 := by omega
        refine r_markBehind hm bT ⟨hin, r_isSeen (by omega) ?_⟩
        rw [hM2.2.1]
        have emk : (if 10 ≤ m ∨ bt (mX M) (mD M w) = true then mT M w + 10 else mT M w) = mkB M w m := rfl
        rw [emk]
        refine ⟨fun y2 => ?_, fun y2 => r_comesPair hmk hq ?_⟩
        · have n1 := tr y2
          refine LP2.rule (fun x s => ∃ (u : Nat) (g : Nat → Int32), x = nI u ∧ u ≤ mN M ∧ s = ft_sA σ 9 g ∧ c01 g ∧ ∀ c, c < 200 → (g c = 1 ↔ f c = 1 ∨ (bt (mX M) (mD M w) = false ∧ ∃ t, t < u ∧ mD M t = mD M w ∧ mF M t = q ∧ c = 10 * mkB M w m + mT M t))) (fun x _ => 24 - x.toNatClampNeg) ?_ ⟨0, f, rfl, Nat.zero_le _, hs2, hf01, fun c hc => ⟨fun y => Or.inl y, ?_⟩⟩
          · rintro X14 x12 s13 ⟨u, g, rfl, hu, hs13, hg01, hg⟩ ih2
            have hM13 : RepRM s13 M := by rw [hs13]; exact hM.keep (KeepR.sA σ g ⟨by decide, by decide⟩)
            have hcu : (nI u).toNatClampNeg = u := nI_clamp (by omega)
            rw [hM13.1]
            have hleu : nI (mN M) ≤ nI u ↔ mN M ≤ u := nI_leI (by omega) (by omega)
            have hmu2 : u < mN M → 24 - (nI u + 1).toNatClampNeg < 24 - (nI u).toNatClampNeg := by
              intro _
              rw [nI_1 u, nI_clamp (by omega), hcu]; omega
            refine ⟨fun y3 => hJ5 _ (part2 g s13 hs13 hg01 (fun c hc => ?_)), fun y3 => ?_⟩
            · have e : u = mN M := by have := hleu.mp y3; omega
              subst e
              rw [hg c hc]
              constructor
              · rintro (y4 | ⟨n2, y4⟩)
                · exact Or.inl y4
                · exact Or.inr ⟨hmw, Or.inr ⟨n1, n2, y4⟩⟩
              · rintro (y4 | ⟨-, ⟨n3, -⟩ | ⟨-, n2, y4⟩⟩)
                · exact Or.inl y4
                · rw [n1] at n3; cases n3
                · exact Or.inr ⟨n2, y4⟩
            · have hltu : u < mN M := Nat.lt_of_not_le (fun y => y3 (hleu.mpr y))
              obtain ⟨hFu, hDu, hTu⟩ := hM13.2.2.2 u hltu
              have hDw := (hM13.2.2.2 w hlt).2.1
              obtain ⟨bFu, bDu, bTu⟩ := hok.2.1 u hltu
              have hinu : vp_in (nI u) 24 := vp_in_nI (by omega) (by decide)
              rw [hcu, hFu, hDu, hTu, hDw, nI_eq (show mF M u < 2 ^ 31 by omega) (show q < 2 ^ 31 by omega), nI_eq (show mD M u < 2 ^ 31 by omega) (show mD M w < 2 ^ 31 by omega)]
              have stay : ¬ (bt (mX M) (mD M w) = false ∧ mD M u = mD M w ∧ mF M u = q) → X14 (nI u + 1) s13 := by
                intro hno
                refine ih2 _ _ ⟨u + 1, g, nI_1 u, hltu, hs13, hg01, fun c hc => ?_⟩ (hmu2 hltu)
                rw [hg c hc]
                constructor
                · rintro (y4 | ⟨n2, t, ht, y4⟩)
                  · exact Or.inl y4
                  · exact Or.inr ⟨n2, t, by omega, y4⟩
                · rintro (y4 | ⟨n2, t, ht, y4, y5, y6⟩)
                  · exact Or.inl y4
                  · by_cases e : t = u
                    · subst e; exact absurd ⟨n2, y4, y5⟩ hno
                    · exact Or.inr ⟨n2, t, by omega, y4, y5, y6⟩
              refine ⟨hinu, fun y4 => stay (fun n => y4 n.2.2), fun y4 => ⟨hinu, hin, fun y5 => stay (fun n => y5 n.2.1), fun y5 => ⟨hinu, r_isFault (by omega) ?_⟩⟩⟩
              rw [hM13.2.2.1, y5]
              refine ⟨fun y6 => stay (fun n => by rw [tr y6] at n; cases n.1), fun y6 => ⟨hinu, r_comesPair hmk bTu ?_⟩⟩
              have n2 := (b01_z _).mp y6
              have e9 : s13.2.1 9 = g := by rw [hs13, sA_s]
              rw [e9]
              refine ih2 _ _ ⟨u + 1, _, nI_1 u, hltu, by rw [hs13, sA_sA], c01_upd hg01, fun c hc => ?_⟩ (hmu2 hltu)
              rw [upd1, hg c hc]
              constructor
              · rintro ((y7 | ⟨n3, t, ht, y7⟩) | y7)
                · exact Or.inl y7
                · exact Or.inr ⟨n3, t, by omega, y7⟩
                · exact Or.inr ⟨n2, u, by omega, y5, y4, y7⟩
              · rintro (y7 | ⟨n3, t, ht, y7, y8, y9⟩)
                · exact Or.inl (Or.inl y7)
                · by_cases e : t = u
                  · subst e; exact Or.inr y9
                  · exact Or.inl (Or.inr ⟨n3, t, by omega, y7, y8, y9⟩)
          · rintro (y3 | ⟨-, t, ht, -⟩)
            · exact y3
            · omega
        · have n1 := (b01_z _).mp y2
          have e9 : s2.2.1 9 = f := by rw [hs2, sA_s]
          rw [e9]
          refine hJ5 _ (part2 _ _ (by rw [hs2, sA_sA]) (c01_upd hf01) (fun c hc => ?_))
          rw [upd1]
          constructor
          · rintro (y3 | y3)
            · exact Or.inl y3
            · exact Or.inr ⟨hmw, Or.inl ⟨n1, y3⟩⟩
          · rintro (y3 | ⟨-, ⟨-, y3⟩ | ⟨n2, -⟩⟩)
            · exact Or.inl y3
            · exact Or.inr y3
            · rw [n1] at n2; cases n2
  · rintro (y | ⟨v, hv, -⟩)
    · exact y
    · omega
theorem r_count {σ : ft_St} {a : Nat} {Φ : Int32 → Prop} (ha : a ≤ 200) (h01 : c01 (σ.2.1 9)) (h : Φ (nI (cnt (fun e => σ.2.1 9 (a + e) = 1) (200 - a)))) : LP2 (fun (X3 : Int32 → Int32 → Prop) (x1 : Int32) (x2 : Int32) => (200 ≤ x2 → Φ x1) ∧ (¬ 200 ≤ x2 → vp_in x2 200 ∧ ∀ (x4 : Int32), x4 = x1 + (σ.2.1 9 (Int32.toNatClampNeg x2)) → X3 x4 (x2 + 1))) 0 (nI a) := by
  refine LP2.rule (fun x1 x2 => ∃ i, x2 = nI (a + i) ∧ a + i ≤ 200 ∧ x1 = nI (cnt (fun e => σ.2.1 9 (a + e) = 1) i)) (fun _ x2 => 200 - x2.toNatClampNeg) ?_ ⟨0, rfl, ha, rfl⟩
  rintro X x1 x2 ⟨i, rfl, hi, rfl⟩ ih
  have hc : (nI (a + i)).toNatClampNeg = a + i := nI_clamp (by omega)
  have hle : (200 : Int32) ≤ nI (a + i) ↔ 200 ≤ a + i := nI_leI (a := 200) (by decide) (by omega)
  refine ⟨fun q => ?_, fun q => ?_⟩
  · have e : 200 - a = i := by have := hle.mp q; omega
    rw [e] at h; exact h
  · have hlt : a + i < 200 := Nat.lt_of_not_le (fun z => q (hle.mpr z))
    rw [hc]
    refine ⟨vp_in_nI hlt (by decide), ?_⟩
    rintro _ rfl
    refine ih _ _ ⟨i + 1, by rw [nI_1, Nat.add_assoc], by omega, ?_⟩ (by rw [nI_1, nI_clamp (by omega), hc]; omega)
    rw [cnt_succ]
    rcases h01 (a + i) hlt with e | e
    · rw [if_neg (by rw [pd_t, e]; decide), e]; exact nI_add _ 0
    · rw [if_pos (pd_t.mpr e), e]; exact nI_add _ 1
theorem r_pairMany {σ : ft_St} {Φ : Int32 → Prop} (h01 : c01 (σ.2.1 9)) (h : Φ (nI (cnt (fun e => σ.2.1 9 e = 1) 200))) : w_X10_pairMany σ Φ := by
  unfold w_X10_pairMany
  refine r_count (a := 0) (by decide) h01 ?_
  have e : cnt (fun e => σ.2.1 9 (0 + e) = 1) (200 - 0) = cnt (fun e => σ.2.1 9 e = 1) 200 := cnt_congr (fun c _ => by rw [Nat.zero_add])
  rw [e]; exact h
theorem r_doubtMany {σ : ft_St} {Φ : Int32 → Prop} (h01 : c01 (σ.2.1 9)) (h : Φ (nI (cnt (fun e => σ.2.1 9 (100 + e) = 1) 100))) : w_X10_doubtMany σ Φ := r_count (a := 100) (by decide) h01 h
theorem r_findsPairs {σ : ft_St} {M : MM} {Φ : ft_St → Prop} (hM : RepRM σ M) (hok : MOk M) (h : ∀ f, c01 f → (∀ c, c < 200 → (f c = 1 ↔ Pc M (mS M) c)) → Φ (ft_sA σ 9 f)) : w_X10_findsPairs σ Φ := by
  unfold w_X10_findsPairs
  refine LP2.rule (fun x s => ∃ (i : Nat) (g : Nat → Int32), x = nI i ∧ i ≤ 200 ∧ s = ft_sA σ 9 g ∧ ∀ a, a < i → g a = 0) (fun x _ => 200 - x.toNatClampNeg) ?_ ⟨0, σ.2.1 9, rfl, by decide, (sA_self σ 9).symm, fun j hj => absurd hj (Nat.not_lt_zero _)⟩
  rintro X x s ⟨i, g, rfl, hi, hs, hg⟩ ih
  have hc : (nI i).toNatClampNeg = i := nI_clamp (by omega)
  have hle : (200 : Int32) ≤ nI i ↔ 200 ≤ i := nI_leI (a := 200) (by decide) (by omega)
  have e9 : s.2.1 9 = g := by rw [hs, sA_s]
  refine ⟨fun q => ?_, fun q => ?_⟩
  · have e : i = 200 := by have := hle.mp q; omega
    subst e
    refine r_comesPair (m := 0) (q := 0) (by decide) (by decide) ?_
    rw [e9, hs, sA_sA]
    obtain ⟨f0, ef0⟩ : ∃ f0, f0 = upd g (10 * 0 + 0) 1 := ⟨_, rfl⟩
    rw [← ef0]
    have f001 : c01 f0 := by rw [ef0]; exact c01_upd (fun c hc => Or.inl (hg c hc))
    have f0v : ∀ c, c < 200 → (f0 c = 1 ↔ c = 0) := by
      intro c hc
      rw [ef0, upd1, hg c hc]
      simp
    refine LP2.rule (fun x5 s6 => ∃ (f : Nat → Int32) (pv : Nat → Prop), s6 = ft_sA σ 9 f ∧ c01 f ∧ f 0 = 1 ∧ (∀ c, c < 200 → f c = 1 → Pc M (mS M) c) ∧ x5 = nI (cnt pv 200) ∧ (∀ c, c < 200 → pv c → f c = 1) ∧ (∀ c c', c < 200 → pv c → PE M (mS M) c c' → f c' = 1)) (fun x5 s6 => 2 * (200 - cnt (fun e => s6.2.1 9 e = 1) 200) + (if x5 = nI (cnt (fun e => s6.2.1 9 e = 1) 200) then 0 else 1)) ?_ ⟨f0, fun _ => False, rfl, f001, (f0v 0 (by decide)).mpr rfl, fun c hc y => by rw [(f0v c hc).mp y]; exact R1.refl 0, ?_, fun c _ y => absurd y id, fun c c' _ y => absurd y id⟩
    · rintro X7 x5 s6 ⟨f, pv, hs6, hf01, hf0, hsd, rfl, hpv, hst⟩ ih2
      have e69 : s6.2.1 9 = f := by rw [hs6, sA_s]
      refine r_pairMany (by rw [e69]; exact hf01) ?_
      rw [e69]
      have lp := cnt_le pv 200
      have lf := cnt_le (fun e => f e = 1) 200
      rw [nI_eq (show cnt pv 200 < 2 ^ 31 by omega) (show cnt (fun e => f e = 1) 200 < 2 ^ 31 by omega)]
      refine ⟨fun y => ?_, fun y => r_pairMany (by rw [e69]; exact hf01) ?_⟩
      · rw [hs6]
        refine h f hf01 (fun c hc => ⟨hsd c hc, fun hcc => ?_⟩)
        have bk := cnt_eq hpv y
        exact (hcc (fun c => c < 200 ∧ f c = 1) (fun a e => by rw [e]; exact ⟨by decide, hf0⟩) (fun a b z e => ⟨PE.lt hok z.1 e, hst a b z.1 (bk a z.1 z.2) e⟩)).2
      · rw [e69]
        refine LP2.rule (fun x s => ∃ (i : Nat) (g : Nat → Int32), x = nI i ∧ i ≤ 200 ∧ s = ft_sA σ 9 g ∧ c01 g ∧ (∀ c, c < 200 → f c = 1 → g c = 1) ∧ (∀ c, c < 200 → g c = 1 → Pc M (mS M) c) ∧ (∀ c c', c < i → f c = 1 → PE M (mS M) c c' → g c' = 1)) (fun x _ => 200 - x.toNatClampNeg) ?_ ⟨0, f, rfl, by decide, hs6, hf01, fun _ _ z => z, hsd, fun c c' hc => absurd hc (Nat.not_lt_zero _)⟩
        rintro X12 x10 s11 ⟨i, g, rfl, hi, hs11, hg01, hsub, hsdg, hstg⟩ ih3
        have hci : (nI i).toNatClampNeg = i := nI_clamp (by omega)
        have hlei : (200 : Int32) ≤ nI i ↔ 200 ≤ i := nI_leI (a := 200) (by decide) (by omega)
        have e119 : s11.2.1 9 = g := by rw [hs11, sA_s]
        refine ⟨fun z => ?_, fun z => ?_⟩
        · have e : i = 200 := by have := hlei.mp z; omega
          subst e
          refine ih2 _ _ ⟨g, fun c => f c = 1, hs11, hg01, hsub 0 (by decide) hf0, hsdg, rfl, hsub, fun c c' hc => hstg c c' hc⟩ ?_
          have A1 : (if nI (cnt pv 200) = nI (cnt (fun e => f e = 1) 200) then 0 else 1) = 1 := if_neg (by rw [nI_eq (show cnt pv 200 < 2 ^ 31 by omega) (show cnt (fun e => f e = 1) 200 < 2 ^ 31 by omega)]; exact y)
          rw [e69, e119, A1]
          have lg := cnt_le (fun e => g e = 1) 200
          have hm := cnt_mono (P := fun e => f e = 1) (Q := fun e => g e = 1) (n := 200) hsub
          by_cases e2 : cnt (fun e => f e = 1) 200 = cnt (fun e => g e = 1) 200
          · have A2 : (if nI (cnt (fun e => f e = 1) 200) = nI (cnt (fun e => g e = 1) 200) then 0 else 1) = 0 := if_pos (by rw [e2])
            rw [A2]; omega
          · have A2 : (if nI (cnt (fun e => f e = 1) 200) = nI (cnt (fun e => g e = 1) 200) then 0 else 1) = 1 := if_neg (by rw [nI_eq (show cnt (fun e => f e = 1) 200 < 2 ^ 31 by omega) (show cnt (fun e => g e = 1) 200 < 2 ^ 31 by omega)]; exact e2)
            rw [A2]; omega
        · have hlt : i < 200 := Nat.lt_of_not_le (fun y => z (hlei.mpr y))
          have hmu : 200 - (nI i + 1).toNatClampNeg < 200 - (nI i).toNatClampNeg := by
            rw [nI_1 i, nI_clamp (by omega), hci]; omega
          have e1 : nI i / 10 = nI (i / 10) := pk_div (d := 10) (by omega) (by decide) (by decide)
          have e2 : nI i - nI i / 10 * 10 = nI (i % 10) := pk_rem (d := 10) (by omega) (by decide) (by decide)
          rw [hci, e119, e2, e1]
          refine ⟨vp_in_nI hlt (by decide), fun y2 => ?_, fun y2 => ?_⟩
          · refine ih3 _ _ ⟨i + 1, g, nI_1 i, hlt, hs11, hg01, hsub, hsdg, fun c c' hc y3 y4 => ?_⟩ hmu
            by_cases e : c = i
            · subst e; exact absurd (hsub _ hlt y3) y2
            · exact hstg c c' (by omega) y3 y4
          · have hM11 : RepRM s11 M := by rw [hs11]; exact hM.keep (KeepR.sA σ g ⟨by decide, by decide⟩)
            refine r_goesFrom hM11 hok (by omega) (by omega) (by rw [e119]; exact hg01) (fun g2 hg201 hg2 => ?_)
            rw [e119, show 10 * (i / 10) + i % 10 = i by omega] at hg2
            refine ih3 _ _ ⟨i + 1, g2, nI_1 i, hlt, by rw [hs11, sA_sA], hg201, fun c hc y3 => (hg2 c hc).mpr (Or.inl (hsub c hc y3)), fun c hc y3 => ?_, fun c c' hc y3 y4 => ?_⟩ hmu
            · rcases (hg2 c hc).mp y3 with y4 | y4
              · exact hsdg c hc y4
              · exact (hsdg i hlt y2).step y4
            · have hc200 : c < 200 := by omega
              have hc' := PE.lt hok hc200 y4
              by_cases e : c = i
              · subst e; exact (hg2 c' hc').mpr (Or.inr y4)
              · exact (hg2 c' hc').mpr (Or.inl (hstg c c' (by omega) y3 y4))
    · have z : cnt (fun _ : Nat => False) 200 = 0 := cnt_zero.mpr (fun _ _ y => y)
      rw [z]; rfl
  · have hlt : i < 200 := Nat.lt_of_not_le (fun z => q (hle.mpr z))
    rw [hc, e9]
    refine ⟨vp_in_nI hlt (by decide), fun s14 h14 => ih _ _ ⟨i + 1, upd g i 0, nI_1 i, hlt, by rw [h14, hs, sA_sA], fun a ha => ?_⟩ (by rw [nI_1 i, nI_clamp (by omega), hc]; omega)⟩
    by_cases e : a = i
    · rw [e]; exact upd_s
    · rw [upd_n e]; exact hg a (by omega)
