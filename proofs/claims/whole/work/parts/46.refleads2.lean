/-! from a doubtful pair to those behind it, by all ways -/
def Dv (M : MM) (sn : Int32) (p q v e : Nat) (mk : Bool) : Prop := (mk = true ∧ mF M v = p ∧ ((bt sn (mD M v) = false ∧ e = 10 * mT M v + q) ∨ (bt sn (mD M v) = true ∧ bt (mX M) (mD M v) = false ∧ ∃ u, u < mN M ∧ mD M u = mD M v ∧ mF M u = q ∧ e = 10 * mT M v + mT M u))) ∨ (mk = false ∧ bt sn (mD M v) = false ∧ bt (mX M) (mD M v) = false ∧ mF M v = q ∧ e = 10 * p + mT M v)
theorem M1_Dv {M : MM} {sn : Int32} {p q e : Nat} (hq : q < 10) : M1 M sn (10 * p + q) e ↔ ∃ v, v < mN M ∧ Dv M sn p q v e true := by
  have e1 : (10 * p + q) / 10 = p := by omega
  have e2 : (10 * p + q) % 10 = q := by omega
  unfold M1
  rw [e1, e2]
  constructor
  · rintro ⟨w, hw, h1, h⟩; exact ⟨w, hw, Or.inl ⟨rfl, h1, h⟩⟩
  · rintro ⟨w, hw, ⟨-, h1, h⟩ | ⟨h, -⟩⟩
    · exact ⟨w, hw, h1, h⟩
    · cases h
theorem A0_Dv {M : MM} {sn : Int32} {p q e : Nat} (hq : q < 10) : A0 M sn (10 * p + q) e ↔ ∃ v, v < mN M ∧ Dv M sn p q v e false := by
  have e1 : (10 * p + q) / 10 = p := by omega
  have e2 : (10 * p + q) % 10 = q := by omega
  unfold A0 P0
  rw [e1, e2]
  constructor
  · rintro ⟨w, hw, h1, h2, h3, h⟩; exact ⟨w, hw, Or.inr ⟨rfl, h1, h2, h3, h⟩⟩
  · rintro ⟨w, hw, ⟨h, -⟩ | ⟨-, h1, h2, h3, h⟩⟩
    · cases h
    · exact ⟨w, hw, h1, h2, h3, h⟩
theorem r_leadsFrom {σ : ft_St} {p q : Nat} {M : MM} {Φ : ft_St → Prop} (hM : RepRM σ M) (hok : MOk M) (hp : p < 10) (hq : q < 10) (h : ∀ s, s.1 = σ.1 → s.2.1 = σ.2.1 → (∀ x e, x < 100 → e < 100 → (ED s x e ↔ ED σ x e ∨ (x = 10 * p + q ∧ DE M (mS M) x e))) → (∀ x e, x < 100 → e < 100 → (EM s x e ↔ EM σ x e ∨ (x = 10 * p + q ∧ M1 M (mS M) x e))) → Φ s) : w_X10_leadsFrom (nI p) (nI q) σ Φ := by
  have hn := hok.1
  unfold w_X10_leadsFrom
  have eo : (10 : Int32) * nI p + nI q = nI (10 * p + q) := by rw [show (10 : Int32) = nI 10 from rfl, pk_mul, nI_add]
  rw [eo]
  have same : ∀ s : ft_St, s.1 = σ.1 → s.2.1 = σ.2.1 → RepRM s M := fun s h1 h2 => by unfold RepRM; rw [h1, h2]; exact hM
  refine LP2.rule (fun x1 s2 => ∃ w : Nat, x1 = nI w ∧ w ≤ mN M ∧ s2.1 = σ.1 ∧ s2.2.1 = σ.2.1 ∧ (∀ x e, x < 100 → e < 100 → (ED s2 x e ↔ ED σ x e ∨ (x = 10 * p + q ∧ ∃ v mk, v < w ∧ Dv M (mS M) p q v e mk))) ∧ (∀ x e, x < 100 → e < 100 → (EM s2 x e ↔ EM σ x e ∨ (x = 10 * p + q ∧ ∃ v, v < w ∧ Dv M (mS M) p q v e true)))) (fun x1 _ => 24 - x1.toNatClampNeg) ?_ ⟨0, rfl, Nat.zero_le _, rfl, rfl, fun x e _ _ => ⟨fun y => Or.inl y, ?_⟩, fun x e _ _ => ⟨fun y => Or.inl y, ?_⟩⟩
  · rintro X3 x1 s2 ⟨w, rfl, hw, q1, q2, hED, hEM⟩ ih
    have hM2 := same s2 q1 q2
    have hc : (nI w).toNatClampNeg = w := nI_clamp (by omega)
    rw [hM2.1]
    have hle : nI (mN M) ≤ nI w ↔ mN M ≤ w := nI_leI (by omega) (by omega)
    refine ⟨fun z => ?_, fun z => ?_⟩
    · have e : w = mN M := by have := hle.mp z; omega
      subst e
      refine h s2 q1 q2 (fun x e hx he => ?_) (fun x e hx he => ?_)
      · rw [hED x e hx he]
        constructor
        · rintro (y | ⟨y, v, mk, hv, d⟩)
          · exact Or.inl y
          · refine Or.inr ⟨y, ?_⟩
            rw [y]
            cases mk
            · exact Or.inr ((A0_Dv hq).mpr ⟨v, hv, d⟩)
            · exact Or.inl ((M1_Dv hq).mpr ⟨v, hv, d⟩)
        · rintro (y | ⟨y, d⟩)
          · exact Or.inl y
          · rw [y] at d
            rcases d with d | d
            · obtain ⟨v, hv, d⟩ := (M1_Dv hq).mp d
              exact Or.inr ⟨y, v, true, hv, d⟩
            · obtain ⟨v, hv, d⟩ := (A0_Dv hq).mp d
              exact Or.inr ⟨y, v, false, hv, d⟩
      · rw [hEM x e hx he]
        constructor
        · rintro (y | ⟨y, d⟩)
          · exact Or.inl y
          · exact Or.inr ⟨y, by rw [y]; exact (M1_Dv hq).mpr d⟩
        · rintro (y | ⟨y, d⟩)
          · exact Or.inl y
          · rw [y] at d; exact Or.inr ⟨y, (M1_Dv hq).mp d⟩
    · have hlt : w < mN M := Nat.lt_of_not_le (fun y => z (hle.mpr y))
      obtain ⟨hF, hD, hT⟩ := hM2.2.2.2 w hlt
      obtain ⟨bF, bD, bT⟩ := hok.2.1 w hlt
      have hin : vp_in (nI w) 24 := vp_in_nI (by omega) (by decide)
      have hmu : 24 - (nI w + 1).toNatClampNeg < 24 - (nI w).toNatClampNeg := by
        rw [nI_1 w, nI_clamp (by omega), hc]; omega
      have tr : ∀ {b : Bool}, ¬ b01 b = 0 → b = true := fun {b} z => by
        cases b
        · exact absurd rfl z
        · rfl
      have ix : ∀ a b : Nat, (10 : Int32) * nI a + nI b = nI (10 * a + b) := fun a b => by rw [show (10 : Int32) = nI 10 from rfl, pk_mul, nI_add]
      -- part 1 adds K1, part 2 adds K2, part 3 adds K3
      obtain ⟨K1, eK1⟩ : ∃ K1 : Nat → Prop, K1 = fun e => mF M w = p ∧ bt (mS M) (mD M w) = false ∧ e = 10 * mT M w + q := ⟨_, rfl⟩
      obtain ⟨K2, eK2⟩ : ∃ K2 : Nat → Prop, K2 = fun e => bt (mS M) (mD M w) = false ∧ bt (mX M) (mD M w) = false ∧ mF M w = q ∧ e = 10 * p + mT M w := ⟨_, rfl⟩
      obtain ⟨K3, eK3⟩ : ∃ K3 : Nat → Nat → Prop, K3 = fun n e => mF M w = p ∧ bt (mS M) (mD M w) = true ∧ bt (mX M) (mD M w) = false ∧ ∃ u, u < n ∧ mD M u = mD M w ∧ mF M u = q ∧ e = 10 * mT M w + mT M u := ⟨_, rfl⟩
      have dv1 : ∀ e, Dv M (mS M) p q w e true ↔ K1 e ∨ K3 (mN M) e := by
        intro e
        rw [eK1, eK3]
        constructor
        · rintro (⟨-, a, ⟨b, c⟩ | ⟨b, c, d⟩⟩ | ⟨a, -⟩)
          · exact Or.inl ⟨a, b, c⟩
          · exact Or.inr ⟨a, b, c, d⟩
          · cases a
        · rintro (⟨a, b, c⟩ | ⟨a, b, c, d⟩)
          · exact Or.inl ⟨rfl, a, Or.inl ⟨b, c⟩⟩
          · exact Or.inl ⟨rfl, a, Or.inr ⟨b, c, d⟩⟩
      have dv0 : ∀ e, Dv M (mS M) p q w e false ↔ K2 e := by
        intro e
        rw [eK2]
        constructor
        · rintro (⟨a, -⟩ | ⟨-, a⟩)
          · cases a
          · exact a
        · intro a; exact Or.inr ⟨rfl, a⟩
      have finish : ∀ s : ft_St, s.1 = σ.1 → s.2.1 = σ.2.1 → (∀ x e, x < 100 → e < 100 → (ED s x e ↔ ED s2 x e ∨ (x = 10 * p + q ∧ (K1 e ∨ K2 e ∨ K3 (mN M) e)))) → (∀ x e, x < 100 → e < 100 → (EM s x e ↔ EM s2 x e ∨ (x = 10 * p + q ∧ (K1 e ∨ K3 (mN M) e)))) → X3 (nI w + 1) s := by
        intro s h1 h2 h3 h4
        refine ih _ _ ⟨w + 1, nI_1 w, hlt, h1, h2, fun x e hx he => ?_, fun x e hx he => ?_⟩ hmu
        · rw [h3 x e hx he, hED x e hx he]
          constructor
          · rintro ((y | ⟨y, v, mk, hv, d⟩) | ⟨y, d | d | d⟩)
            · exact Or.inl y
            · exact Or.inr ⟨y, v, mk, by omega, d⟩
            · exact Or.inr ⟨y, w, true, by omega, (dv1 e).mpr (Or.inl d)⟩
            · exact Or.inr ⟨y, w, false, by omega, (dv0 e).mpr d⟩
            · exact Or.inr ⟨y, w, true, by omega, (dv1 e).mpr (Or.inr d)⟩
          · rintro (y | ⟨y, v, mk, hv, d⟩)
            · exact Or.inl (Or.inl y)
            · by_cases e2 : v = w
              · rw [e2] at d
                cases mk
                · exact Or.inr ⟨y, Or.inr (Or.inl ((dv0 e).mp d))⟩
                · rcases (dv1 e).mp d with d | d
                  · exact Or.inr ⟨y, Or.inl d⟩
                  · exact Or.inr ⟨y, Or.inr (Or.inr d)⟩
              · exact Or.inl (Or.inr ⟨y, v, mk, by omega, d⟩)
        · rw [h4 x e hx he, hEM x e hx he]
          constructor
          · rintro ((y | ⟨y, v, hv, d⟩) | ⟨y, d⟩)
            · exact Or.inl y
            · exact Or.inr ⟨y, v, by omega, d⟩
            · exact Or.inr ⟨y, w, by omega, (dv1 e).mpr d⟩
          · rintro (y | ⟨y, v, hv, d⟩)
            · exact Or.inl (Or.inl y)
            · by_cases e2 : v = w
              · rw [e2] at d; exact Or.inr ⟨y, (dv1 e).mp d⟩
              · exact Or.inl (Or.inr ⟨y, v, by omega, d⟩)
      have part3 : ∀ s6 : ft_St, s6.1 = σ.1 → s6.2.1 = σ.2.1 → (∀ x e, x < 100 → e < 100 → (ED s6 x e ↔ ED s2 x e ∨ (x = 10 * p + q ∧ (K1 e ∨ K2 e)))) → (∀ x e, x < 100 → e < 100 → (EM s6 x e ↔ EM s2 x e ∨ (x = 10 * p + q ∧ K1 e))) → LP2 (fun (X10 : Int32 → ft_St → Prop) (x8 : Int32) (s9 : ft_St) => ((s9.1 0 1) ≤ x8 → X3 (nI w + 1) s9) ∧ (¬ (s9.1 0 1) ≤ x8 → vp_in (nI w) 24 ∧ (¬ (s9.2.1 2 w) = nI p → X3 (nI w + 1) s9) ∧ ((s9.2.1 2 w) = nI p → vp_in (nI w) 24 ∧ w_X10_isSeen (s9.2.1 3 w) s9 (fun (r11 : Int32) => (r11 = 0 → X3 (nI w + 1) s9) ∧ (¬ r11 = 0 → vp_in (nI w) 24 ∧ w_X10_isFault (s9.2.1 3 w) s9 (fun (r12 : Int32) => (¬ r12 = 0 → X3 (nI w + 1) s9) ∧ (r12 = 0 → vp_in x8 24 ∧ (¬ (s9.2.1 2 (Int32.toNatClampNeg x8)) = nI q → X10 (x8 + 1) s9) ∧ ((s9.2.1 2 (Int32.toNatClampNeg x8)) = nI q → vp_in x8 24 ∧ vp_in (nI w) 24 ∧ (¬ (s9.2.1 3 (Int32.toNatClampNeg x8)) = (s9.2.1 3 w) → X10 (x8 + 1) s9) ∧ ((s9.2.1 3 (Int32.toNatClampNeg x8)) = (s9.2.1 3 w) → vp_in (nI w) 24 ∧ vp_in x8 24 ∧ w_X10_leads (nI (10 * p + q)) ((10 * (s9.2.1 4 w)) + (s9.2.1 4 (Int32.toNatClampNeg x8))) 1 s9 (fun (s13 : ft_St) => X10 (x8 + 1) s13)))))))))) 0 s6 := by
        intro s6 h61 h62 hED6 hEM6
        refine LP2.rule (fun x8 s9 => ∃ u : Nat, x8 = nI u ∧ u ≤ mN M ∧ s9.1 = σ.1 ∧ s9.2.1 = σ.2.1 ∧ (∀ x e, x < 100 → e < 100 → (ED s9 x e ↔ ED s2 x e ∨ (x = 10 * p + q ∧ (K1 e ∨ K2 e ∨ K3 u e)))) ∧ (∀ x e, x < 100 → e < 100 → (EM s9 x e ↔ EM s2 x e ∨ (x = 10 * p + q ∧ (K1 e ∨ K3 u e))))) (fun x8 _ => 24 - x8.toNatClampNeg) ?_ ⟨0, rfl, Nat.zero_le _, h61, h62, fun x e hx he => ?_, fun x e hx he => ?_⟩
        · rintro X10 x8 s9 ⟨u, rfl, hu, h91, h92, hED9, hEM9⟩ ih2
          have hM9 := same s9 h91 h92
          have hcu : (nI u).toNatClampNeg = u := nI_clamp (by omega)
          have hleu : nI (mN M) ≤ nI u ↔ mN M ≤ u := nI_leI (by omega) (by omega)
          obtain ⟨hF9, hD9, hT9⟩ := hM9.2.2.2 w hlt
          rw [hM9.1, hcu, hF9, hD9, hT9]
          have hmu2 : u < mN M → 24 - (nI u + 1).toNatClampNeg < 24 - (nI u).toNatClampNeg := by
            intro _
            rw [nI_1 u, nI_clamp (by omega), hcu]; omega
          have out : (∀ e, K3 u e ↔ K3 (mN M) e) → X3 (nI w + 1) s9 := by
            intro hk
            refine finish s9 h91 h92 (fun x e hx he => ?_) (fun x e hx he => ?_)
            · rw [hED9 x e hx he, hk e]
            · rw [hEM9 x e hx he, hk e]
          have none3 : ¬ (mF M w = p ∧ bt (mS M) (mD M w) = true ∧ bt (mX M) (mD M w) = false) → ∀ e, K3 u e ↔ K3 (mN M) e := by
            intro hno e
            rw [eK3]
            exact ⟨fun y => absurd ⟨y.1, y.2.1, y.2.2.1⟩ hno, fun y => absurd ⟨y.1, y.2.1, y.2.2.1⟩ hno⟩
          refine ⟨fun y => out ?_, fun y => ?_⟩
          · have e : u = mN M := by have := hleu.mp y; omega
            subst e
            exact fun e => Iff.rfl
          · have hltu : u < mN M := Nat.lt_of_not_le (fun y2 => y (hleu.mpr y2))
            obtain ⟨hFu, hDu, hTu⟩ := hM9.2.2.2 u hltu
            obtain ⟨bFu, bDu, bTu⟩ := hok.2.1 u hltu
            have hinu : vp_in (nI u) 24 := vp_in_nI (by omega) (by decide)
            rw [hFu, hDu, hTu, nI_eq (show mF M w < 2 ^ 31 by omega) (show p < 2 ^ 31 by omega), nI_eq (show mF M u < 2 ^ 31 by omega) (show q < 2 ^ 31 by omega), nI_eq (show mD M u < 2 ^ 31 by omega) (show mD M w < 2 ^ 31 by omega), ix]
            refine ⟨hin, fun y2 => out (none3 (fun n => y2 n.1)), fun y2 => ⟨hin, r_isSeen (by omega) ?_⟩⟩
            rw [hM9.2.1]
            refine ⟨fun y3 => out (none3 (fun n => by rw [(b01_z _).mp y3] at n; cases n.2.1)), fun y3 => ⟨hin, r_isFault (by omega) ?_⟩⟩
            rw [hM9.2.2.1]
            refine ⟨fun y4 => out (none3 (fun n => by rw [tr y4] at n; cases n.2.2)), fun y4 => ?_⟩
            have n1 := tr y3
            have n2 := (b01_z _).mp y4
            have stay : ¬ (mD M u = mD M w ∧ mF M u = q) → X10 (nI u + 1) s9 := by
              intro hno
              have hk : ∀ e, K3 u e ↔ K3 (u + 1) e := by
                intro e
                rw [eK3]
                constructor
                · rintro ⟨a, b, c, t, ht, d⟩; exact ⟨a, b, c, t, by omega, d⟩
                · rintro ⟨a, b, c, t, ht, d1, d2, d3⟩
                  by_cases e2 : t = u
                  · subst e2; exact absurd ⟨d1, d2⟩ hno
                  · exact ⟨a, b, c, t, by omega, d1, d2, d3⟩
              refine ih2 _ _ ⟨u + 1, nI_1 u, hltu, h91, h92, fun x e hx he => ?_, fun x e hx he => ?_⟩ (hmu2 hltu)
              · rw [hED9 x e hx he, hk e]
              · rw [hEM9 x e hx he, hk e]
            refine ⟨hinu, fun y5 => stay (fun n => y5 n.2), fun y5 => ⟨hinu, hin, fun y6 => stay (fun n => y6 n.1), fun y6 => ⟨hin, hinu, ?_⟩⟩⟩
            refine r_leads (by omega) (by omega) (fun s13 k1 k2 k3 k4 => ?_)
            have hk : ∀ e, K3 (u + 1) e ↔ K3 u e ∨ e = 10 * mT M w + mT M u := by
              intro e
              rw [eK3]
              constructor
              · rintro ⟨a, b, c, t, ht, d1, d2, d3⟩
                by_cases e2 : t = u
                · subst e2; exact Or.inr d3
                · exact Or.inl ⟨a, b, c, t, by omega, d1, d2, d3⟩
              · rintro (⟨a, b, c, t, ht, d⟩ | d)
                · exact ⟨a, b, c, t, by omega, d⟩
                · exact ⟨y2, n1, n2, u, by omega, y6, y5, d⟩
            refine ih2 _ _ ⟨u + 1, nI_1 u, hltu, k1.trans h91, k2.trans h92, fun x e hx he => ?_, fun x e hx he => ?_⟩ (hmu2 hltu)
            · rw [k3 x e hx he, hED9 x e hx he, hk e]
              constructor
              · rintro ((a | ⟨a, b⟩) | ⟨a, b⟩)
                · exact Or.inl a
                · rcases b with b | b | b
                  · exact Or.inr ⟨a, Or.inl b⟩
                  · exact Or.inr ⟨a, Or.inr (Or.inl b)⟩
                  · exact Or.inr ⟨a, Or.inr (Or.inr (Or.inl b))⟩
                · exact Or.inr ⟨a, Or.inr (Or.inr (Or.inr b))⟩
              · rintro (a | ⟨a, b | b | b | b⟩)
                · exact Or.inl (Or.inl a)
                · exact Or.inl (Or.inr ⟨a, Or.inl b⟩)
                · exact Or.inl (Or.inr ⟨a, Or.inr (Or.inl b)⟩)
                · exact Or.inl (Or.inr ⟨a, Or.inr (Or.inr b)⟩)
                · exact Or.inr ⟨a, b⟩
            · rw [k4 x e hx he, hEM9 x e hx he, hk e]
              constructor
              · rintro ((a | ⟨a, b⟩) | ⟨-, a, b⟩)
                · exact Or.inl a
                · rcases b with b | b
                  · exact Or.inr ⟨a, Or.inl b⟩
                  · exact Or.inr ⟨a, Or.inr (Or.inl b)⟩
                · exact Or.inr ⟨a, Or.inr (Or.inr b)⟩
              · rintro (a | ⟨a, b | b | b⟩)
                · exact Or.inl (Or.inl a)
                · exact Or.inl (Or.inr ⟨a, Or.inl b⟩)
                · exact Or.inl (Or.inr ⟨a, Or.inr b⟩)
                · exact Or.inr ⟨by decide, a, b⟩
        · have h0 : ¬ K3 0 e := by rw [eK3]; rintro ⟨_, _, _, t, ht, _⟩; omega
          rw [hED6 x e hx he]
          constructor
          · rintro (a | ⟨a, b⟩)
            · exact Or.inl a
            · exact Or.inr ⟨a, b.elim Or.inl (fun b => Or.inr (Or.inl b))⟩
          · rintro (a | ⟨a, b | b | b⟩)
            · exact Or.inl a
            · exact Or.inr ⟨a, Or.inl b⟩
            · exact Or.inr ⟨a, Or.inr b⟩
            · exact absurd b h0
        · have h0 : ¬ K3 0 e := by rw [eK3]; rintro ⟨_, _, _, t, ht, _⟩; omega
          rw [hEM6 x e hx he]
          constructor
          · rintro (a | ⟨a, b⟩)
            · exact Or.inl a
            · exact Or.inr ⟨a, Or.inl b⟩
          · rintro (a | ⟨a, b | b⟩)
            · exact Or.inl a
            · exact Or.inr ⟨a, b⟩
            · exact absurd b h0
      rw [hc]
      have part2 : ∀ s4 : ft_St, s4.1 = σ.1 → s4.2.1 = σ.2.1 → (∀ x e, x < 100 → e < 100 → (ED s4 x e ↔ ED s2 x e ∨ (x = 10 * p + q ∧ K1 e))) → (∀ x e, x < 100 → e < 100 → (EM s4 x e ↔ EM s2 x e ∨ (x = 10 * p + q ∧ K1 e))) → (vp_in (nI w) 24 ∧ JN1 (fun (J7 : ft_St → Prop) => (¬ (s4.2.1 2 w) = nI q → J7 s4) ∧ ((s4.2.1 2 w) = nI q → vp_in (nI w) 24 ∧ w_X10_isSeen (s4.2.1 3 w) s4 (fun (r14 : Int32) => (¬ r14 = 0 → J7 s4) ∧ (r14 = 0 → vp_in (nI w) 24 ∧ w_X10_isFault (s4.2.1 3 w) s4 (fun (r15 : Int32) => (¬ r15 = 0 → J7 s4) ∧ (r15 = 0 → vp_in (nI w) 24 ∧ w_X10_leads (nI (10 * p + q)) ((10 * nI p) + (s4.2.1 4 w)) 0 s4 (fun (s16 : ft_St) => J7 s16))))))) (fun (s6 : ft_St) => LP2 (fun (X10 : Int32 → ft_St → Prop) (x8 : Int32) (s9 : ft_St) => ((s9.1 0 1) ≤ x8 → X3 (nI w + 1) s9) ∧ (¬ (s9.1 0 1) ≤ x8 → vp_in (nI w) 24 ∧ (¬ (s9.2.1 2 w) = nI p → X3 (nI w + 1) s9) ∧ ((s9.2.1 2 w) = nI p → vp_in (nI w) 24 ∧ w_X10_isSeen (s9.2.1 3 w) s9 (fun (r11 : Int32) => (r11 = 0 → X3 (nI w + 1) s9) ∧ (¬ r11 = 0 → vp_in (nI w) 24 ∧ w_X10_isFault (s9.2.1 3 w) s9 (fun (r12 : Int32) => (¬ r12 = 0 → X3 (nI w + 1) s9) ∧ (r12 = 0 → vp_in x8 24 ∧ (¬ (s9.2.1 2 (Int32.toNatClampNeg x8)) = nI q → X10 (x8 + 1) s9) ∧ ((s9.2.1 2 (Int32.toNatClampNeg x8)) = nI q → vp_in x8 24 ∧ vp_in (nI w) 24 ∧ (¬ (s9.2.1 3 (Int32.toNatClampNeg x8)) = (s9.2.1 3 w) → X10 (x8 + 1) s9) ∧ ((s9.2.1 3 (Int32.toNatClampNeg x8)) = (s9.2.1 3 w) → vp_in (nI w) 24 ∧ vp_in x8 24 ∧ w_X10_leads (nI (10 * p + q)) ((10 * (s9.2.1 4 w)) + (s9.2.1 4 (Int32.toNatClampNeg x8))) 1 s9 (fun (s13 : ft_St) => X10 (x8 + 1) s13)))))))))) 0 s6)) := by
        intro s4 h41 h42 hED4 hEM4
        have hM4 := same s4 h41 h42
        obtain ⟨hF4, hD4, hT4⟩ := hM4.2.2.2 w hlt
        refine ⟨hin, ?_⟩
        intro J7 hJ7
        rw [hF4, hD4, hT4, nI_eq (show mF M w < 2 ^ 31 by omega) (show q < 2 ^ 31 by omega), ix]
        have stay : ¬ (bt (mS M) (mD M w) = false ∧ bt (mX M) (mD M w) = false ∧ mF M w = q) → J7 s4 := by
          intro hno
          have hk : ∀ e, ¬ K2 e := by intro e; rw [eK2]; rintro ⟨a, b, c, -⟩; exact hno ⟨a, b, c⟩
          refine hJ7 _ (part3 s4 h41 h42 (fun x e hx he => ?_) hEM4)
          rw [hED4 x e hx he]
          constructor
          · rintro (a | ⟨a, b⟩)
            · exact Or.inl a
            · exact Or.inr ⟨a, Or.inl b⟩
          · rintro (a | ⟨a, b | b⟩)
            · exact Or.inl a
            · exact Or.inr ⟨a, b⟩
            · exact absurd b (hk e)
        refine ⟨fun y => stay (fun n => y n.2.2), fun y => ⟨hin, r_isSeen (by omega) ?_⟩⟩
        rw [hM4.2.1]
        refine ⟨fun y2 => stay (fun n => by rw [tr y2] at n; cases n.1), fun y2 => ⟨hin, r_isFault (by omega) ?_⟩⟩
        rw [hM4.2.2.1]
        refine ⟨fun y3 => stay (fun n => by rw [tr y3] at n; cases n.2.1), fun y3 => ⟨hin, ?_⟩⟩
        refine r_leads (by omega) (by omega) (fun s16 k1 k2 k3 k4 => hJ7 _ (part3 s16 (k1.trans h41) (k2.trans h42) (fun x e hx he => ?_) (fun x e hx he => ?_)))
        · rw [k3 x e hx he, hED4 x e hx he]
          have hk : K2 e ↔ e = 10 * p + mT M w := by
            rw [eK2]
            exact ⟨fun n => n.2.2.2, fun n => ⟨(b01_z _).mp y2, (b01_z _).mp y3, y, n⟩⟩
          rw [hk]
          constructor
          · rintro ((a | ⟨a, b⟩) | ⟨a, b⟩)
            · exact Or.inl a
            · exact Or.inr ⟨a, Or.inl b⟩
            · exact Or.inr ⟨a, Or.inr b⟩
          · rintro (a | ⟨a, b | b⟩)
            · exact Or.inl (Or.inl a)
            · exact Or.inl (Or.inr ⟨a, b⟩)
            · exact Or.inr ⟨a, b⟩
        · rw [k4 x e hx he, hEM4 x e hx he]
          exact ⟨fun a => a.elim id (fun b => absurd rfl b.1), fun a => Or.inl a⟩
      refine ⟨hin, ?_⟩
      intro J5 hJ5
      rw [hF, hD, hT, nI_eq (show mF M w < 2 ^ 31 by omega) (show p < 2 ^ 31 by omega), ix]
      have stay : ¬ (mF M w = p ∧ bt (mS M) (mD M w) = false) → J5 s2 := by
        intro hno
        have hk : ∀ e, ¬ K1 e := by intro e; rw [eK1]; rintro ⟨a, b, -⟩; exact hno ⟨a, b⟩
        refine hJ5 _ (part2 s2 q1 q2 (fun x e hx he => ?_) (fun x e hx he => ?_))
        · exact ⟨fun a => Or.inl a, fun a => a.elim id (fun b => absurd b.2 (hk e))⟩
        · exact ⟨fun a => Or.inl a, fun a => a.elim id (fun b => absurd b.2 (hk e))⟩
      refine ⟨fun y => stay (fun n => y n.1), fun y => ⟨hin, r_isSeen (by omega) ?_⟩⟩
      rw [hM2.2.1]
      refine ⟨fun y2 => stay (fun n => by rw [tr y2] at n; cases n.2), fun y2 => ⟨hin, ?_⟩⟩
      refine r_leads (by omega) (by omega) (fun s18 k1 k2 k3 k4 => hJ5 _ (part2 s18 (k1.trans q1) (k2.trans q2) (fun x e hx he => ?_) (fun x e hx he => ?_)))
      · have hk : K1 e ↔ e = 10 * mT M w + q := by
          rw [eK1]
          exact ⟨fun n => n.2.2, fun n => ⟨y, (b01_z _).mp y2, n⟩⟩
        rw [k3 x e hx he, hk]
      · have hk : K1 e ↔ e = 10 * mT M w + q := by
          rw [eK1]
          exact ⟨fun n => n.2.2, fun n => ⟨y, (b01_z _).mp y2, n⟩⟩
        rw [k4 x e hx he, hk]
        exact ⟨fun a => a.elim Or.inl (fun b => Or.inr b.2), fun a => a.elim Or.inl (fun b => Or.inr ⟨by decide, b⟩)⟩
  · rintro (y | ⟨-, v, mk, hv, -⟩)
    · exact y
    · omega
  · rintro (y | ⟨-, v, hv, -⟩)
    · exact y
    · omega
