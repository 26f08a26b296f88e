theorem t_addAhead {σ : ft_St} {k : Nat} {Φ : Int32 → ft_St → Prop} (h : ∀ x g, ft_bz x → (∀ p, p < 10 → g p = σ.2.1 (k + 6) p ||| σ.2.1 (k + 5) p) → (x = 0 → ∀ p, p < 10 → ∀ q, bt (σ.2.1 (k + 5) p) q = true → bt (σ.2.1 (k + 6) p) q = true) → (¬ x = 0 → ∃ p q, p < 10 ∧ bt (σ.2.1 (k + 5) p) q = true ∧ ¬ bt (σ.2.1 (k + 6) p) q = true) → Φ x (ft_sA σ (k + 6) g)) : w_X6_addAheadToGone k σ Φ := by
  unfold w_X6_addAheadToGone
  refine LP3.rule (fun x1 x2 s3 => ∃ (i : Nat) (g : Nat → Int32), x2 = nI i ∧ i ≤ 10 ∧ ft_bz x1 ∧ s3 = ft_sA σ (k + 6) g ∧ (∀ p, p < i → g p = σ.2.1 (k + 6) p ||| σ.2.1 (k + 5) p) ∧ (∀ p, i ≤ p → g p = σ.2.1 (k + 6) p) ∧ (x1 = 0 → ∀ p, p < i → ∀ q, bt (σ.2.1 (k + 5) p) q = true → bt (σ.2.1 (k + 6) p) q = true) ∧ (¬ x1 = 0 → ∃ p q, p < 10 ∧ bt (σ.2.1 (k + 5) p) q = true ∧ ¬ bt (σ.2.1 (k + 6) p) q = true)) (fun _ x2 _ => 10 - x2.toNatClampNeg) ?_ ⟨0, σ.2.1 (k + 6), rfl, by decide, Or.inl rfl, (sA_self σ (k + 6)).symm, fun p hp => absurd hp (Nat.not_lt_zero _), fun _ _ => rfl, fun _ p hp => absurd hp (Nat.not_lt_zero _), fun z => absurd rfl z⟩
  rintro X4 x1 x2 s3 ⟨i, g, rfl, hi, hbz, hs3, hlo, hhi, hz, hnz⟩ ih
  have hc : (nI i).toNatClampNeg = i := nI_clamp (by omega)
  have hle : (10 : Int32) ≤ nI i ↔ 10 ≤ i := nI_leI (a := 10) (by decide) (by omega)
  have e5 : s3.2.1 (k + 5) = σ.2.1 (k + 5) := by rw [hs3, sA_n _ _ (by omega)]
  have e6 : s3.2.1 (k + 6) = g := by rw [hs3, sA_s]
  refine ⟨fun q => ⟨hbz, ?_⟩, fun q => ?_⟩
  · have e : i = 10 := by have := hle.mp q; omega
    subst e
    rw [hs3]
    exact h x1 g hbz hlo hz hnz
  · have hlt : i < 10 := Nat.lt_of_not_le (fun z => q (hle.mpr z))
    have hin : vp_in (nI i) 10 := vp_in_nI hlt (by decide)
    have gi := hhi i (Nat.le_refl _)
    rw [hc, e5, e6, gi]
    have tst : (σ.2.1 (k + 5) i &&& (σ.2.1 (k + 6) i ^^^ (-1))) = 0 ↔ ∀ j, bt (σ.2.1 (k + 5) i) j = true → bt (σ.2.1 (k + 6) i) j = true := by
      rw [b_eq0]
      constructor
      · intro y j z
        have hj := b_lt z
        have := y j hj
        rw [b_and, z, b_not _ hj] at this
        cases e : bt (σ.2.1 (k + 6) i) j
        · rw [e] at this; cases this
        · rfl
      · intro y j hj
        rw [b_and, b_not _ hj]
        cases e : bt (σ.2.1 (k + 5) i) j
        · rfl
        · rw [y j e]; rfl
    have fin : ∀ x, ft_bz x → (x = 0 → ∀ p, p < i + 1 → ∀ q, bt (σ.2.1 (k + 5) p) q = true → bt (σ.2.1 (k + 6) p) q = true) → (¬ x = 0 → ∃ p q, p < 10 ∧ bt (σ.2.1 (k + 5) p) q = true ∧ ¬ bt (σ.2.1 (k + 6) p) q = true) → vp_in (nI i) 10 ∧ vp_in (nI i) 10 ∧ vp_in (nI i) 10 ∧ ∀ s7 : ft_St, s7 = ft_sA s3 (k + 6) (upd g i (σ.2.1 (k + 6) i ||| σ.2.1 (k + 5) i)) → X4 x (nI i + 1) s7 := by
      intro x hbx h0 h1
      refine ⟨hin, hin, hin, fun s7 h7 => ih _ _ _ ⟨i + 1, upd g i (σ.2.1 (k + 6) i ||| σ.2.1 (k + 5) i), nI_1 i, hlt, hbx, by rw [h7, hs3, sA_sA], fun p hp => ?_, fun p hp => ?_, h0, h1⟩ (by rw [nI_1 i, nI_clamp (by omega), hc]; omega)⟩
      · by_cases e : p = i
        · subst e; exact upd_s
        · rw [upd_n e]; exact hlo p (by omega)
      · rw [upd_n (by omega)]; exact hhi p (by omega)
    have one : (∃ p q, p < 10 ∧ bt (σ.2.1 (k + 5) p) q = true ∧ ¬ bt (σ.2.1 (k + 6) p) q = true) → _ := fun y => fin 1 (Or.inr rfl) (fun z => absurd z (by decide)) (fun _ => y)
    intro J6 hJ6
    intro J8 hJ8
    refine ⟨fun z => hJ8 (hJ6 1 (one (hnz z))), fun z => ⟨hin, hin, fun z2 => hJ6 0 (fin 0 (Or.inl rfl) (fun _ p hp j y => ?_) (fun y => absurd rfl y)), fun z2 => hJ8 (hJ6 1 (one ?_))⟩⟩
    · by_cases e : p = i
      · subst e; exact tst.mp z2 j y
      · exact hz z p (by omega) j y
    · refine Classical.byContradiction (fun hno => z2 (tst.mpr (fun j y => Classical.byContradiction (fun y2 => hno ⟨i, j, hlt, y, y2⟩))))
/-- a pair comes to itself by a walk with a way of the mark -/
def RNG (M : MM) (sn : Int32) (c : Nat) : Prop := ∃ j, 0 < j ∧ Wk M sn j c c
noncomputable def rngB (M : MM) (sn : Int32) (c : Nat) : Bool := (Classical.propDecidable (RNG M sn c)).decide
theorem rngB_t {M : MM} {sn : Int32} {c : Nat} : rngB M sn c = true ↔ RNG M sn c := by simp [rngB]
theorem t_isOfRing {σ : ft_St} {k p q : Nat} {M : MM} {sn : Int32} {Φ : Int32 → ft_St → Prop} (hk : Kt k) (hM : RepM σ 2 M) (hok : MOk M) (hT : RepT σ k M sn) (hp : p < 10) (hq : q < 10) (h : ∀ σ', RepT σ' k M sn → FrC (tc k) σ σ' → Φ (b01 (rngB M sn (10 * p + q))) σ') : w_X6_isOfRing k (nI p) (nI q) σ Φ := by
  obtain ⟨hsn, hA, hG, hP, hI⟩ := hT
  have N4 : cC_N (k + 4) = 10 := by rcases hk with rfl | rfl <;> rfl
  unfold w_X6_isOfRing
  refine t_fill (by rw [N4]; decide) (fun g hg => ⟨vp_in_nI hq (by decide), vp_in_nI hp (by decide), fun s2 h2 => ?_⟩)
  rw [N4] at hg
  rw [nI_clamp (show p < 2 ^ 31 by omega), nI_clamp (show q < 2 ^ 31 by omega), sA_s, sA_n _ _ (show k + 1 ≠ k + 4 by omega), sA_sA] at h2
  rw [nI_clamp (show p < 2 ^ 31 by omega)]
  obtain ⟨S0, eS0⟩ : ∃ S0 : Nat → Prop, S0 = fun c => A0s M sn (10 * p + q) c := ⟨_, rfl⟩
  have hcl : Acl M sn S0 := by rw [eS0]; exact fun a b y e => y.step e
  have hS0 : ∀ c, S0 c → c < 100 := by rw [eS0]; exact fun c y => y.lt hok (by omega)
  obtain ⟨H, eH⟩ : ∃ H, H = upd g p (σ.2.1 (k + 1) q) := ⟨_, rfl⟩
  rw [← eH] at h2
  have loH : lo10 H := by
    intro a ha j y
    rw [eH] at y
    by_cases e : a = p
    · rw [e, upd_s] at y
      exact R1.lt (fun x y e => (e.lt hok).2) hq ((hA q hq j).mp y)
    · rw [upd_n e, hg a ha, b_0] at y; cases y
  have imH : ∀ c, c < 100 → (RC H c ↔ Im M sn S0 0 c) := by
    intro c hc
    show _ ↔ S0 c
    rw [eS0]
    show _ ↔ A0s M sn (10 * p + q) c
    rw [A0s_iff hok hq]
    unfold RC
    rw [eH]
    by_cases e : c / 10 = p
    · rw [e, upd_s, hA q hq]
      constructor
      · intro y; exact ⟨c % 10, by omega, by omega, y⟩
      · rintro ⟨q', h1, h2, h3⟩; rw [show c % 10 = q' by omega]; exact h3
    · rw [upd_n e, hg _ (by omega), b_0]
      constructor
      · intro y; cases y
      · rintro ⟨q', h1, h2, h3⟩; omega
  have f2 : FrC (tc k) σ s2 := by rw [h2]; exact FrC.sA σ _ ⟨by omega, by omega⟩
  have q2 : s2.1 = σ.1 := by rw [h2]; rfl
  have a22 : s2.2.1 (k + 2) = σ.2.1 (k + 2) := by rw [h2, sA_n _ _ (by omega)]
  have a24 : s2.2.1 (k + 4) = H := by rw [h2, sA_s]
  refine t_goOn hk ⟨by omega, by omega⟩ ⟨by omega, by omega⟩ (by omega) (hM.tw hk f2) hok (by rw [q2, a22, hsn]; exact hG) (by rw [a24]; exact loH) (fun E hloE hE => ?_)
  rw [q2, a24, hsn] at hE
  have imE : ∀ c, c < 100 → (RC E c ↔ Im M sn S0 1 c) := by
    intro c hc
    rw [hE c hc]
    constructor
    · rintro ⟨a, ha, y1, y2⟩; exact ⟨a, (imH a ha).mp y1, y2⟩
    · rintro ⟨a, y1, y2⟩
      have ha := hS0 a y1
      exact ⟨a, ha, (imH a ha).mpr y1, y2⟩
  have hMA : ∀ a b, MA M sn a b → b < 100 := fun a b y => by
    obtain ⟨x, y1, y2⟩ := y.of
    exact y2.lt hok (y1.lt hok).2
  refine LP3.rule (fun x4 x5 s6 => ∃ (r : Nat) (B : Nat → Int32), x5 = nI r ∧ r ≤ 100 ∧ ft_bz x4 ∧ FrC (tc k) σ s6 ∧ s6.1 = σ.1 ∧ (s6.2.1 (k + 1) = σ.2.1 (k + 1) ∧ s6.2.1 (k + 2) = σ.2.1 (k + 2) ∧ s6.2.1 (k + 3) = σ.2.1 (k + 3)) ∧ s6.2.1 (k + 6) = B ∧ lo10 B ∧ (∀ c, c < 100 → RC B c → ∃ j, 0 < j ∧ Im M sn S0 j c) ∧ (∀ c, c < 100 → Im M sn S0 1 c → RC B c) ∧ (x4 = 0 → ∀ a b, a < 100 → RC B a → MA M sn a b → RC B b) ∧ (¬ x4 = 0 → r ≤ cnt (RC B) 100)) (fun _ x5 _ => 100 - x5.toNatClampNeg) ?_ ⟨0, E, rfl, by decide, Or.inr rfl, f2.trans (FrC.sA s2 _ ⟨by omega, by omega⟩), q2, ⟨?_, ?_, ?_⟩, sA_s _ _ _, hloE, fun c hc y => ⟨1, by decide, (imE c hc).mp y⟩, fun c hc y => (imE c hc).mpr y, fun z => absurd z (by decide), fun _ => Nat.zero_le _⟩
  · rintro X7 x4 x5 s6 ⟨r, B, rfl, hr, hb4, f6, q6, ⟨a61, a62, a63⟩, a66, hloB, hsd, hin1, hcl6, hct⟩ ih
    have hc : (nI r).toNatClampNeg = r := nI_clamp (by omega)
    have hle : (100 : Int32) ≤ nI r ↔ 100 ≤ r := nI_leI (a := 100) (by decide) (by omega)
    have fin : (∀ a b, a < 100 → RC B a → MA M sn a b → RC B b) → vp_in (nI p) 10 ∧ (¬ (((s6.2.1 (k + 6) p) >>> (nI q &&& 31)) &&& 1) = 1 → Φ 0 s6) ∧ ((((s6.2.1 (k + 6) p) >>> (nI q &&& 31)) &&& 1) = 1 → Φ 1 s6) := by
      intro hclo
      rw [b_tst (by omega), a66]
      have key : bt (B p) q = true ↔ RNG M sn (10 * p + q) := by
        rw [← RC_i hq]
        constructor
        · intro y
          obtain ⟨j, hj, z⟩ := hsd _ (by omega) y
          obtain ⟨a, h1, h2⟩ := (Im_Wk hok hcl j _).mp z
          rw [eS0] at h1
          have h1 : Wk M sn 0 (10 * p + q) a := h1
          have := h1.trans h2
          rw [Nat.zero_add] at this
          exact ⟨j, hj, this⟩
        · rintro ⟨j, hj, z⟩
          have hz : Im M sn S0 j (10 * p + q) := (Im_Wk hok hcl j _).mpr ⟨10 * p + q, by rw [eS0]; exact R1.refl _, z⟩
          have all : ∀ i c, Im M sn S0 (i + 1) c → c < 100 ∧ RC B c := by
            intro i
            induction i with
            | zero => intro c y; have hc100 := Im.lt hok hS0 1 c y; exact ⟨hc100, hin1 c hc100 y⟩
            | succ i ihi =>
              intro c y
              obtain ⟨a, y1, y2⟩ := y
              obtain ⟨z1, z2⟩ := ihi a y1
              exact ⟨hMA a c y2, hclo a c z1 z2 y2⟩
          obtain ⟨i, rfl⟩ : ∃ i, j = i + 1 := ⟨j - 1, by omega⟩
          exact (all i _ hz).2
      have hT6 : RepT s6 k M sn := ⟨by rw [q6]; exact hsn, by rw [a61]; exact hA, by rw [a62]; exact hG, by rw [a63]; exact hP, by rw [q6]; exact hI⟩
      have hh := h s6 hT6 f6
      refine ⟨vp_in_nI hp (by decide), fun z => ?_, fun z => ?_⟩
      · have e : rngB M sn (10 * p + q) = false := by
          cases e : rngB M sn (10 * p + q)
          · rfl
          · exact absurd (key.mpr (rngB_t.mp e)) z
        rw [e] at hh; exact hh
      · rw [rngB_t.mpr (key.mp z)] at hh; exact hh
    intro J8 hJ8
    refine ⟨fun z => hJ8 (fin ?_), fun z => ⟨fun z2 => hJ8 (fin (hcl6 z2)), fun z2 => ?_⟩⟩
    · by_cases z2 : x4 = 0
      · exact hcl6 z2
      · intro a b ha y1 y2
        have h1 := hct z2
        have h3 := cnt_le (RC B) 100
        have h4 := hle.mp z
        have h5 : cnt (RC B) 100 = cnt (fun _ => True) 100 := by
          have h6 := cnt_mono (P := RC B) (Q := fun _ => True) (n := 100) (fun _ _ _ => trivial)
          have h7 := cnt_le (fun _ : Nat => True) 100
          omega
        exact cnt_eq (fun _ _ _ => trivial) h5 b (hMA a b y2) trivial
    · have hr100 : r < 100 := Nat.lt_of_not_le (fun y => z (hle.mpr y))
      have q61 : s6.1 k 0 = sn := by rw [q6]; exact hsn
      refine t_goOn hk ⟨by omega, by omega⟩ ⟨by omega, by omega⟩ (by omega) (hM.tw hk f6) hok (by rw [q61, a62]; exact hG) (by rw [a66]; exact hloB) (fun E2 hlo2 hE2 => ?_)
      rw [q61, a66] at hE2
      have b5 : (ft_sA s6 (k + 5) E2).2.1 (k + 5) = E2 := sA_s _ _ _
      have b6 : (ft_sA s6 (k + 5) E2).2.1 (k + 6) = B := by rw [sA_n _ _ (by omega)]; exact a66
      refine t_addAhead (fun x g2 hbx hg2 hz hnz => ?_)
      rw [b5, b6] at hg2 hz hnz
      have rc : ∀ c, c < 100 → (RC g2 c ↔ RC B c ∨ RC E2 c) := by
        intro c hc
        unfold RC
        rw [hg2 _ (by omega), b_orI]
      refine ih _ _ _ ⟨r + 1, g2, nI_1 r, hr100, hbx, (f6.trans (FrC.sA s6 _ ⟨by omega, by omega⟩)).trans (FrC.sA _ _ ⟨by omega, by omega⟩), q6, ⟨?_, ?_, ?_⟩, sA_s _ _ _, fun a ha j y => ?_, fun c hc y => ?_, fun c hc y => (rc c hc).mpr (Or.inl (hin1 c hc y)), fun y a b ha y1 y2 => ?_, fun y => ?_⟩ (by rw [nI_1 r, nI_clamp (by omega), hc]; omega)
      · rw [sA_n _ _ (by omega), sA_n _ _ (by omega)]; exact a61
      · rw [sA_n _ _ (by omega), sA_n _ _ (by omega)]; exact a62
      · rw [sA_n _ _ (by omega), sA_n _ _ (by omega)]; exact a63
      · rw [hg2 a ha] at y
        rcases (b_orI _ _ _).mp y with y | y
        · exact hloB a ha j y
        · exact hlo2 a ha j y
      · rcases (rc c hc).mp y with y | y
        · exact hsd c hc y
        · obtain ⟨a, ha, y1, y2⟩ := (hE2 c hc).mp y
          obtain ⟨j, hj, y3⟩ := hsd a ha y1
          exact ⟨j + 1, by omega, a, y3, y2⟩
      · have hb := hMA a b y2
        have y0 : RC B a := by
          rcases (rc a ha).mp y1 with y3 | y3
          · exact y3
          · exact hz y _ (by omega) _ y3
        exact (rc b hb).mpr (Or.inr ((hE2 b hb).mpr ⟨a, ha, y0, y2⟩))
      · have h1 := hct z2
        obtain ⟨a, j, ha, y1, y2⟩ := hnz y
        have hj := hlo2 a ha j y1
        have : cnt (RC B) 100 < cnt (RC g2) 100 := cnt_lt (fun c hc y3 => (rc c hc).mpr (Or.inl y3)) ⟨10 * a + j, by omega, (rc _ (by omega)).mpr (Or.inr ((RC_i hj).mpr y1)), fun y3 => y2 ((RC_i hj).mp y3)⟩
        omega
  · rw [sA_n _ _ (by omega), h2, sA_n _ _ (by omega)]
  · rw [sA_n _ _ (by omega), h2, sA_n _ _ (by omega)]
  · rw [sA_n _ _ (by omega), h2, sA_n _ _ (by omega)]
theorem t_countFrom {σ : ft_St} {k a : Nat} {M : MM} {sn : Int32} {Φ : Int32 → Prop} (hk : Kt k) (hT : RepT σ k M sn) (ha : a = 0 ∨ a = 10) (h : Φ (nI (cnt (fun e => Pc M sn (10 * a + e)) (10 * (20 - a))))) : w_X6_countFrom k (nI a) σ Φ := by
  have N3 : cC_N (k + 3) = 20 := by rcases hk with rfl | rfl <;> rfl
  obtain ⟨-, -, -, hP, -⟩ := hT
  unfold w_X6_countFrom
  refine t_countOf (by rw [N3]; decide) (by rw [N3]; omega) (fun i hi q y => ?_) ?_
  · rw [N3] at hi
    exact ((hP i hi q).mp y).1
  · rw [N3]
    have e : cnt (fun e => RC (σ.2.1 (k + 3)) (10 * a + e)) (10 * (20 - a)) = cnt (fun e => Pc M sn (10 * a + e)) (10 * (20 - a)) := cnt_congr (fun c hc => by
      unfold RC
      rw [hP _ (by omega), show 10 * ((10 * a + c) / 10) + (10 * a + c) % 10 = 10 * a + c by omega]
      exact ⟨fun y => y.2, fun y => ⟨by omega, y⟩⟩)
    rw [e]; exact h
