theorem sF_sF (σ : ft_St) (k j : Nat) (v w : Int32) : ft_sF (ft_sF σ k j v) k j w = ft_sF σ k j w := by
  unfold ft_sF
  refine Prod.ext ?_ rfl
  funext a b
  by_cases h : b = j <;> by_cases h2 : a = k <;> simp [h, h2]
theorem RepM.f52 {σ : ft_St} {M : MM} (h : RepM σ 2 M) (j : Nat) (v : Int32) : RepM (ft_sF σ 52 j v) 2 M := h.same (sF_n σ j v (by decide)) rfl rfl rfl
abbrev Ra (M : MM) : Nat → Nat → Prop := R1 (Ew M (fun _ => True))
theorem t_findMarks {σ : ft_St} {M : MM} {Φ : ft_St → Prop} (hM : RepM σ 2 M) (hok : MOk M) (h : Φ (ft_sF σ 52 2 (MKS M))) : w_X7_findMarks 52 2 σ Φ := by
  have hn := hok.1
  unfold w_X7_findMarks
  simp only [Nat.reduceAdd]
  rintro _ rfl
  have lt20 : ∀ a b, Ew M (fun _ => True) a b → a < 20 ∧ b < 20 := fun a b e => Ew.lt hok e
  refine LP3.rule (fun x2 x3 s4 => ∃ (r : Nat) (mk : Int32), x3 = nI r ∧ r ≤ 20 ∧ ft_bz x2 ∧ s4 = ft_sF σ 52 2 mk ∧ bt mk 0 = true ∧ (∀ j, bt mk j = true → Ra M 0 j) ∧ (x2 = 0 → ∀ a b, bt mk a = true → Ew M (fun _ => True) a b → bt mk b = true) ∧ (¬ x2 = 0 → r + 1 ≤ cnt (fun j => bt mk j = true) 20)) (fun _ x3 _ => 20 - x3.toNatClampNeg) ?_ ⟨0, 1, rfl, by decide, Or.inr rfl, rfl, by decide, ?_, fun z => absurd z (by decide), fun _ => cnt_pos.mpr ⟨0, by decide, by decide⟩⟩
  · rintro X5 x2 x3 s4 ⟨r, mk, rfl, hr, hb2, hs4, h0, hsd, hcl, hct⟩ ih
    have hc : (nI r).toNatClampNeg = r := nI_clamp (by omega)
    have hle : (20 : Int32) ≤ nI r ↔ 20 ≤ r := nI_leI (a := 20) (by decide) (by omega)
    have fin : x2 = 0 → Φ s4 := by
      intro z
      have e : mk = MKS M := by
        refine bS_eq (fun i => ⟨fun q => ⟨R1.lt (fun x y e => (lt20 x y e).2) (by decide) (hsd i q), hsd i q⟩, fun q => ?_⟩)
        exact q.2 (fun j => bt mk j = true) (fun a y => by rw [y]; exact h0) (fun a b y e => hcl z a b y e)
      rw [hs4, e]
      exact h
    refine ⟨fun q => ?_, fun q => ⟨fun z => fin z, fun z => ?_⟩⟩
    · refine fin (Classical.byContradiction (fun z => ?_))
      have h1 := hct z
      have h2 := cnt_le (fun j => bt mk j = true) 20
      have := hle.mp q
      omega
    · have hr20 : r < 20 := Nat.lt_of_not_le (fun y => q (hle.mpr y))
      have h4 : s4.1 52 2 = mk := by rw [hs4]; exact sF_s _ _ _ _
      rw [h4]
      refine LP2.rule (fun x6 s7 => ∃ (w : Nat) (m2 : Int32), x6 = nI w ∧ w ≤ mN M ∧ s7 = ft_sF σ 52 2 m2 ∧ (∀ j, bt mk j = true → bt m2 j = true) ∧ (∀ j, bt m2 j = true → Ra M 0 j) ∧ (∀ v i, v < w → (i = mF M v ∨ i = mF M v + 10) → bt mk i = true → bt m2 (mkB M v i) = true)) (fun x6 _ => 24 - x6.toNatClampNeg) ?_ ⟨0, mk, rfl, Nat.zero_le _, hs4, fun _ q => q, hsd, fun v i hv => absurd hv (Nat.not_lt_zero _)⟩
      rintro X8 x6 s7 ⟨w, m2, rfl, hw, hs7, hsub, hsd2, hst⟩ ih2
      have hM7 : RepM s7 2 M := by rw [hs7]; exact hM.f52 2 m2
      have h7 : s7.1 52 2 = m2 := by rw [hs7]; exact sF_s _ _ _ _
      have hcw : (nI w).toNatClampNeg = w := nI_clamp (by omega)
      have hlew : nI (mN M) ≤ nI w ↔ mN M ≤ w := nI_leI (by omega) (by omega)
      rw [hM7.1, h7]
      refine ⟨fun q2 => ?_, fun q2 => ?_⟩
      · have e : w = mN M := by have := hlew.mp q2; omega
        subst e
        have hmu : 20 - (nI r + 1).toNatClampNeg < 20 - (nI r).toNatClampNeg := by
          rw [nI_1 r, nI_clamp (by omega), hc]; omega
        refine ⟨fun e => ?_, fun e => ?_⟩
        · refine ih _ _ _ ⟨r + 1, m2, nI_1 r, hr20, Or.inl rfl, hs7, hsub 0 h0, hsd2, fun _ a b y ed => ?_, fun y => absurd rfl y⟩ hmu
          obtain ⟨v, hv, -, hi, rfl⟩ := ed
          exact hst v a hv hi (by rw [← e]; exact y)
        · refine ih _ _ _ ⟨r + 1, m2, nI_1 r, hr20, Or.inr rfl, hs7, hsub 0 h0, hsd2, fun y => absurd y (by decide), fun _ => ?_⟩ hmu
          have h1 := hct z
          have h2 : cnt (fun j => bt mk j = true) 20 < cnt (fun j => bt m2 j = true) 20 := by
            refine cnt_lt (fun j _ => hsub j) (Classical.byContradiction (fun hno => e ?_))
            refine (b_extI (fun i _ => ⟨fun y => Classical.byContradiction (fun y2 => hno ⟨i, R1.lt (fun x y e => (lt20 x y e).2) (by decide) (hsd2 i y), y, y2⟩), hsub i⟩))
          omega
      · have hlt : w < mN M := Nat.lt_of_not_le (fun z => q2 (hlew.mpr z))
        obtain ⟨hF, hD, hT⟩ := hM7.2.2.2 w hlt
        obtain ⟨bF, bD, bT⟩ := hok.2.1 w hlt
        have hin : vp_in (nI w) 24 := vp_in_nI (by omega) (by decide)
        have hmu : 24 - (nI w + 1).toNatClampNeg < 24 - (nI w).toNatClampNeg := by
          rw [nI_1 w, nI_clamp (by omega), hcw]; omega
        refine ⟨hin, ?_⟩
        rw [hcw, show s7.2.1 3 w = nI (mF M w) from hF]
        rintro _ rfl
        intro X9 hX9
        have step : ∀ i, (i = mF M w ∨ i = mF M w + 10) → ∀ (s8 : ft_St) (m3 : Int32), s8 = ft_sF σ 52 2 m3 → (∀ j, bt m3 j = true → Ra M 0 j) → (∀ (s' : ft_St) (m4 : Int32), s' = ft_sF σ 52 2 m4 → (∀ j, bt m3 j = true → bt m4 j = true) → (∀ j, bt m4 j = true → Ra M 0 j) → (bt m3 i = true → bt m4 (mkB M w i) = true) → X9 (nI (i + 10)) s') → X9 (nI i) s8 := by
          intro i hi s8 m3 hs8 hsd3 kk
          have hi20 : i < 20 := by omega
          have hM8 : RepM s8 2 M := by rw [hs8]; exact hM.f52 2 m3
          have h8 : s8.1 52 2 = m3 := by rw [hs8]; exact sF_s _ _ _ _
          refine hX9 _ _ ⟨fun z => absurd ((nI_leI (a := 20) (by decide) (by omega)).mp z) (by omega), fun _ => ?_⟩
          rw [h8, b_tst (by omega), show nI i + 10 = nI (i + 10) from nI_add i 10]
          refine ⟨fun z => kk s8 m3 hs8 (fun _ q => q) hsd3 (fun q => absurd q z), fun z => t_markBehind hM8 hok hlt hi20 (fun s14 hs14 => ?_)⟩
          have hmk := mkB_lt hok (i := i) hlt
          refine kk s14 _ (hs14.trans (by rw [hs8, sF_sF])) (fun j q => (b_orI _ _ _).mpr (Or.inl q)) (fun j q => ?_) (fun _ => (b_orI _ _ _).mpr (Or.inr ((b_bitI (by omega) (by omega)).mpr rfl)))
          rcases (b_orI _ _ _).mp q with q | q
          · exact hsd3 j q
          · have hj := b_lt q
            rw [b_bitI (by omega) hj] at q
            subst q
            exact (hsd3 i z).step ⟨w, hlt, trivial, hi, rfl⟩
        refine step (mF M w) (Or.inl rfl) s7 m2 hs7 hsd2 (fun sa ma hsa hs1 hsda hta => step (mF M w + 10) (Or.inr rfl) sa ma hsa hsda (fun sb mb hsb hs2 hsdb htb => ?_))
        refine hX9 _ _ ⟨fun _ => ?_, fun z => absurd ((nI_leI (a := 20) (by decide) (show mF M w + 10 + 10 < 2 ^ 31 by omega)).mpr (by omega)) z⟩
        refine ih2 _ _ ⟨w + 1, mb, nI_1 w, hlt, hsb, fun j q => hs2 j (hs1 j (hsub j q)), hsdb, fun v i hv hi q => ?_⟩ hmu
        by_cases e : v = w
        · subst e
          rcases hi with hi | hi
          · subst hi; exact hs2 _ (hta (hsub _ q))
          · subst hi; exact htb (hs1 _ (hsub _ q))
        · exact hs2 _ (hs1 _ (hst v i (by omega) hi q))
  · intro j q
    rw [b_1] at q
    have : j = 0 := by simpa using q
    subst this
    exact R1.refl 0
/-- the view holds what the machine M leads to -/
def RepV (σ : ft_St) (M : MM) : Prop := VwU M (σ.2.1 53) ∧ VwB M (σ.2.1 54) ∧ σ.1 52 2 = MKS M
theorem t_look {σ : ft_St} {M : MM} {Φ : ft_St → Prop} (hM : RepM σ 2 M) (hok : MOk M) (h : ∀ A B, VwU M A → VwB M B → Φ (ft_sF (ft_sA (ft_sA σ 53 A) 54 B) 52 2 (MKS M))) : w_X7_look 52 2 σ Φ := by
  unfold w_X7_look
  refine t_findUnseen hM hok (fun A hA => ?_)
  have hM1 : RepM (ft_sA σ 53 A) 2 M := hM.same rfl rfl rfl rfl
  refine t_findBehind hM1 hok (by rw [sA_s]; exact hA) (fun B hB => ?_)
  exact t_findMarks (hM1.same rfl rfl rfl rfl) hok (h A B hA hB)
theorem t_first {σ : ft_St} {M : MM} {Φ : Int32 → Prop} (hok : MOk M) (hV : VwU M (σ.2.1 53)) (h : Φ (FST M)) : w_X7_first 52 σ Φ := by
  unfold w_X7_first
  refine ⟨vp_in_nI (n := 0) (by decide) (by decide), ?_⟩
  have e : σ.2.1 53 0 = FST M := bS_eq (fun i => by
    rw [hV 0 (by decide) i]
    exact ⟨fun q => ⟨R1.lt (fun x y e => (Ew.lt hok e).2) (by decide) q, q⟩, fun q => q.2⟩)
  show Φ (σ.2.1 53 0)
  rw [e]
  exact h
noncomputable def AFC (M : MM) (S : Int32) (d : Nat) : Int32 := if bt (mS M) d = true then AFT M S d else 0
theorem AF.lt {M : MM} (hok : MOk M) {S : Int32} {d j : Nat} (h : AF M S d j) : j < 20 := by
  obtain ⟨i, -, t, e, r⟩ := h
  exact R1.lt (fun x y e => (Ew.lt hok e).2) (Ew.lt hok e).2 r
theorem AFT_bt {M : MM} (hok : MOk M) {S : Int32} {d j : Nat} : bt (AFT M S d) j = true ↔ AF M S d j := by
  unfold AFT
  rw [bS_bt]
  exact ⟨fun q => q.2, fun q => ⟨q.lt hok, q⟩⟩
theorem t_after {σ : ft_St} {M : MM} {S : Int32} {d : Nat} {Φ : Int32 → Prop} (hok : MOk M) (hV : VwB M (σ.2.1 54)) (hd : d < 8) (h : Φ (AFC M S d)) : w_X7_after 52 S (nI d) σ Φ := by
  unfold w_X7_after
  simp only [Nat.reduceAdd]
  refine LP2.rule (fun x1 x2 => ∃ i, x2 = nI i ∧ i ≤ 20 ∧ ∀ j, bt x1 j = true ↔ ∃ a, a < i ∧ bt S a = true ∧ bt (σ.2.1 54 (d * 20 + a)) j = true) (fun _ x2 => 20 - x2.toNatClampNeg) ?_ ⟨0, rfl, by decide, fun j => ?_⟩
  · rintro X x1 x2 ⟨i, rfl, hi, hx⟩ ih
    have hc : (nI i).toNatClampNeg = i := nI_clamp (by omega)
    have hle : (20 : Int32) ≤ nI i ↔ 20 ≤ i := nI_leI (a := 20) (by decide) (by omega)
    have hmu : i < 20 → 20 - (nI i + 1).toNatClampNeg < 20 - (nI i).toNatClampNeg := by
      intro _
      rw [nI_1 i, nI_clamp (by omega), hc]; omega
    refine ⟨fun q => ?_, fun q => ?_⟩
    · have hi20 : i = 20 := by have := hle.mp q; omega
      subst hi20
      have e : x1 = AFC M S d := by
        refine b_extI (fun j _ => ?_)
        rw [hx j]
        unfold AFC
        cases hs : bt (mS M) d
        · rw [if_neg (by decide), b_0]
          constructor
          · rintro ⟨a, ha, -, q2⟩
            have := ((hV d a hd ha j).mp q2).1
            rw [hs] at this; exact this
          · intro z; cases z
        · rw [if_pos rfl, AFT_bt hok]
          constructor
          · rintro ⟨a, ha, q1, q2⟩
            exact ⟨a, q1, ((hV d a hd ha j).mp q2).2⟩
          · rintro ⟨a, q1, t, e, r⟩
            have ha := (Ew.lt hok e).1
            exact ⟨a, ha, q1, (hV d a hd ha j).mpr ⟨hs, t, e, r⟩⟩
      rw [e]; exact h
    · have hlt : i < 20 := Nat.lt_of_not_le (fun z => q (hle.mpr z))
      rw [b_tst (by omega)]
      have ei : nI d * 20 + nI i = nI (d * 20 + i) := by
        rw [show (20 : Int32) = nI 20 from rfl, pk_mul, nI_add]
      rw [ei, nI_clamp (show d * 20 + i < 2 ^ 31 by omega)]
      refine ⟨fun z => ih _ _ ⟨i + 1, nI_1 i, hlt, fun j => ?_⟩ (hmu hlt), fun z => ⟨vp_in_nI (by omega) (by decide), ?_⟩⟩
      · rw [hx j]
        constructor
        · rintro ⟨a, ha, q⟩; exact ⟨a, by omega, q⟩
        · rintro ⟨a, ha, q1, q2⟩
          refine ⟨a, ?_, q1, q2⟩
          have : a ≠ i := fun e => z (e ▸ q1)
          omega
      · have go : X (x1 ||| σ.2.1 54 (d * 20 + i)) (nI i + 1) := by
          refine ih _ _ ⟨i + 1, nI_1 i, hlt, fun j => ?_⟩ (hmu hlt)
          rw [b_orI, hx j]
          constructor
          · rintro (⟨a, ha, q⟩ | q)
            · exact ⟨a, by omega, q⟩
            · exact ⟨i, by omega, z, q⟩
          · rintro ⟨a, ha, q1, q2⟩
            by_cases e : a = i
            · subst e; exact Or.inr q2
            · exact Or.inl ⟨a, by omega, q1, q2⟩
        first | exact go | (rintro _ rfl; exact go)
  · rw [b_0]
    constructor
    · intro z; cases z
    · rintro ⟨a, ha, _⟩; omega
/-- the sights that can be next -/
noncomputable def NXT (M : MM) (S : Int32) : Int32 := bI (fun d => bt (mS M) d = true ∧ ¬ AFT M S d = 0) 8
theorem AFC_z {M : MM} {S : Int32} {d : Nat} : ¬ AFC M S d = 0 ↔ bt (mS M) d = true ∧ ¬ AFT M S d = 0 := by
  unfold AFC
  cases bt (mS M) d <;> simp
theorem t_nextSights {σ : ft_St} {M : MM} {S : Int32} {Φ : Int32 → Prop} (hok : MOk M) (hV : VwB M (σ.2.1 54)) (h : Φ (NXT M S)) : w_X7_nextSights 52 S σ Φ := by
  unfold w_X7_nextSights
  refine LP2.rule (fun x1 x2 => ∃ i, x2 = nI i ∧ i ≤ 8 ∧ x1 = bI (fun d => bt (mS M) d = true ∧ ¬ AFT M S d = 0) i) (fun _ x2 => 8 - x2.toNatClampNeg) ?_ ⟨0, rfl, by decide, rfl⟩
  rintro X x1 x2 ⟨i, rfl, hi, rfl⟩ ih
  have hc : (nI i).toNatClampNeg = i := nI_clamp (by omega)
  have hle : (8 : Int32) ≤ nI i ↔ 8 ≤ i := nI_leI (a := 8) (by decide) (by omega)
  refine ⟨fun q => ?_, fun q => ?_⟩
  · have hi8 : i = 8 := by have := hle.mp q; omega
    subst hi8; exact h
  · have hlt : i < 8 := Nat.lt_of_not_le (fun z => q (hle.mpr z))
    have hmu : 8 - (nI i + 1).toNatClampNeg < 8 - (nI i).toNatClampNeg := by
      rw [nI_1 i, nI_clamp (by omega), hc]; omega
    refine t_after hok hV hlt ⟨fun z => ih _ _ ⟨i + 1, nI_1 i, hlt, ?_⟩ hmu, fun z => ih _ _ ⟨i + 1, nI_1 i, hlt, ?_⟩ hmu⟩
    · have e : ¬ (bt (mS M) i = true ∧ ¬ AFT M S i = 0) := fun y => AFC_z.mpr y z
      show _ = _ ||| _
      rw [if_neg (by simp only [decide_eq_true_eq]; exact e)]
      apply b_ext; intro j _; rw [b_or, b_0]; simp
    · have e := AFC_z.mp z
      show _ = _ ||| _
      rw [if_pos (by simp only [decide_eq_true_eq]; exact e)]
