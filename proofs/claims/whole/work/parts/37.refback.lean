def RST (σ σ' : ft_St) : Prop := σ'.2.1 1 = σ.2.1 1 ∧ σ'.2.1 15 = σ.2.1 15 ∧ σ'.1 0 22 = σ.1 0 22
theorem nI_sub1 {n : Nat} (h : 0 < n) : nI n - 1 = nI (n - 1) := by
  obtain ⟨j, rfl⟩ : ∃ j, n = j + 1 := ⟨n - 1, by omega⟩
  rw [nI_pred]; rfl
theorem r_backOk {σ : ft_St} {hc : Nat} {hist : Nat → SS} {Φ : Int32 → ft_St → Prop} (hH : RepRH σ hc hist) (h0 : 0 < hc) (hok : SOk (hist 0)) (h : ∀ σ', RepRZ σ' (hist 0) → RepRH σ' (hc - 1) (fun i => hist (i + 1)) → RST σ σ' → Φ (nI (hc - 1)) σ') : w_X10_back σ Φ := by
  obtain ⟨hc6, h10, hK⟩ := hH
  have hn := hok.1.1
  have hcc := hok.2.1
  unfold w_X10_back
  rw [h10, show (0 : Int32) = nI 0 from rfl, nI_eq (by omega) (by decide), nI_sub1 h0]
  refine ⟨fun _ s1 h1 => ?_, fun q => absurd q (by omega)⟩
  have e10 : s1.1 0 10 = nI (hc - 1) := by rw [h1, sF_s]
  obtain ⟨p, hp⟩ : ∃ p, p = 85 * (hc - 1) := ⟨_, rfl⟩
  have hp425 : p ≤ 425 := by omega
  have e85 : (85 : Int32) * s1.1 0 10 = nI p := by rw [e10, show (85 : Int32) = nI 85 from rfl, pk_mul, hp]
  rw [e85]
  have ad : ∀ a b : Nat, nI a + nI b = nI (a + b) := nI_add
  have l1 : nI p + 1 = nI (p + 1) := ad p 1
  have l2 : nI p + 2 = nI (p + 2) := ad p 2
  have l3 : nI p + 3 = nI (p + 3) := ad p 3
  have l4 : nI p + 4 = nI (p + 4) := ad p 4
  have l5 : nI p + 5 = nI (p + 5) := ad p 5
  have l29 : nI p + 29 = nI (p + 29) := ad p 29
  have l53 : nI p + 53 = nI (p + 53) := ad p 53
  have l77 : nI p + 77 = nI (p + 77) := ad p 77
  have cl : ∀ a : Nat, a < 510 → (nI a).toNatClampNeg = a := fun a ha => nI_clamp (by omega)
  have vi : ∀ a : Nat, a < 510 → vp_in (nI a) 510 := fun a ha => vp_in_nI ha (by decide)
  rw [l1, l2, l3, l4, l5, l29, l53, l77, cl p (by omega), cl (p + 1) (by omega), cl (p + 2) (by omega), cl (p + 3) (by omega), cl (p + 4) (by omega)]
  have hK0 := hK 0 h0
  rw [show 85 * (hc - 1 - 0) = p by omega] at hK0
  refine ⟨vi _ (by omega), fun s2 h2 => ⟨vi _ (by omega), fun s3 h3 => ⟨vi _ (by omega), fun s4 h4 => ⟨vi _ (by omega), fun s5 h5 => ⟨vi _ (by omega), fun s6 h6 => ?_⟩⟩⟩⟩⟩
  have e6 : s6.2 = σ.2 := by rw [h6, h5, h4, h3, h2, h1]; rfl
  have b6 : s6.1 0 10 = nI (hc - 1) ∧ s6.1 0 1 = nI (mN (zM (hist 0))) ∧ s6.1 0 5 = mS (zM (hist 0)) ∧ s6.1 0 6 = mX (zM (hist 0)) ∧ s6.1 0 7 = zK (hist 0) ∧ s6.1 0 8 = nI (zC (hist 0)) ∧ s6.1 0 22 = σ.1 0 22 := by
    obtain ⟨⟨q0, q1, q2, q3, q4⟩, -, -⟩ := hK0
    have c1 : s1.2.1 6 p = σ.2.1 6 p := by rw [h1]; rfl
    have c2 : s2.2.1 6 (p + 1) = σ.2.1 6 (p + 1) := by rw [h2, h1]; rfl
    have c3 : s3.2.1 6 (p + 2) = σ.2.1 6 (p + 2) := by rw [h3, h2, h1]; rfl
    have c4 : s4.2.1 6 (p + 3) = σ.2.1 6 (p + 3) := by rw [h4, h3, h2, h1]; rfl
    have c5 : s5.2.1 6 (p + 4) = σ.2.1 6 (p + 4) := by rw [h5, h4, h3, h2, h1]; rfl
    rw [c1, q0] at h2
    rw [c2, q1] at h3
    rw [c3, q2] at h4
    rw [c4, q3] at h5
    rw [c5, q4] at h6
    rw [h6, h5, h4, h3, h2, h1]
    exact ⟨rfl, rfl, rfl, rfl, rfl, rfl, rfl⟩
  refine LP2.rule (fun x s => ∃ w : Nat, x = nI w ∧ w ≤ 24 ∧ s.1 = s6.1 ∧ (s.2.1 1 = σ.2.1 1 ∧ s.2.1 6 = σ.2.1 6 ∧ s.2.1 15 = σ.2.1 15) ∧ ∀ v, v < w → s.2.1 2 v = σ.2.1 6 (p + 5 + v) ∧ s.2.1 3 v = σ.2.1 6 (p + 29 + v) ∧ s.2.1 4 v = σ.2.1 6 (p + 53 + v)) (fun x _ => 24 - x.toNatClampNeg) ?_ ⟨0, rfl, by decide, rfl, ⟨by rw [e6], by rw [e6], by rw [e6]⟩, fun v hv => absurd hv (Nat.not_lt_zero _)⟩
  rintro X9 x7 s8 ⟨w, rfl, hw, hs8, ⟨f1, f6, f15⟩, hv⟩ ih
  have hcw : (nI w).toNatClampNeg = w := nI_clamp (by omega)
  have hle : (24 : Int32) ≤ nI w ↔ 24 ≤ w := nI_leI (a := 24) (by decide) (by omega)
  refine ⟨fun q => ?_, fun q => ?_⟩
  · have e24 : w = 24 := by have := hle.mp q; omega
    subst e24
    refine LP2.rule (fun x s => ∃ i : Nat, x = nI i ∧ i ≤ 8 ∧ s.1 = s6.1 ∧ (s.2.1 1 = σ.2.1 1 ∧ s.2.1 6 = σ.2.1 6 ∧ s.2.1 15 = σ.2.1 15) ∧ (s.2.1 2 = s8.2.1 2 ∧ s.2.1 3 = s8.2.1 3 ∧ s.2.1 4 = s8.2.1 4) ∧ ∀ v, v < i → s.2.1 5 v = σ.2.1 6 (p + 77 + v)) (fun x _ => 8 - x.toNatClampNeg) ?_ ⟨0, rfl, by decide, hs8, ⟨f1, f6, f15⟩, ⟨rfl, rfl, rfl⟩, fun v hv => absurd hv (Nat.not_lt_zero _)⟩
    rintro X12 x10 s11 ⟨i, rfl, hi, hs11, ⟨g1, g6, g15⟩, ⟨g2, g3, g4⟩, hv2⟩ ih2
    have hci : (nI i).toNatClampNeg = i := nI_clamp (by omega)
    have hle2 : (8 : Int32) ≤ nI i ↔ 8 ≤ i := nI_leI (a := 8) (by decide) (by omega)
    refine ⟨fun q2 => ?_, fun q2 => ?_⟩
    · have e8 : i = 8 := by have := hle2.mp q2; omega
      subst e8
      rw [hs11, b6.1]
      refine h s11 ⟨⟨?_, ?_, ?_, fun v hvv => ?_⟩, ?_, ?_, fun j hj => ?_⟩ ⟨by omega, ?_, fun j hj => ?_⟩ ⟨g1, g15, by rw [hs11]; exact b6.2.2.2.2.2.2⟩
      · rw [hs11]; exact b6.2.1
      · rw [hs11]; exact b6.2.2.1
      · rw [hs11]; exact b6.2.2.2.1
      · rw [g2, g3, g4]
        have := hv v (by omega)
        rw [this.1, this.2.1, this.2.2]
        exact hK0.2.1 v hvv
      · rw [hs11]; exact b6.2.2.2.2.1
      · rw [hs11]; exact b6.2.2.2.2.2.1
      · rw [hv2 j (by omega)]; exact hK0.2.2 j hj
      · rw [hs11]; exact b6.1
      · rw [g6, show hc - 1 - 1 - j = hc - 1 - (j + 1) by omega]
        exact hK (j + 1) (by omega)
    · have hlt : i < 8 := Nat.lt_of_not_le (fun z => q2 (hle2.mpr z))
      rw [ad, hci, cl (p + 77 + i) (by omega), g6]
      refine ⟨vi _ (by omega), vp_in_nI hlt (by decide), fun s13 h13 => ?_⟩
      refine ih2 _ _ ⟨i + 1, nI_1 i, hlt, by rw [h13]; exact hs11, ?_, ?_, fun v hvv => ?_⟩ (by rw [nI_1 i, nI_clamp (by omega), hci]; omega)
      · rw [h13]; exact ⟨g1, g6, g15⟩
      · rw [h13]; exact ⟨g2, g3, g4⟩
      · rw [h13, sA_s]
        by_cases e : v = i
        · subst e; exact upd_s
        · rw [upd_n e]; exact hv2 v (by omega)
  · have hlt : w < 24 := Nat.lt_of_not_le (fun z => q (hle.mpr z))
    have hin : vp_in (nI w) 24 := vp_in_nI hlt (by decide)
    rw [ad, ad, ad, hcw, cl (p + 5 + w) (by omega), cl (p + 29 + w) (by omega), cl (p + 53 + w) (by omega)]
    refine ⟨vi _ (by omega), hin, fun s14 h14 => ⟨vi _ (by omega), hin, fun s15 h15 => ⟨vi _ (by omega), hin, fun s16 h16 => ?_⟩⟩⟩
    have q6 : s14.2.1 6 = σ.2.1 6 := by rw [h14]; exact f6
    have q7 : s15.2.1 6 = σ.2.1 6 := by rw [h15]; exact q6
    rw [f6] at h14
    rw [q6] at h15
    rw [q7] at h16
    have k2 : s16.2.1 2 = upd (s8.2.1 2) w (σ.2.1 6 (p + 5 + w)) := by rw [h16, h15, h14]; rfl
    have k3 : s16.2.1 3 = upd (s8.2.1 3) w (σ.2.1 6 (p + 29 + w)) := by rw [h16, h15, h14]; rfl
    have k4 : s16.2.1 4 = upd (s8.2.1 4) w (σ.2.1 6 (p + 53 + w)) := by rw [h16, h15, h14]; rfl
    refine ih _ _ ⟨w + 1, nI_1 w, hlt, by rw [h16, h15, h14]; exact hs8, ?_, fun v hvv => ?_⟩ (by rw [nI_1 w, nI_clamp (by omega), hcw]; omega)
    · rw [h16, h15, h14]; exact ⟨f1, f6, f15⟩
    · rw [k2, k3, k4]
      by_cases e : v = w
      · subst e; exact ⟨upd_s, upd_s, upd_s⟩
      · rw [upd_n e, upd_n e, upd_n e]; exact hv v (by omega)
/-! known is as at first -/
theorem r_begins {σ : ft_St} {M : MM} {Φ : ft_St → Prop} (hM : RepRM σ M) (hok : MOk M) (h : ∀ σ', σ' = ft_sF (ft_sF σ 0 7 (FST M)) 0 8 0 → Φ σ') : w_X10_begins σ Φ := by
  unfold w_X10_begins
  refine r_first hM hok (fun s2 h2 s3 h3 => h s3 (by rw [h3, h2]))
def newZ (M : MM) (S : Int32) : SS := (M, 0, S, fun _ => 0)
theorem r_begins2 {σ : ft_St} {M : MM} {Φ : ft_St → Prop} (hM : RepRM σ M) (hok : MOk M) (h : ∀ σ', RepRZ σ' (newZ M (FST M)) → σ'.1 0 1 = σ.1 0 1 → (σ'.2 = σ.2 ∧ σ'.1 0 10 = σ.1 0 10 ∧ σ'.1 0 22 = σ.1 0 22) → Φ σ') : w_X10_begins σ Φ := by
  refine r_begins hM hok (fun σ' e => h σ' ?_ ?_ ?_)
  · rw [e]; exact ⟨⟨hM.1, hM.2.1, hM.2.2.1, hM.2.2.2⟩, rfl, rfl, fun i hi => absurd hi (Nat.not_lt_zero _)⟩
  · rw [e]; rfl
  · rw [e]; exact ⟨rfl, rfl, rfl⟩
/-! counts of what was refused -/
theorem r_bad {σ : ft_St} {Φ : Int32 → ft_St → Prop} (h : Φ (-2) (ft_sA σ 1 (upd (σ.2.1 1) 0 (σ.2.1 1 0 + 1)))) : w_X10_bad σ Φ := by
  unfold w_X10_bad
  refine ⟨vp_in_nI (n := 0) (by decide) (by decide), vp_in_nI (n := 0) (by decide) (by decide), fun s1 h1 => ?_⟩
  rw [h1]; exact h
theorem r_no {σ : ft_St} {Φ : Int32 → ft_St → Prop} (h : Φ (-3) (ft_sA σ 1 (upd (σ.2.1 1) 1 (σ.2.1 1 1 + 1)))) : w_X10_no σ Φ := by
  unfold w_X10_no
  refine ⟨vp_in_nI (n := 1) (by decide) (by decide), vp_in_nI (n := 1) (by decide) (by decide), fun s1 h1 => ?_⟩
  rw [h1]; exact h
theorem r_full {σ : ft_St} {Φ : Int32 → ft_St → Prop} (h : Φ (-4) (ft_sA σ 1 (upd (σ.2.1 1) 2 (σ.2.1 1 2 + 1)))) : w_X10_full σ Φ := by
  unfold w_X10_full
  refine ⟨vp_in_nI (n := 2) (by decide) (by decide), vp_in_nI (n := 2) (by decide) (by decide), fun s1 h1 => ?_⟩
  rw [h1]; exact h
/-! draws -/
def lcg (x : Nat) : Nat := (x * 1103515245 + 12345) % 2147483648
noncomputable def drawM : Nat → Nat → MM → MM
  | 0, _, M => M
  | k + 1, x, M => drawM k (lcg x) (if hasB M (lcg x / 65536 % 6) (lcg x / 1024 % 8) (lcg x / 32768 % 6) = true then M else addW M (lcg x / 65536 % 6) (lcg x / 1024 % 8) (lcg x / 32768 % 6))
theorem lcg_lt (x : Nat) : lcg x < 2147483648 := Nat.mod_lt _ (by decide)
theorem lcg_J {x : Nat} (hx : x < 2147483648) : ((lN x * 1103515245) + 12345) - ((lN x * 1103515245) + 12345) / 2147483648 * 2147483648 = lN (lcg x) := by
  rw [show (1103515245 : Int64) = lN 1103515245 from rfl, show (12345 : Int64) = lN 12345 from rfl, show (2147483648 : Int64) = lN 2147483648 from rfl, lN_mul, lN_add]
  exact pk_lRem (by omega) (by decide) (by decide)
theorem lcg_d {y : Nat} (hy : y < 2147483648) {a b : Nat} {la lb : Int64} (ea : la = lN a) (eb : lb = lN b) (ha : 0 < a) (ha2 : a < 2 ^ 31) (hb : 0 < b) (hb2 : b < 2 ^ 31) : Int64.toInt32 ((lN y / la) - (lN y / la) / lb * lb) = nI (y / a % b) := by
  have h1 : y / a < 2 ^ 63 := Nat.lt_of_le_of_lt (Nat.div_le_self y a) (by omega)
  rw [ea, eb, pk_lDiv (by omega) ha (by omega), pk_lRem h1 hb (by omega), lN_i]
theorem drawM_ok {M : MM} (hok : MOk M) (x : Nat) (hn : mN M < 24) : MOk (if hasB M (lcg x / 65536 % 6) (lcg x / 1024 % 8) (lcg x / 32768 % 6) = true then M else addW M (lcg x / 65536 % 6) (lcg x / 1024 % 8) (lcg x / 32768 % 6)) := by
  split
  · exact hok
  · exact addW_ok hok hn (by have := Nat.mod_lt (lcg x / 65536) (show 0 < 6 by decide); omega) (Nat.mod_lt _ (by decide)) (by have := Nat.mod_lt (lcg x / 32768) (show 0 < 6 by decide); omega)
theorem t_drawWays {σ : ft_St} {k : Nat} {M : MM} {x n : Nat} {Φ : ft_St → Prop} (hM : RepM σ k M) (hok : MOk M) (hx : x < 2147483648) (hn : n ≤ 24) (h : ∀ σ', RepM σ' k (drawM n x (0, mF M, mD M, mT M, mS M, mX M)) → MOk (drawM n x (0, mF M, mD M, mT M, mS M, mX M)) → FrC (mc k) σ σ' → Φ σ') : w_X1_drawWays k (nI x) (nI n) σ Φ := by
  unfold w_X1_drawWays
  intro s1 h1
  rw [nI_l (show x < 2 ^ 31 by omega)]
  have f1 : FrC (mc k) σ s1 := by rw [h1]; exact FrC.sF σ _ _ ⟨by omega, by omega⟩
  refine LP3.rule (fun y2 x3 s4 => ∃ (x' i : Nat) (Mi : MM), y2 = lN x' ∧ x' < 2147483648 ∧ x3 = nI i ∧ i ≤ n ∧ RepM s4 k Mi ∧ MOk Mi ∧ mN Mi ≤ i ∧ FrC (mc k) σ s4 ∧ drawM (n - i) x' Mi = drawM n x (0, mF M, mD M, mT M, mS M, mX M)) (fun _ x3 _ => 24 - x3.toNatClampNeg) ?_ ⟨x, 0, (0, mF M, mD M, mT M, mS M, mX M), rfl, hx, rfl, Nat.zero_le _, ?_, ⟨Nat.zero_le _, fun w hw => absurd hw (Nat.not_lt_zero _), hok.2.2.1, hok.2.2.2⟩, Nat.le_refl _, f1, rfl⟩
  · rintro X5 y2 x3 s4 ⟨x', i, Mi, rfl, hx', rfl, hi, hMi, hoki, hni, hf, hd⟩ ih
    have hc : (nI i).toNatClampNeg = i := nI_clamp (by omega)
    have hle : nI n ≤ nI i ↔ n ≤ i := nI_leI (by omega) (by omega)
    refine ⟨fun q => ?_, fun q => ?_⟩
    · have e : i = n := by have := hle.mp q; omega
      subst e
      rw [Nat.sub_self] at hd
      have hd : Mi = _ := hd
      exact h s4 (by rw [← hd]; exact hMi) (by rw [← hd]; exact hoki) hf
    · have hlt : i < n := Nat.lt_of_not_le (fun z => q (hle.mpr z))
      have hl := lcg_lt x'
      rw [lcg_J hx']
      rintro _ rfl
      rw [lcg_d hl (a := 65536) (b := 6) (la := 65536) (lb := 6) rfl rfl (by decide) (by decide) (by decide) (by decide), lcg_d hl (a := 1024) (b := 8) (la := 1024) (lb := 8) rfl rfl (by decide) (by decide) (by decide) (by decide), lcg_d hl (a := 32768) (b := 6) (la := 32768) (lb := 6) rfl rfl (by decide) (by decide) (by decide) (by decide)]
      rintro _ rfl _ rfl _ rfl
      have m1 := Nat.mod_lt (lcg x' / 65536) (show 0 < 6 by decide)
      have m2 := Nat.mod_lt (lcg x' / 1024) (show 0 < 8 by decide)
      have m3 := Nat.mod_lt (lcg x' / 32768) (show 0 < 6 by decide)
      have hmu : 24 - (nI i + 1).toNatClampNeg < 24 - (nI i).toNatClampNeg := by
        rw [nI_1 i, nI_clamp (by omega), hc]; omega
      have hdd : drawM (n - i) x' Mi = drawM (n - (i + 1)) (lcg x') (if hasB Mi (lcg x' / 65536 % 6) (lcg x' / 1024 % 8) (lcg x' / 32768 % 6) = true then Mi else addW Mi (lcg x' / 65536 % 6) (lcg x' / 1024 % 8) (lcg x' / 32768 % 6)) := by
        obtain ⟨j, hj⟩ : ∃ j, n - i = j + 1 := ⟨n - i - 1, by omega⟩
        rw [hj, show n - (i + 1) = j by omega]
        rfl
      refine t_has hMi hoki (by omega) (by omega) (by omega) ⟨fun z => ?_, fun z => ?_⟩
      · have hb : hasB Mi (lcg x' / 65536 % 6) (lcg x' / 1024 % 8) (lcg x' / 32768 % 6) = true := by
          cases e : hasB Mi (lcg x' / 65536 % 6) (lcg x' / 1024 % 8) (lcg x' / 32768 % 6)
          · rw [e] at z; exact absurd rfl z
          · rfl
        rw [if_pos hb] at hdd
        exact ih _ _ _ ⟨lcg x', i + 1, Mi, rfl, hl, nI_1 i, hlt, hMi, hoki, by omega, hf, by rw [← hdd]; exact hd⟩ hmu
      · have hb := (b01_z _).mp z
        rw [if_neg (by rw [hb]; decide)] at hdd
        refine t_add hMi hoki (by omega) (fun s11 hM11 f11 => ?_)
        have hok2 := drawM_ok hoki x' (by omega)
        rw [if_neg (by rw [hb]; decide)] at hok2
        exact ih _ _ _ ⟨lcg x', i + 1, _, rfl, hl, nI_1 i, hlt, hM11, hok2, by show mN Mi + 1 ≤ i + 1; omega, hf.trans f11, by rw [← hdd]; exact hd⟩ hmu
  · refine ⟨by rw [h1, sF_s]; rfl, ?_, ?_, fun w hw => absurd hw (Nat.not_lt_zero _)⟩
    · rw [h1, sF_1, if_neg (by decide)]; exact hM.2.1
    · rw [h1, sF_1, if_neg (by decide)]; exact hM.2.2.1
