theorem A0s_iff {M : MM} (hok : MOk M) {sn : Int32} {p q c' : Nat} (hq : q < 10) : A0s M sn (10 * p + q) c' ↔ ∃ q', q' < 10 ∧ c' = 10 * p + q' ∧ R1 (Alp M sn) q q' := by
  constructor
  · intro h
    refine h (fun c => ∃ q', q' < 10 ∧ c = 10 * p + q' ∧ R1 (Alp M sn) q q') (fun a e => ⟨q, hq, e, R1.refl q⟩) (fun a b y e => ?_)
    obtain ⟨q', h1, h2, h3⟩ := y
    obtain ⟨w, hw, n1, n2, n3, n4⟩ := e
    have bT := (hok.2.1 w hw).2.2
    exact ⟨mT M w, bT, by omega, h3.step ⟨w, hw, n1, n2, by omega, rfl⟩⟩
  · rintro ⟨q', -, e, h⟩
    rw [e]
    refine h (fun c => A0s M sn (10 * p + q) (10 * p + c)) (fun a e => by rw [e]; exact R1.refl _) (fun a b y e => ?_)
    obtain ⟨w, hw, n1, n2, n3, n4⟩ := e
    have bF := (hok.2.1 w hw).1
    exact y.step ⟨w, hw, n1, n2, by omega, by omega⟩
def RC (B : Nat → Int32) (c : Nat) : Prop := bt (B (c / 10)) (c % 10) = true
theorem RC_i {B : Nat → Int32} {m q : Nat} (hq : q < 10) : RC B (10 * m + q) ↔ bt (B m) q = true := by
  unfold RC
  rw [show (10 * m + q) / 10 = m by omega, show (10 * m + q) % 10 = q by omega]
def PGood (M : MM) (sn : Int32) (B : Nat → Int32) : Prop := ∀ m, m < 20 → (∀ q, bt (B m) q = true → q < 10 ∧ Pc M sn (10 * m + q)) ∧ ∀ q q', bt (B m) q = true → Alp M sn q q' → bt (B m) q' = true
theorem PGood.put {M : MM} (hok : MOk M) {sn : Int32} {G B : Nat → Int32} (hG : TwG M sn G) (hB : PGood M sn B) {w i : Nat} (hw : w < mN M) (hi : i = mF M w ∨ i = mF M w + 10) {r : Int32} (hr : ∀ j, bt r j = true ↔ PTr sn G (mD M w) (B i) j) : PGood M sn (upd B (mkB M w i) (B (mkB M w i) ||| r)) := by
  have bb := hok.2.1 w hw
  have hi20 : i < 20 := by omega
  intro m hm
  refine ⟨fun q h => ?_, fun q q' h ha => ?_⟩
  · rcases upd_or.mp h with hh | ⟨e, hh⟩
    · exact (hB m hm).1 q hh
    · subst e
      rcases (hr q).mp hh with ⟨h1, h2⟩ | ⟨h1, p, hp, h2, h3⟩
      · obtain ⟨hq, hc⟩ := (hB i hi20).1 q h2
        refine ⟨hq, hc.step (Or.inl ⟨w, hw, by omega, Or.inl ⟨h1, ?_⟩⟩)⟩
        rw [show (10 * i + q) / 10 = i by omega, show (10 * i + q) % 10 = q by omega]
      · obtain ⟨hq, hc⟩ := (hB i hi20).1 p h2
        obtain ⟨-, h4, v, hv, h5, h6, h7⟩ := (hG _ p bb.2.1 hp q).mp h3
        have bv := (hok.2.1 v hv).2.2
        have hq' : q < 10 := R1.lt (fun x y e => (e.lt hok).2) bv h7
        have s1 : PE M sn (10 * i + p) (10 * mkB M w i + mT M v) := by
          refine Or.inl ⟨w, hw, by omega, Or.inr ⟨h1, h4, v, hv, h5, by omega, ?_⟩⟩
          rw [show (10 * i + p) / 10 = i by omega]
        have s2 : R1 (PE M sn) (10 * mkB M w i + mT M v) (10 * mkB M w i + q) := R1.mono ((A0s_iff hok bv).mpr ⟨q, hq', rfl, h7⟩) (fun _ _ e => Or.inr e)
        exact ⟨hq', (hc.step s1).trans s2⟩
  · rcases upd_or.mp h with hh | ⟨e, hh⟩
    · exact upd_or.mpr (Or.inl ((hB m hm).2 q q' hh ha))
    · subst e
      refine upd_or.mpr (Or.inr ⟨rfl, (hr q').mpr ?_⟩)
      rcases (hr q).mp hh with ⟨h1, h2⟩ | ⟨h1, p, hp, h2, h3⟩
      · exact Or.inl ⟨h1, (hB i hi20).2 q q' h2 ha⟩
      · obtain ⟨h0, h4, v, hv, h5, h6, h7⟩ := (hG _ p bb.2.1 hp q).mp h3
        exact Or.inr ⟨h1, p, hp, h2, (hG _ p bb.2.1 hp q').mpr ⟨h0, h4, v, hv, h5, h6, h7.step ha⟩⟩
theorem PTr.mono {sn : Int32} {G : Nat → Int32} {d : Nat} {S S' : Int32} {j : Nat} (hS : ∀ q, bt S q = true → bt S' q = true) (h : PTr sn G d S j) : PTr sn G d S' j := by
  rcases h with ⟨a, b⟩ | ⟨a, q, hq, b, c⟩
  · exact Or.inl ⟨a, hS _ b⟩
  · exact Or.inr ⟨a, q, hq, hS _ b, c⟩
theorem t_growPairs {σ : ft_St} {k : Nat} {M : MM} {Φ : Int32 → ft_St → Prop} (hk : Kt k) (hM : RepM σ 2 M) (hok : MOk M) (hG : TwG M (σ.1 k 0) (σ.2.1 (k + 2))) (hA : PGood M (σ.1 k 0) (σ.2.1 (k + 3))) (h : ∀ x B, ft_bz x → PGood M (σ.1 k 0) B → (∀ m q, bt (σ.2.1 (k + 3) m) q = true → bt (B m) q = true) → (∀ w i, w < mN M → (i = mF M w ∨ i = mF M w + 10) → ∀ j, PTr (σ.1 k 0) (σ.2.1 (k + 2)) (mD M w) (σ.2.1 (k + 3) i) j → bt (B (mkB M w i)) j = true) → (x = 0 → B = σ.2.1 (k + 3)) → (¬ x = 0 → ∃ m q, m < 20 ∧ bt (B m) q = true ∧ ¬ bt (σ.2.1 (k + 3) m) q = true) → Φ x (ft_sA σ (k + 3) B)) : w_X6_growPairs k σ Φ := by
  have hn := hok.1
  unfold w_X6_growPairs
  obtain ⟨A, eA⟩ : ∃ A, A = σ.2.1 (k + 3) := ⟨_, rfl⟩
  obtain ⟨G, eG⟩ : ∃ G, G = σ.2.1 (k + 2) := ⟨_, rfl⟩
  obtain ⟨sn, esn⟩ : ∃ sn, sn = σ.1 k 0 := ⟨_, rfl⟩
  rw [← eA, ← eG, ← esn] at h
  rw [← eA, ← esn] at hA
  rw [← eG, ← esn] at hG
  refine LP3.rule (fun x1 x2 s3 => ∃ (w : Nat) (B : Nat → Int32), x2 = nI w ∧ w ≤ mN M ∧ ft_bz x1 ∧ s3 = ft_sA σ (k + 3) B ∧ PGood M sn B ∧ (∀ m q, bt (A m) q = true → bt (B m) q = true) ∧ (∀ v i, v < w → (i = mF M v ∨ i = mF M v + 10) → ∀ j, PTr sn G (mD M v) (A i) j → bt (B (mkB M v i)) j = true) ∧ (x1 = 0 → B = A) ∧ (¬ x1 = 0 → ∃ m q, m < 20 ∧ bt (B m) q = true ∧ ¬ bt (A m) q = true)) (fun _ x2 _ => 24 - x2.toNatClampNeg) ?_ ⟨0, A, rfl, Nat.zero_le _, Or.inl rfl, by rw [eA]; exact (sA_self σ (k + 3)).symm, hA, fun _ _ q => q, fun v i hv => absurd hv (Nat.not_lt_zero _), fun _ => rfl, fun z => absurd rfl z⟩
  rintro X4 x1 x2 s3 ⟨w, B, rfl, hw, hbz, hs3, hgd, hsub, hst, hz, hnz⟩ ih
  have hf3 : FrC (tc k) σ s3 := by rw [hs3]; exact FrC.sA σ _ ⟨by omega, by omega⟩
  have hM3 : RepM s3 2 M := hM.tw hk hf3
  have hc : (nI w).toNatClampNeg = w := nI_clamp (by omega)
  rw [hM3.1]
  have hle : nI (mN M) ≤ nI w ↔ mN M ≤ w := nI_leI (by omega) (by omega)
  refine ⟨fun q => ⟨hbz, ?_⟩, fun q => ?_⟩
  · have e : w = mN M := by have := hle.mp q; omega
    subst e
    rw [hs3]
    exact h x1 B hbz hgd hsub hst hz hnz
  · have hlt : w < mN M := Nat.lt_of_not_le (fun z => q (hle.mpr z))
    obtain ⟨hF, hD, hT⟩ := hM3.2.2.2 w hlt
    obtain ⟨bF, bD, bT⟩ := hok.2.1 w hlt
    have hin : vp_in (nI w) 24 := vp_in_nI (by omega) (by decide)
    have hmu : 24 - (nI w + 1).toNatClampNeg < 24 - (nI w).toNatClampNeg := by
      rw [nI_1 w, nI_clamp (by omega), hc]; omega
    rw [hc, show s3.2.1 3 w = nI (mF M w) from hF]
    refine ⟨hin, ?_⟩
    rintro _ rfl
    intro X9 hX9
    have step : ∀ i, (i = mF M w ∨ i = mF M w + 10) → ∀ (x6 : Int32) (s8 : ft_St) (B8 : Nat → Int32), ft_bz x6 → s8 = ft_sA σ (k + 3) B8 → PGood M sn B8 → (∀ m q, bt (A m) q = true → bt (B8 m) q = true) → (x6 = 0 → B8 = A) → (¬ x6 = 0 → ∃ m q, m < 20 ∧ bt (B8 m) q = true ∧ ¬ bt (A m) q = true) → (∀ (x' : Int32) (s' : ft_St) (B' : Nat → Int32), ft_bz x' → s' = ft_sA σ (k + 3) B' → PGood M sn B' → (∀ m q, bt (B8 m) q = true → bt (B' m) q = true) → (∀ j, PTr sn G (mD M w) (A i) j → bt (B' (mkB M w i)) j = true) → (x' = 0 → B' = A) → (¬ x' = 0 → ∃ m q, m < 20 ∧ bt (B' m) q = true ∧ ¬ bt (A m) q = true) → X9 x' (nI (i + 10)) s') → X9 x6 (nI i) s8 := by
      intro i hi x6 s8 B8 hb6 hs8 hgd8 hsub8 hz6 hnz6 kk
      have hi20 : i < 20 := by omega
      have hf8 : FrC (tc k) σ s8 := by rw [hs8]; exact FrC.sA σ _ ⟨by omega, by omega⟩
      have hM8 : RepM s8 2 M := hM.tw hk hf8
      have hD8 := (hM8.2.2.2 w hlt).2.1
      have e81 : s8.1 k 0 = sn := by rw [hs8, esn]; rfl
      have e82 : s8.2.1 (k + 2) = G := by rw [hs8, sA_n _ _ (by omega), eG]
      have e83 : s8.2.1 (k + 3) = B8 := by rw [hs8, sA_s]
      have hmk := mkB_lt hok (i := i) hlt
      have hinm : vp_in (nI (mkB M w i)) 20 := vp_in_nI hmk (by decide)
      refine hX9 _ _ _ ⟨fun z => absurd ((nI_leI (a := 20) (by decide) (by omega)).mp z) (by omega), fun _ => t_markBehind hM8 hok hlt hi20 ?_⟩
      refine ⟨hinm, hin, vp_in_nI hi20 (by decide), ?_⟩
      rw [e83, nI_clamp (show i < 2 ^ 31 by omega), nI_clamp (show mkB M w i < 2 ^ 31 by omega), show s8.2.1 4 w = nI (mD M w) from hD8]
      refine t_partners bD (fun r hr => ?_)
      rw [e81, e82] at hr
      rintro _ rfl
      have good := hgd8.put hok hG hlt hi hr
      have grow : ∀ m q, bt (B8 m) q = true → bt (upd B8 (mkB M w i) (B8 (mkB M w i) ||| r) m) q = true := fun m q y => upd_or.mpr (Or.inl y)
      have fin : ∀ x', ft_bz x' → (x' = 0 → upd B8 (mkB M w i) (B8 (mkB M w i) ||| r) = A) → (¬ x' = 0 → ∃ m q, m < 20 ∧ bt (upd B8 (mkB M w i) (B8 (mkB M w i) ||| r) m) q = true ∧ ¬ bt (A m) q = true) → vp_in (nI (mkB M w i)) 20 ∧ ∀ s15 : ft_St, s15 = ft_sA s8 (k + 3) (upd B8 (mkB M w i) (B8 (mkB M w i) ||| r)) → X9 x' (nI i + 10) s15 := by
        intro x' hb' h0 h1
        refine ⟨hinm, fun s15 h15 => ?_⟩
        rw [show nI i + 10 = nI (i + 10) from nI_add i 10]
        refine kk x' s15 _ hb' (by rw [h15, hs8, sA_sA]) good grow (fun j y => upd_or.mpr (Or.inr ⟨rfl, (hr j).mpr (y.mono (hsub8 i))⟩)) h0 h1
      have one : (∃ m q, m < 20 ∧ bt (upd B8 (mkB M w i) (B8 (mkB M w i) ||| r) m) q = true ∧ ¬ bt (A m) q = true) → vp_in (nI (mkB M w i)) 20 ∧ ∀ s15 : ft_St, s15 = ft_sA s8 (k + 3) (upd B8 (mkB M w i) (B8 (mkB M w i) ||| r)) → X9 1 (nI i + 10) s15 := fun y => fin 1 (Or.inr rfl) (fun z => absurd z (by decide)) (fun _ => y)
      intro J14 hJ14
      intro J16 hJ16
      refine ⟨fun z => hJ16 (hJ14 1 (one ?_)), fun z => ⟨hinm, fun z2 => hJ14 0 (fin 0 (Or.inl rfl) (fun _ => ?_) (fun y => absurd rfl y)), fun z2 => hJ16 (hJ14 1 (one ?_))⟩⟩
      · obtain ⟨m, p, h1, h2, h3⟩ := hnz6 z
        exact ⟨m, p, h1, grow m p h2, h3⟩
      · rw [z2, upd_self]; exact hz6 z
      · refine Classical.byContradiction (fun hno => z2 ?_)
        refine b_extI (fun j hj => ⟨fun y => ?_, fun y => (b_orI _ _ _).mpr (Or.inl y)⟩)
        refine Classical.byContradiction (fun y2 => hno ⟨mkB M w i, j, hmk, by rw [upd_s]; exact y, ?_⟩)
        rw [← hz6 z]; exact y2
    refine step (mF M w) (Or.inl rfl) x1 s3 B hbz hs3 hgd hsub hz hnz (fun xa sa Ba hba hsa hga hsuba hta hza hnza => step (mF M w + 10) (Or.inr rfl) xa sa Ba hba hsa hga (fun m p y => hsuba m p (hsub m p y)) hza hnza (fun xb sb Bb hbb hsb hgb hsubb htb hzb hnzb => ?_))
    refine hX9 _ _ _ ⟨fun _ => ?_, fun z => absurd ((nI_leI (a := 20) (by decide) (show mF M w + 10 + 10 < 2 ^ 31 by omega)).mpr (by omega)) z⟩
    refine ih _ _ _ ⟨w + 1, Bb, nI_1 w, hlt, hbb, hsb, hgb, fun m p y => hsubb m p (hsuba m p (hsub m p y)), fun v i hv hi j y => ?_, hzb, hnzb⟩ hmu
    by_cases e : v = w
    · subst e
      rcases hi with hi | hi
      · subst hi; exact hsubb _ _ (hta j y)
      · subst hi; exact htb j y
    · exact hsubb _ _ (hsuba _ _ (hst v i (by omega) hi j y))
def TwP (M : MM) (sn : Int32) (P : Nat → Int32) : Prop := ∀ m, m < 20 → ∀ q, bt (P m) q = true ↔ q < 10 ∧ Pc M sn (10 * m + q)
theorem t_findPairs {σ : ft_St} {k : Nat} {M : MM} {Φ : ft_St → Prop} (hk : Kt k) (hM : RepM σ 2 M) (hok : MOk M) (hA : TwA M (σ.1 k 0) (σ.2.1 (k + 1))) (hG : TwG M (σ.1 k 0) (σ.2.1 (k + 2))) (h : ∀ P, TwP M (σ.1 k 0) P → Φ (ft_sA σ (k + 3) P)) : w_X6_findPairs k σ Φ := by
  unfold w_X6_findPairs
  have hN : cC_N (k + 3) = 20 := by rcases hk with rfl | rfl <;> rfl
  refine t_fill (by rw [hN]; decide) (fun g hg => ?_)
  rw [hN] at hg
  obtain ⟨sn, esn⟩ : ∃ sn, sn = σ.1 k 0 := ⟨_, rfl⟩
  rw [← esn] at h hA hG
  refine ⟨vp_in_nI (n := 0) (by decide) (by decide), vp_in_nI (n := 0) (by decide) (by decide), fun s2 h2 => ?_⟩
  have c0 : Int32.toNatClampNeg 0 = 0 := rfl
  rw [c0, sA_s, sA_n _ _ (show k + 1 ≠ k + 3 by omega), sA_sA] at h2
  have i0 : PGood M sn (upd g 0 (σ.2.1 (k + 1) 0)) := by
    intro m hm
    by_cases e : m = 0
    · subst e
      rw [upd_s]
      refine ⟨fun q y => ?_, fun q q' y ha => (hA 0 (by decide) q').mpr (((hA 0 (by decide) q).mp y).step ha)⟩
      have r := (hA 0 (by decide) q).mp y
      have hq : q < 10 := R1.lt (fun x y e => (e.lt hok).2) (by decide) r
      exact ⟨hq, R1.mono ((A0s_iff (p := 0) hok (show 0 < 10 by decide)).mpr ⟨q, hq, rfl, r⟩) (fun _ _ e => Or.inr e)⟩
    · rw [upd_n e, hg m hm]
      exact ⟨fun q y => (by rw [b_0] at y; cases y), fun q q' y => (by rw [b_0] at y; cases y)⟩
  refine LP3.rule (fun x3 x4 s5 => ∃ (r : Nat) (P : Nat → Int32), x4 = nI r ∧ r ≤ 200 ∧ ft_bz x3 ∧ s5 = ft_sA σ (k + 3) P ∧ PGood M sn P ∧ bt (P 0) 0 = true ∧ (x3 = 0 → ∀ w i, w < mN M → (i = mF M w ∨ i = mF M w + 10) → ∀ j, PTr sn (σ.2.1 (k + 2)) (mD M w) (P i) j → bt (P (mkB M w i)) j = true) ∧ (¬ x3 = 0 → r + 1 ≤ cnt (RC P) 200)) (fun _ x4 _ => 200 - x4.toNatClampNeg) ?_ ⟨0, _, rfl, by decide, Or.inr rfl, h2, i0, ?_, fun z => absurd z (by decide), fun _ => cnt_pos.mpr ⟨0, by decide, ?_⟩⟩
  · rintro X6 x3 x4 s5 ⟨r, P, rfl, hr, hb3, hs5, hgd, h00, hcl, hct⟩ ih
    have hc : (nI r).toNatClampNeg = r := nI_clamp (by omega)
    have hle : (200 : Int32) ≤ nI r ↔ 200 ≤ r := nI_leI (a := 200) (by decide) (by omega)
    have fin : x3 = 0 → Φ s5 := by
      intro z
      rw [hs5]
      refine h P (fun m hm q => ⟨(hgd m hm).1 q, fun y => ?_⟩)
      have key : ∀ c, Pc M sn c → c < 200 ∧ RC P c := by
        intro c hcc
        refine hcc (fun c => c < 200 ∧ RC P c) (fun a e => by rw [e]; exact ⟨by decide, h00⟩) (fun a b y e => ?_)
        refine ⟨PE.lt hok y.1 e, ?_⟩
        have ha : a / 10 < 20 := by omega
        rcases e with ⟨w, hw, h1, e⟩ | ⟨w, hw, n1, n2, n3, e⟩
        · have bb := hok.2.1 w hw
          have hmk := mkB_lt hok (i := a / 10) hw
          rcases e with ⟨n1, e⟩ | ⟨n1, n2, v, hv, n3, n4, e⟩
          · rw [e, RC_i (by omega)]
            exact hcl z w (a / 10) hw h1 _ (Or.inl ⟨n1, y.2⟩)
          · have bv := (hok.2.1 v hv).2.2
            rw [e, RC_i (by omega)]
            exact hcl z w (a / 10) hw h1 _ (Or.inr ⟨n1, a % 10, by omega, y.2, (hG _ _ bb.2.1 (by omega) _).mpr ⟨n1, n2, v, hv, n3, n4, R1.refl _⟩⟩)
        · have bb := hok.2.1 w hw
          rw [e, RC_i bb.2.2]
          exact (hgd _ ha).2 _ _ y.2 ⟨w, hw, n1, n2, n3.symm, rfl⟩
      exact (RC_i y.1).mp (key _ y.2).2
    refine ⟨fun q => ?_, fun q => ⟨fun z => fin z, fun z => ?_⟩⟩
    · refine fin (Classical.byContradiction (fun z => ?_))
      have h1 := hct z
      have h3 := cnt_le (RC P) 200
      have := hle.mp q
      omega
    · have hr200 : r < 200 := Nat.lt_of_not_le (fun y => q (hle.mpr y))
      have hf5 : FrC (tc k) σ s5 := by rw [hs5]; exact FrC.sA σ _ ⟨by omega, by omega⟩
      have e1 : s5.1 k 0 = sn := by rw [hs5, esn]; rfl
      have e2 : s5.2.1 (k + 2) = σ.2.1 (k + 2) := by rw [hs5, sA_n _ _ (by omega)]
      have e3 : s5.2.1 (k + 3) = P := by rw [hs5, sA_s]
      have hmu : 200 - (nI r + 1).toNatClampNeg < 200 - (nI r).toNatClampNeg := by
        rw [nI_1 r, nI_clamp (by omega), hc]; omega
      refine t_growPairs hk (hM.tw hk hf5) hok (by rw [e1, e2]; exact hG) (by rw [e1, e3]; exact hgd) (fun x B hbx hgB hsub hst hz hnz => ?_)
      rw [e1, e2, e3] at hst
      rw [e1] at hgB
      rw [e3] at hsub hz hnz
      refine ih _ _ _ ⟨r + 1, B, nI_1 r, hr200, hbx, by rw [hs5, sA_sA], hgB, hsub 0 0 h00, fun y => ?_, fun y => ?_⟩ hmu
      · have eB := hz y
        rw [eB] at hst ⊢
        exact hst
      · have h1 := hct z
        obtain ⟨m, p, hm, y1, y2⟩ := hnz y
        have hp := ((hgB m hm).1 p y1).1
        have h3 : cnt (RC P) 200 < cnt (RC B) 200 := cnt_lt (fun c _ y => hsub _ _ y) ⟨10 * m + p, by omega, (RC_i hp).mpr y1, fun y => y2 ((RC_i hp).mp y)⟩
        omega
  · rw [upd_s]; exact (hA 0 (by decide) 0).mpr (R1.refl 0)
  · show bt (upd g 0 (σ.2.1 (k + 1) 0) 0) 0 = true
    rw [upd_s]; exact (hA 0 (by decide) 0).mpr (R1.refl 0)
/-! counting rows -/
theorem cnt_split (P : Nat → Prop) (n m : Nat) : cnt P (n + m) = cnt P n + cnt (fun j => P (n + j)) m := fb_ct_split (pd P) n m
theorem t_countOf {σ : ft_St} {k0 a : Nat} {Φ : Int32 → Prop} (hN : cC_N k0 ≤ 20) (ha : a ≤ cC_N k0) (hlo : ∀ i, i < cC_N k0 → ∀ q, bt (σ.2.1 k0 i) q = true → q < 10) (h : Φ (nI (cnt (fun e => RC (σ.2.1 k0) (10 * a + e)) (10 * (cC_N k0 - a))))) : w_X6_countOf k0 (nI a) σ Φ := by
  unfold w_X6_countOf
  refine LP2.rule (fun x1 x2 => ∃ i, x2 = nI i ∧ a ≤ i ∧ i ≤ cC_N k0 ∧ x1 = nI (cnt (fun e => RC (σ.2.1 k0) (10 * a + e)) (10 * (i - a)))) (fun _ x2 => 20 - x2.toNatClampNeg) ?_ ⟨a, rfl, Nat.le_refl _, ha, by rw [Nat.sub_self]; rfl⟩
  rintro X x1 x2 ⟨i, rfl, hai, hi, rfl⟩ ih
  have hc : (nI i).toNatClampNeg = i := nI_clamp (by omega)
  have hle : nI (cC_N k0) ≤ nI i ↔ cC_N k0 ≤ i := nI_leI (by omega) (by omega)
  refine ⟨fun q => ?_, fun q => ?_⟩
  · have e : i = cC_N k0 := by have := hle.mp q; omega
    subst e; exact h
  · have hlt : i < cC_N k0 := Nat.lt_of_not_le (fun z => q (hle.mpr z))
    rw [hc]
    refine ⟨vp_in_nI hlt (by omega), t_bitCount (fun j y => by have := hlo i hlt j y; omega) ?_⟩
    rw [cnt_cut (a := 10) (b := 20) (by decide) (fun j y => hlo i hlt j y), nI_add]
    refine ih _ _ ⟨i + 1, nI_1 i, by omega, hlt, ?_⟩ (by rw [nI_1 i, nI_clamp (by omega), hc]; omega)
    rw [show 10 * (i + 1 - a) = 10 * (i - a) + 10 by omega, cnt_split]
    congr 2
    refine cnt_congr (fun j hj => ?_)
    rw [show 10 * a + (10 * (i - a) + j) = 10 * i + j by omega, RC_i hj]
