def lo10 (B : Nat → Int32) : Prop := ∀ p, p < 10 → ∀ q, bt (B p) q = true → q < 10
theorem t_goOn {σ : ft_St} {k k1 k2 : Nat} {M : MM} {Φ : ft_St → Prop} (hk : Kt k) (hk1 : k + 4 ≤ k1 ∧ k1 ≤ k + 6) (hk2 : k + 4 ≤ k2 ∧ k2 ≤ k + 6) (hne : k1 ≠ k2) (hM : RepM σ 2 M) (hok : MOk M) (hG : TwG M (σ.1 k 0) (σ.2.1 (k + 2))) (hS : lo10 (σ.2.1 k1)) (h : ∀ E, lo10 E → (∀ c', c' < 100 → (RC E c' ↔ ∃ c, c < 100 ∧ RC (σ.2.1 k1) c ∧ MA M (σ.1 k 0) c c')) → Φ (ft_sA σ k2 E)) : w_X6_goOn k k1 k2 σ Φ := by
  have hn := hok.1
  have N1 : cC_N k1 = 10 := by
    rcases hk with rfl | rfl
    · rcases (show k1 = 63 ∨ k1 = 64 ∨ k1 = 65 by omega) with e | e | e <;> rw [e] <;> rfl
    · rcases (show k1 = 70 ∨ k1 = 71 ∨ k1 = 72 by omega) with e | e | e <;> rw [e] <;> rfl
  have N2 : cC_N k2 = 10 := by
    rcases hk with rfl | rfl
    · rcases (show k2 = 63 ∨ k2 = 64 ∨ k2 = 65 by omega) with e | e | e <;> rw [e] <;> rfl
    · rcases (show k2 = 70 ∨ k2 = 71 ∨ k2 = 72 by omega) with e | e | e <;> rw [e] <;> rfl
  unfold w_X6_goOn
  rw [N1, N2]
  refine t_fill (by rw [N2]; decide) (fun g hg => ?_)
  rw [N2] at hg
  obtain ⟨S, eS⟩ : ∃ S, S = σ.2.1 k1 := ⟨_, rfl⟩
  obtain ⟨G, eG⟩ : ∃ G, G = σ.2.1 (k + 2) := ⟨_, rfl⟩
  obtain ⟨sn, esn⟩ : ∃ sn, sn = σ.1 k 0 := ⟨_, rfl⟩
  rw [← eS] at hS
  rw [← eG, ← esn] at hG
  rw [← eS, ← esn] at h
  refine LP2.rule (fun x2 s3 => ∃ (w : Nat) (B : Nat → Int32), x2 = nI w ∧ w ≤ mN M ∧ s3 = ft_sA σ k2 B ∧ ∀ p, p < 10 → ∀ q', bt (B p) q' = true ↔ ∃ v, v < w ∧ mT M v = p ∧ PTr sn G (mD M v) (S (mF M v)) q') (fun x2 _ => 24 - x2.toNatClampNeg) ?_ ⟨0, g, rfl, Nat.zero_le _, rfl, fun p hp q' => ?_⟩
  · rintro X4 x2 s3 ⟨w, B, rfl, hw, hs3, hB⟩ ih
    have hf3 : FrC (tc k) σ s3 := by rw [hs3]; exact FrC.sA σ _ ⟨by omega, by omega⟩
    have hM3 : RepM s3 2 M := hM.tw hk hf3
    have e1 : s3.1 k 0 = sn := by rw [hs3, esn]; rfl
    have e2 : s3.2.1 (k + 2) = G := by rw [hs3, sA_n _ _ (by omega), eG]
    have ek1 : s3.2.1 k1 = S := by rw [hs3, sA_n _ _ hne, eS]
    have ek2 : s3.2.1 k2 = B := by rw [hs3, sA_s]
    have hc : (nI w).toNatClampNeg = w := nI_clamp (by omega)
    rw [hM3.1]
    have hle : nI (mN M) ≤ nI w ↔ mN M ≤ w := nI_leI (by omega) (by omega)
    refine ⟨fun q => ?_, fun q => ?_⟩
    · have e : w = mN M := by have := hle.mp q; omega
      subst e
      rw [hs3]
      refine h B (fun p hp q' y => ?_) (fun c' hc' => ?_)
      · obtain ⟨v, hv, h1, y⟩ := (hB p hp q').mp y
        have bv := hok.2.1 v hv
        rcases y with ⟨-, y⟩ | ⟨-, q, hq, -, y⟩
        · exact hS _ bv.1 _ y
        · obtain ⟨-, -, u, hu, -, -, r⟩ := (hG _ q bv.2.1 hq q').mp y
          exact R1.lt (fun x y e => (e.lt hok).2) (hok.2.1 u hu).2.2 r
      · unfold RC
        rw [hB (c' / 10) (by omega) (c' % 10)]
        constructor
        · rintro ⟨v, hv, h1, y⟩
          have bv := hok.2.1 v hv
          rcases y with ⟨n1, y⟩ | ⟨n1, q, hq, y1, y⟩
          · refine ⟨10 * mF M v + c' % 10, by omega, ?_, v, hv, by omega, Or.inl ⟨n1, by omega⟩⟩
            rw [show (10 * mF M v + c' % 10) / 10 = mF M v by omega, show (10 * mF M v + c' % 10) % 10 = c' % 10 by omega]
            exact y
          · obtain ⟨-, n2, u, hu, n3, n4, r⟩ := (hG _ q bv.2.1 hq _).mp y
            have bu := (hok.2.1 u hu).2.2
            refine ⟨10 * mF M v + q, by omega, ?_, v, hv, by omega, Or.inr ⟨n1, n2, u, hu, n3, by omega, (A0s_iff hok bu).mpr ⟨c' % 10, by omega, by omega, r⟩⟩⟩
            rw [show (10 * mF M v + q) / 10 = mF M v by omega, show (10 * mF M v + q) % 10 = q by omega]
            exact y1
        · rintro ⟨c, hcc, y1, v, hv, h1, y⟩
          have bv := hok.2.1 v hv
          rcases y with ⟨n1, y⟩ | ⟨n1, n2, u, hu, n3, n4, y⟩
          · refine ⟨v, hv, by omega, Or.inl ⟨n1, ?_⟩⟩
            rw [h1, show c' % 10 = c % 10 by omega]; exact y1
          · have bu := (hok.2.1 u hu).2.2
            obtain ⟨q', hq', e, r⟩ := (A0s_iff hok bu).mp y
            refine ⟨v, hv, by omega, Or.inr ⟨n1, c % 10, by omega, by rw [h1]; exact y1, ?_⟩⟩
            refine (hG _ _ bv.2.1 (by omega) _).mpr ⟨n1, n2, u, hu, n3, n4, ?_⟩
            rw [show c' % 10 = q' by omega]; exact r
    · have hlt : w < mN M := Nat.lt_of_not_le (fun z => q (hle.mpr z))
      obtain ⟨hF, hD, hT⟩ := hM3.2.2.2 w hlt
      obtain ⟨bF, bD, bT⟩ := hok.2.1 w hlt
      have hin : vp_in (nI w) 24 := vp_in_nI (by omega) (by decide)
      have hinT : vp_in (nI (mT M w)) 10 := vp_in_nI bT (by decide)
      have hmu : 24 - (nI w + 1).toNatClampNeg < 24 - (nI w).toNatClampNeg := by
        rw [nI_1 w, nI_clamp (by omega), hc]; omega
      rw [hc, show s3.2.1 4 w = nI (mD M w) from hD, show s3.2.1 3 w = nI (mF M w) from hF, show s3.2.1 5 w = nI (mT M w) from hT, nI_clamp (show mF M w < 2 ^ 31 by omega), nI_clamp (show mT M w < 2 ^ 31 by omega), ek1, ek2]
      refine ⟨hin, hinT, hin, hin, vp_in_nI bF (by decide), t_partners bD (fun r hr => ⟨hinT, fun s6 h6 => ?_⟩)⟩
      rw [e1, e2] at hr
      refine ih _ _ ⟨w + 1, _, nI_1 w, hlt, by rw [h6, hs3, sA_sA], fun p hp q' => ?_⟩ hmu
      rw [upd_or, hB p hp q', hr q']
      constructor
      · rintro (⟨v, hv, y⟩ | ⟨e, y⟩)
        · exact ⟨v, by omega, y⟩
        · exact ⟨w, by omega, e.symm, y⟩
      · rintro ⟨v, hv, y1, y2⟩
        by_cases e : v = w
        · subst e; exact Or.inr ⟨y1.symm, y2⟩
        · exact Or.inl ⟨v, by omega, y1, y2⟩
  · rw [hg p hp, b_0]
    constructor
    · intro z; cases z
    · rintro ⟨v, hv, _⟩; omega
theorem Im.lt {M : MM} (hok : MOk M) {sn : Int32} {S : Nat → Prop} (hS : ∀ c, S c → c < 100) : ∀ (k c : Nat), Im M sn S k c → c < 100
  | 0, c, h => hS c h
  | k + 1, c, h => by
    obtain ⟨a, -, h2⟩ := h
    obtain ⟨b, h3, h4⟩ := h2.of
    exact h4.lt hok (h3.lt hok).2
theorem Im.CD_pred {M : MM} (hok : MOk M) {sn : Int32} : ∀ (k c : Nat), Im M sn (CD M sn) (k + 1) c → Im M sn (CD M sn) k c
  | 0, c, h => by
    obtain ⟨a, h1, h2⟩ := h
    obtain ⟨b, h3, h4⟩ := h2.of
    exact (CD.cl hok).s (CD.m hok h1 h3) h4
  | k + 1, c, h => by
    obtain ⟨a, h1, h2⟩ := h
    exact ⟨a, Im.CD_pred hok k a h1, h2⟩
theorem t_findDelay {σ : ft_St} {k : Nat} {M : MM} {Φ : Int32 → ft_St → Prop} (hk : Kt k) (hM : RepM σ 2 M) (hok : MOk M) (hG : TwG M (σ.1 k 0) (σ.2.1 (k + 2))) (hP : TwP M (σ.1 k 0) (σ.2.1 (k + 3))) (h : ∀ r H A, IsDly M (σ.1 k 0) r → Φ r (ft_sA (ft_sA σ (k + 4) H) (k + 5) A)) : w_X6_findDelay k σ Φ := by
  have N4 : cC_N (k + 4) = 10 := by rcases hk with rfl | rfl <;> rfl
  have N5 : cC_N (k + 5) = 10 := by rcases hk with rfl | rfl <;> rfl
  unfold w_X6_findDelay
  intro s1 h1
  obtain ⟨sn, esn⟩ : ∃ sn, sn = σ.1 k 0 := ⟨_, rfl⟩
  rw [← esn] at h hG hP
  have c0 : Int32.toNatClampNeg 0 = 0 := rfl
  have c10 : Int32.toNatClampNeg 10 = 10 := rfl
  rw [c0, c10] at h1 ⊢
  obtain ⟨H0, eH0⟩ : ∃ H0, H0 = va_cpy (σ.2.1 (k + 3)) (σ.2.1 (k + 4)) 10 0 10 := ⟨_, rfl⟩
  rw [← eH0] at h1
  have r0 : ∀ p, p < 10 → H0 p = σ.2.1 (k + 3) (10 + p) := by
    intro p hp
    rw [eH0, pk_cpy_in (Nat.zero_le _) (by omega), Nat.sub_zero]
  have lo0 : lo10 H0 := fun p hp q y => by
    rw [r0 p hp] at y
    exact ((hP (10 + p) (by omega) q).mp y).1
  have im0 : ∀ c, c < 100 → (RC H0 c ↔ Im M sn (CD M sn) 0 c) := by
    intro c hc
    unfold RC
    rw [r0 _ (by omega), hP _ (by omega)]
    show _ ↔ CD M sn c
    unfold CD
    rw [show 10 * (10 + c / 10) + c % 10 = 100 + c by omega]
    exact ⟨fun y => ⟨hc, y.2⟩, fun y => ⟨by omega, y.2⟩⟩
  have cnt0 : ∀ (B : Nat → Int32) (s : ft_St) (j : Nat) (Ψ : Int32 → Prop) (i : Nat), cC_N i = 10 → s.2.1 i = B → lo10 B → (∀ c, c < 100 → (RC B c ↔ Im M sn (CD M sn) j c)) → Ψ (nI (cnt (Im M sn (CD M sn) j) 100)) → w_X6_countOf i 0 s Ψ := by
    intro B s j Ψ i hN hB hlo him hΨ
    refine t_countOf (a := 0) (by rw [hN]; decide) (Nat.zero_le _) (fun p hp q y => ?_) ?_
    · rw [hN] at hp
      rw [hB] at y
      exact hlo p hp q y
    · rw [hN, hB]
      have e : cnt (fun e => RC B (10 * 0 + e)) (10 * (10 - 0)) = cnt (Im M sn (CD M sn) j) 100 := cnt_congr (fun c hc => by
        rw [show 10 * 0 + c = c by omega]
        exact him c hc)
      rw [e]; exact hΨ
  refine cnt0 H0 s1 0 _ (k + 4) N4 (by rw [h1, sA_s]) lo0 im0 ?_
  have self5 : s1 = ft_sA (ft_sA σ (k + 4) H0) (k + 5) (σ.2.1 (k + 5)) := by
    rw [h1]
    have e : (ft_sA σ (k + 4) H0).2.1 (k + 5) = σ.2.1 (k + 5) := sA_n _ _ (by omega)
    rw [← e, sA_self]
  refine LP3.rule (fun x3 x4 s5 => ∃ (j : Nat) (H A : Nat → Int32), x4 = nI j ∧ x3 = nI (cnt (Im M sn (CD M sn) j) 100) ∧ s5 = ft_sA (ft_sA σ (k + 4) H) (k + 5) A ∧ lo10 H ∧ (∀ c, c < 100 → (RC H c ↔ Im M sn (CD M sn) j c)) ∧ j + cnt (Im M sn (CD M sn) j) 100 ≤ 100 ∧ ∀ i, i < j → DW M sn (i + 1)) (fun _ x4 _ => 101 - x4.toNatClampNeg) ?_ ⟨0, H0, _, rfl, rfl, self5, lo0, im0, by rw [Nat.zero_add]; exact cnt_le _ _, fun i hi => absurd hi (Nat.not_lt_zero _)⟩
  rintro X6 x3 x4 s5 ⟨j, H, A, rfl, rfl, hs5, hlo, him, hle, hdw⟩ ih
  have hc : (nI j).toNatClampNeg = j := nI_clamp (by omega)
  have hlt : (100 : Int32) < nI j ↔ 100 < j := nI_ltI (a := 100) (by decide) (by omega)
  refine ⟨fun q => absurd (hlt.mp q) (by omega), fun _ => ?_⟩
  have hf5 : FrC (tc k) σ s5 := by rw [hs5]; exact (FrC.sA σ _ ⟨by omega, by omega⟩).trans (FrC.sA _ _ ⟨by omega, by omega⟩)
  have e1 : s5.1 k 0 = sn := by rw [hs5, esn]; rfl
  have e2 : s5.2.1 (k + 2) = σ.2.1 (k + 2) := by rw [hs5, sA_n _ _ (by omega), sA_n _ _ (by omega)]
  have e4 : s5.2.1 (k + 4) = H := by rw [hs5, sA_n _ _ (by omega), sA_s]
  refine t_goOn hk ⟨by omega, by omega⟩ ⟨by omega, by omega⟩ (by omega) (hM.tw hk hf5) hok (by rw [e1, e2]; exact hG) (by rw [e4]; exact hlo) (fun E hloE hE => ?_)
  rw [e1, e4] at hE
  have imE : ∀ c, c < 100 → (RC E c ↔ Im M sn (CD M sn) (j + 1) c) := by
    intro c hcc
    rw [hE c hcc]
    constructor
    · rintro ⟨a, ha, y1, y2⟩; exact ⟨a, (him a ha).mp y1, y2⟩
    · rintro ⟨a, y1, y2⟩
      have ha := Im.lt hok (fun c h => h.1) j a y1
      exact ⟨a, ha, (him a ha).mpr y1, y2⟩
  have hs7 : ft_sA s5 (k + 5) E = ft_sA (ft_sA σ (k + 4) H) (k + 5) E := by rw [hs5, sA_sA]
  rw [hs7]
  have e75 : (ft_sA (ft_sA σ (k + 4) H) (k + 5) E).2.1 (k + 5) = E := sA_s _ _ _
  have e74 : (ft_sA (ft_sA σ (k + 4) H) (k + 5) E).2.1 (k + 4) = H := by rw [sA_n _ _ (by omega), sA_s]
  refine cnt0 E _ (j + 1) _ (k + 5) N5 e75 hloE imE ?_
  obtain ⟨n1, en1⟩ : ∃ n1, n1 = cnt (Im M sn (CD M sn) (j + 1)) 100 := ⟨_, rfl⟩
  obtain ⟨n0, en0⟩ : ∃ n0, n0 = cnt (Im M sn (CD M sn) j) 100 := ⟨_, rfl⟩
  rw [← en0] at hle
  rw [← en1, ← en0]
  have hn1 : n1 ≤ 100 := by rw [en1]; exact cnt_le _ _
  have hmono : n1 ≤ n0 := by rw [en1, en0]; exact cnt_mono (fun c _ y => Im.CD_pred hok j c y)
  rw [show (0 : Int32) = nI 0 from rfl, nI_eq (show n1 < 2 ^ 31 by omega) (by decide), nI_eq (show n1 < 2 ^ 31 by omega) (show n0 < 2 ^ 31 by omega)]
  have dw1 : n1 ≠ 0 → DW M sn (j + 1) := by
    intro y
    obtain ⟨c, -, z⟩ := cnt_pos.mp (show 0 < cnt (Im M sn (CD M sn) (j + 1)) 100 by omega)
    exact (Im_DW hok).mp ⟨c, z⟩
  refine ⟨fun z => ⟨fun z2 s9 h9 => ?_, fun z2 => ?_⟩, fun z => ?_⟩
  · rw [e75, e74] at h9
    obtain ⟨H', eH'⟩ : ∃ H', H' = va_cpy E H 0 0 10 := ⟨_, rfl⟩
    rw [← eH'] at h9
    have r9 : ∀ p, p < 10 → H' p = E p := fun p hp => by rw [eH', cpy0 hp]
    refine ih _ _ _ ⟨j + 1, H', E, nI_1 j, by rw [en1], ?_, fun p hp q y => hloE p hp q (by rw [← r9 p hp]; exact y), fun c hcc => ?_, by rw [← en1]; omega, fun i hi => ?_⟩ (by rw [nI_1 j, nI_clamp (by omega), hc]; omega)
    · rw [h9]
      refine Prod.ext rfl (Prod.ext ?_ rfl)
      funext a
      show (if a = k + 4 then H' else if a = k + 5 then E else if a = k + 4 then H else σ.2.1 a) = (if a = k + 5 then E else if a = k + 4 then H' else σ.2.1 a)
      by_cases q1 : a = k + 4
      · rw [if_pos q1, if_neg (by omega), if_pos q1]
      · rw [if_neg q1, if_neg q1, if_neg q1]
    · unfold RC
      rw [r9 _ (by omega)]
      exact imE c hcc
    · by_cases e : i = j
      · subst e; exact dw1 z
      · exact hdw i (by omega)
  · refine h _ _ _ (Or.inl ⟨rfl, fun i => ?_⟩)
    have same : ∀ c, c < 100 → Im M sn (CD M sn) j c → Im M sn (CD M sn) (j + 1) c := cnt_eq (fun c _ y => Im.CD_pred hok j c y) (by rw [← en1, ← en0]; exact z2)
    have up : ∀ d c, Im M sn (CD M sn) j c → Im M sn (CD M sn) (j + d) c := by
      intro d
      induction d with
      | zero => intro c y; exact y
      | succ d ih2 =>
        intro c y
        obtain ⟨a, y1, y2⟩ := same c (Im.lt hok (fun c h => h.1) j c y) y
        exact ⟨a, ih2 a y1, y2⟩
    obtain ⟨c, -, y⟩ := cnt_pos.mp (show 0 < cnt (Im M sn (CD M sn) j) 100 by omega)
    exact DW.le (k := j + i) (by omega) ((Im_DW hok).mp ⟨c, up i c y⟩)
  · refine h _ _ _ (Or.inr ⟨j, by omega, rfl, fun y => ?_, hdw⟩)
    obtain ⟨c, y⟩ := (Im_DW hok).mpr y
    have := cnt_pos.mpr ⟨c, Im.lt hok (fun c h => h.1) _ c y, y⟩
    omega
/-- the twins hold what they must of M, with these seen -/
def RepT (σ : ft_St) (k : Nat) (M : MM) (sn : Int32) : Prop := σ.1 k 0 = sn ∧ TwA M sn (σ.2.1 (k + 1)) ∧ TwG M sn (σ.2.1 (k + 2)) ∧ TwP M sn (σ.2.1 (k + 3)) ∧ IsDly M sn (σ.1 k 4)
theorem t_find {σ : ft_St} {k : Nat} {M : MM} {sn : Int32} {Φ : ft_St → Prop} (hk : Kt k) (hM : RepM σ 2 M) (hok : MOk M) (h : ∀ σ', RepT σ' k M sn → FrC (tc k) σ σ' → Φ σ') : w_X6_find k sn σ Φ := by
  unfold w_X6_find
  intro s1 h1
  have f1 : FrC (tc k) σ s1 := by rw [h1]; exact FrC.sF σ _ _ ⟨by omega, by omega⟩
  have q1 : s1.1 k 0 = sn := by rw [h1, sF_s]
  refine t_findAlone hk (hM.tw hk f1) hok (fun A hA => ?_)
  have f2 : FrC (tc k) σ (ft_sA s1 (k + 1) A) := f1.trans (FrC.sA s1 _ ⟨by omega, by omega⟩)
  rw [q1] at hA
  refine t_findAlong hk (hM.tw hk f2) hok (by rw [sA_s]; show TwA M (s1.1 k 0) A; rw [q1]; exact hA) (fun B hB => ?_)
  have f3 := f2.trans (FrC.sA (P := tc k) (ft_sA s1 (k + 1) A) (k := k + 2) B ⟨by omega, by omega⟩)
  have hB : TwG M sn B := by have hB : TwG M (s1.1 k 0) B := hB; rw [q1] at hB; exact hB
  have a1 : (ft_sA (ft_sA s1 (k + 1) A) (k + 2) B).2.1 (k + 1) = A := by rw [sA_n _ _ (by omega), sA_s]
  have a2 : (ft_sA (ft_sA s1 (k + 1) A) (k + 2) B).2.1 (k + 2) = B := sA_s _ _ _
  have q3 : (ft_sA (ft_sA s1 (k + 1) A) (k + 2) B).1 k 0 = sn := q1
  refine t_findPairs hk (hM.tw hk f3) hok (by rw [q3, a1]; exact hA) (by rw [q3, a2]; exact hB) (fun P hP => ?_)
  rw [q3] at hP
  have f4 := f3.trans (FrC.sA (P := tc k) (ft_sA (ft_sA s1 (k + 1) A) (k + 2) B) (k := k + 3) P ⟨by omega, by omega⟩)
  obtain ⟨s4, e4⟩ : ∃ s4, s4 = ft_sA (ft_sA (ft_sA s1 (k + 1) A) (k + 2) B) (k + 3) P := ⟨_, rfl⟩
  rw [← e4] at f4 ⊢
  have b1 : s4.2.1 (k + 1) = A := by rw [e4, sA_n _ _ (by omega)]; exact a1
  have b2 : s4.2.1 (k + 2) = B := by rw [e4, sA_n _ _ (by omega)]; exact a2
  have b3 : s4.2.1 (k + 3) = P := by rw [e4, sA_s]
  have q4 : s4.1 k 0 = sn := by rw [e4]; exact q1
  refine t_findDelay hk (hM.tw hk f4) hok (by rw [q4, b2]; exact hB) (by rw [q4, b3]; exact hP) (fun r H' A' hr s7 h7 => ?_)
  rw [q4] at hr
  have e7 : s7.2.1 = (ft_sA (ft_sA s4 (k + 4) H') (k + 5) A').2.1 := by rw [h7]; rfl
  refine h s7 ⟨?_, ?_, ?_, ?_, ?_⟩ ?_
  · rw [h7, sF_1, if_neg (by decide)]; exact q4
  · rw [e7, sA_n _ _ (by omega), sA_n _ _ (by omega), b1]; exact hA
  · rw [e7, sA_n _ _ (by omega), sA_n _ _ (by omega), b2]; exact hB
  · rw [e7, sA_n _ _ (by omega), sA_n _ _ (by omega), b3]; exact hP
  · rw [h7, sF_s]; exact hr
  · refine f4.trans ?_
    rw [h7]
    exact ((FrC.sA s4 _ ⟨by omega, by omega⟩).trans (FrC.sA _ _ ⟨by omega, by omega⟩)).trans (FrC.sF _ _ _ ⟨by omega, by omega⟩)
