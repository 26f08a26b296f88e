/-- the model's machine holds M -/
def RepRM (σ : ft_St) (M : MM) : Prop := σ.1 0 1 = nI (mN M) ∧ σ.1 0 5 = mS M ∧ σ.1 0 6 = mX M ∧ ∀ w, w < mN M → σ.2.1 2 w = nI (mF M w) ∧ σ.2.1 3 w = nI (mD M w) ∧ σ.2.1 4 w = nI (mT M w)
theorem r_isSeen {σ : ft_St} {d : Nat} {Φ : Int32 → Prop} (hd : d < 32) (h : Φ (b01 (bt (σ.1 0 5) d))) : w_X10_isSeen (nI d) σ Φ := by
  unfold w_X10_isSeen
  rw [b_tst hd]
  cases q : bt (σ.1 0 5) d <;> rw [q] at h
  · exact ⟨fun _ => h, fun z => by cases z⟩
  · exact ⟨fun z => absurd rfl z, fun _ => h⟩
theorem r_isFault {σ : ft_St} {d : Nat} {Φ : Int32 → Prop} (hd : d < 32) (h : Φ (b01 (bt (σ.1 0 6) d))) : w_X10_isFault (nI d) σ Φ := by
  unfold w_X10_isFault
  rw [b_tst hd]
  cases q : bt (σ.1 0 6) d <;> rw [q] at h
  · exact ⟨fun _ => h, fun z => by cases z⟩
  · exact ⟨fun z => absurd rfl z, fun _ => h⟩
theorem r_stepped {σ : ft_St} {M : MM} {S D : Int32} {Φ : Int32 → Prop} (hM : RepRM σ M) (hok : MOk M) (h : ∀ r, (∀ j, bt r j = true ↔ ∃ i, bt S i = true ∧ Ew M (fun d => bt D d = true) i j) → Φ r) : w_X10_stepped S D σ Φ := by
  have hn := hok.1
  unfold w_X10_stepped
  refine LP2.rule (fun x1 x2 => ∃ w, x2 = nI w ∧ w ≤ mN M ∧ ∀ j, bt x1 j = true ↔ ∃ v, v < w ∧ bt D (mD M v) = true ∧ ∃ i, (i = mF M v ∨ i = mF M v + 10) ∧ bt S i = true ∧ j = mkB M v i) (fun _ x2 => 24 - x2.toNatClampNeg) ?_ ⟨0, rfl, Nat.zero_le _, fun j => ?_⟩
  · rintro X x1 x2 ⟨w, rfl, hw, hx⟩ ih
    have hc : (nI w).toNatClampNeg = w := nI_clamp (by omega)
    rw [hM.1]
    have hle : nI (mN M) ≤ nI w ↔ mN M ≤ w := nI_leI (by omega) (by omega)
    refine ⟨fun q => ?_, fun q => ?_⟩
    · have e : w = mN M := by have := hle.mp q; omega
      subst e
      refine h x1 (fun j => ?_)
      rw [hx j]
      constructor
      · rintro ⟨v, hv, h1, i, h2, h3, h4⟩; exact ⟨i, h3, v, hv, h1, h2, h4⟩
      · rintro ⟨i, h3, v, hv, h1, h2, h4⟩; exact ⟨v, hv, h1, i, h2, h3, h4⟩
    · have hlt : w < mN M := Nat.lt_of_not_le (fun z => q (hle.mpr z))
      obtain ⟨hF, hD, hT⟩ := hM.2.2.2 w hlt
      obtain ⟨bF, bD, bT⟩ := hok.2.1 w hlt
      have hin : vp_in (nI w) 24 := vp_in_nI (by omega) (by decide)
      have hmu : 24 - (nI w + 1).toNatClampNeg < 24 - (nI w).toNatClampNeg := by
        rw [nI_1 w, nI_clamp (by omega), hc]; omega
      refine ⟨hin, ?_⟩
      rw [hc, hD, hF, hT, b_tst (by omega)]
      refine ⟨fun z => ih _ _ ⟨w + 1, nI_1 w, hlt, fun j => ?_⟩ hmu, fun z => ⟨hin, ?_⟩⟩
      · rw [hx j]
        constructor
        · rintro ⟨v, hv, h1⟩; exact ⟨v, by omega, h1⟩
        · rintro ⟨v, hv, h1, h2⟩
          refine ⟨v, ?_, h1, h2⟩
          have : v ≠ w := fun e => z (e ▸ h1)
          omega
      · rintro _ rfl
        refine ⟨hin, ?_⟩
        rw [show nI (mF M w) + 10 = nI (mF M w + 10) from nI_add _ 10, show nI (mT M w) + 10 = nI (mT M w + 10) from nI_add _ 10, show nI (mT M w) + 0 = nI (mT M w) from nI_add _ 0]
        rintro _ rfl
        refine ⟨hin, r_isFault (by omega) ?_⟩
        rw [hM.2.2.1, b_tst (show mF M w < 32 by omega), b_tst (show mF M w + 10 < 32 by omega)]
        have k2 : mkB M w (mF M w + 10) = mT M w + 10 := by rw [mkB, if_pos (Or.inl (by omega))]
        have fin : ∀ x7, (∀ j, bt x7 j = true ↔ bt S (mF M w) = true ∧ j = mkB M w (mF M w)) → ∀ x9, (∀ j, bt x9 j = true ↔ bt S (mF M w + 10) = true ∧ j = mkB M w (mF M w + 10)) → X ((x1 ||| x7) ||| x9) (nI w + 1) := by
          intro x7 h7 x9 h9
          refine ih _ _ ⟨w + 1, nI_1 w, hlt, fun j => ?_⟩ hmu
          rw [b_orI, b_orI, hx j, h7 j, h9 j]
          constructor
          · rintro ((⟨v, hv, h1⟩ | ⟨a, b⟩) | ⟨a, b⟩)
            · exact ⟨v, by omega, h1⟩
            · exact ⟨w, by omega, z, _, Or.inl rfl, a, b⟩
            · exact ⟨w, by omega, z, _, Or.inr rfl, a, b⟩
          · rintro ⟨v, hv, h1, i, h2, h3, h4⟩
            by_cases e : v = w
            · subst e
              rcases h2 with h2 | h2
              · subst h2; exact Or.inl (Or.inr ⟨h3, h4⟩)
              · subst h2; exact Or.inr ⟨h3, h4⟩
            · exact Or.inl (Or.inl ⟨v, by omega, h1, i, h2, h3, h4⟩)
        have zer : ∀ (p : Bool) (k : Nat), ¬ p = true → ∀ j, bt 0 j = true ↔ p = true ∧ j = k := by
          intro p k hp j
          rw [b_0]
          exact ⟨fun y => (by cases y), fun y => absurd y.1 hp⟩
        have one : ∀ (p : Bool) (k : Nat), p = true → k < 32 → ∀ j, bt (1 <<< (nI k &&& 31)) j = true ↔ p = true ∧ j = k := by
          intro p k hp hk j
          constructor
          · intro y
            have hj := b_lt y
            exact ⟨hp, (b_bitI hk hj).mp y⟩
          · rintro ⟨_, e⟩
            subst e
            exact (b_bitI hk hk).mpr rfl
        have part2 : ∀ x7, (∀ j, bt x7 j = true ↔ bt S (mF M w) = true ∧ j = mkB M w (mF M w)) → JN1 (fun (J10 : Int32 → Prop) => (¬ bt S (mF M w + 10) = true → J10 0) ∧ (bt S (mF M w + 10) = true → vp_in (nI w) 24 ∧ J10 (1 <<< (nI (mT M w + 10) &&& 31)))) (fun (x9 : Int32) => X ((x1 ||| x7) ||| x9) (nI w + 1)) := by
          intro x7 h7 J10 hJ10
          refine ⟨fun y => hJ10 _ (fin x7 h7 0 (zer _ _ y)), fun y => ⟨hin, hJ10 _ (fin x7 h7 _ ?_)⟩⟩
          rw [k2]
          exact one _ _ y (by omega)
        intro J8 hJ8
        refine ⟨fun y => hJ8 _ (part2 0 (zer _ _ y)), fun y => ⟨hin, fun y2 => hJ8 _ (part2 _ ?_), fun y2 => hJ8 _ (part2 _ ?_)⟩⟩
        · have k1 : mkB M w (mF M w) = mT M w := by
            rw [mkB, if_neg]
            rintro (a | a)
            · omega
            · rw [(b01_z _).mp y2] at a; cases a
          rw [k1]
          exact one _ _ y (by omega)
        · have k1 : mkB M w (mF M w) = mT M w + 10 := by
            rw [mkB, if_pos (Or.inr ?_)]
            cases e : bt (mX M) (mD M w)
            · rw [e] at y2; exact absurd rfl y2
            · rfl
          rw [k1]
          exact one _ _ y (by omega)
  · rw [b_0]
    constructor
    · intro z; cases z
    · rintro ⟨v, hv, _⟩; omega
theorem r_close {σ : ft_St} {M : MM} {S mask : Int32} {Φ : Int32 → Prop} (hM : RepRM σ M) (hok : MOk M) (h : ∀ r, (∀ j, bt r j = true ↔ RS (Ew M (fun d => bt mask d = true)) (fun i => bt S i = true) j) → Φ r) : LP2 (fun (X3 : Int32 → Int32 → Prop) (x1 : Int32) (x2 : Int32) => (x2 = x1 → Φ x1) ∧ (¬ x2 = x1 → w_X10_stepped x1 mask σ (fun (r4 : Int32) => X3 (x1 ||| r4) x1))) S 0 := by
  refine LP2.rule (fun x1 x2 => (∀ i, bt S i = true → bt x1 i = true) ∧ (∀ j, bt x1 j = true → RS (Ew M (fun d => bt mask d = true)) (fun i => bt S i = true) j) ∧ (∀ a b, bt x2 a = true → Ew M (fun d => bt mask d = true) a b → bt x1 b = true) ∧ (∀ i, bt x2 i = true → bt x1 i = true)) (fun x1 x2 => 2 * (32 - cnt (fun j => bt x1 j = true) 32) + (if x2 = x1 then 0 else 1)) ?_ ⟨fun _ q => q, fun j q => RS.base q, fun a b q => (by rw [b_0] at q; cases q), fun i q => (by rw [b_0] at q; cases q)⟩
  rintro X x1 x2 ⟨h1, h2, h3, h4⟩ ih
  refine ⟨fun e => ?_, fun e => r_stepped hM hok (fun r hr => ?_)⟩
  · subst e
    refine h x2 (fun j => ⟨h2 j, fun q => q (fun j => bt x2 j = true) h1 (fun a b y ed => h3 a b y ed)⟩)
  · refine ih _ _ ⟨fun i q => (b_orI _ _ _).mpr (Or.inl (h1 i q)), fun j q => ?_, fun a b q ed => (b_orI _ _ _).mpr (Or.inr ((hr b).mpr ⟨a, q, ed⟩)), fun i q => (b_orI _ _ _).mpr (Or.inl q)⟩ ?_
    · rcases (b_orI _ _ _).mp q with q | q
      · exact h2 j q
      · obtain ⟨i, y, ed⟩ := (hr j).mp q
        exact (h2 i y).step ed
    · rw [if_neg e]
      have hle := cnt_le (fun j => bt (x1 ||| r) j = true) 32
      by_cases e2 : x1 = x1 ||| r
      · rw [if_pos e2, ← e2]; omega
      · rw [if_neg e2]
        have : cnt (fun j => bt x1 j = true) 32 < cnt (fun j => bt (x1 ||| r) j = true) 32 := by
          refine cnt_lt (fun j _ q => (b_orI _ _ _).mpr (Or.inl q)) (Classical.byContradiction (fun hno => e2 ?_))
          exact b_extI (fun i hi => ⟨fun q => (b_orI _ _ _).mpr (Or.inl q), fun q => Classical.byContradiction (fun q2 => hno ⟨i, hi, q, q2⟩)⟩)
        omega
theorem RS.congr {E E' : Nat → Nat → Prop} {S S' : Nat → Prop} {j : Nat} (hS : ∀ i, S i ↔ S' i) (hE : ∀ a b, E a b ↔ E' a b) : RS E S j ↔ RS E' S' j := ⟨fun q => q.mono (fun i => (hS i).mp) (fun a b => (hE a b).mp), fun q => q.mono (fun i => (hS i).mpr) (fun a b => (hE a b).mpr)⟩
theorem Ew.congr {M : MM} (hok : MOk M) {P Q : Nat → Prop} (h : ∀ d, d < 8 → (P d ↔ Q d)) (a b : Nat) : Ew M P a b ↔ Ew M Q a b := by
  constructor
  · rintro ⟨w, hw, q, r⟩; exact ⟨w, hw, (h _ (hok.2.1 w hw).2.1).mp q, r⟩
  · rintro ⟨w, hw, q, r⟩; exact ⟨w, hw, (h _ (hok.2.1 w hw).2.1).mpr q, r⟩
theorem mask_un {M : MM} {d : Nat} (hd : d < 8) : bt (255 &&& (mS M ^^^ (-1))) d = true ↔ Un M d := by
  unfold Un
  rw [b_and, b_255, b_not _ (by omega)]
  cases bt (mS M) d <;> simp [hd]
theorem r_closed {σ : ft_St} {M : MM} {S : Int32} {Φ : Int32 → Prop} (hM : RepRM σ M) (hok : MOk M) (h : ∀ r, (∀ j, bt r j = true ↔ RS (Ew M (Un M)) (fun i => bt S i = true) j) → Φ r) : w_X10_closed S σ Φ := by
  unfold w_X10_closed
  rw [hM.2.1]
  refine r_close hM hok (fun r hr => h r (fun j => (hr j).trans (RS.congr (fun _ => Iff.rfl) (Ew.congr hok (fun d hd => mask_un hd)))))
theorem r_first {σ : ft_St} {M : MM} {Φ : Int32 → Prop} (hM : RepRM σ M) (hok : MOk M) (h : Φ (FST M)) : w_X10_closed 1 σ Φ := by
  refine r_closed hM hok (fun r hr => ?_)
  have e : r = FST M := bS_eq (fun i => by
    rw [hr i]
    have e2 : RS (Ew M (Un M)) (fun i => bt 1 i = true) i ↔ Ru M 0 i := RS.congr (fun a => by rw [b_1]; simp) (fun _ _ => Iff.rfl)
    rw [e2]
    exact ⟨fun q => ⟨R1.lt (fun x y e => (Ew.lt hok e).2) (by decide) q, q⟩, fun q => q.2⟩)
  rw [e]; exact h
theorem r_allMarks {σ : ft_St} {M : MM} {Φ : Int32 → Prop} (hM : RepRM σ M) (hok : MOk M) (h : Φ (MKS M)) : w_X10_allMarks σ Φ := by
  unfold w_X10_allMarks
  refine r_close hM hok (fun r hr => ?_)
  have e : r = MKS M := bS_eq (fun i => by
    rw [hr i]
    have e2 : RS (Ew M (fun d => bt 255 d = true)) (fun i => bt 1 i = true) i ↔ R1 (Ew M (fun _ => True)) 0 i := RS.congr (fun a => by rw [b_1]; simp) (Ew.congr hok (fun d hd => by rw [b_255]; simp [hd]))
    rw [e2]
    exact ⟨fun q => ⟨R1.lt (fun x y e => (Ew.lt hok e).2) (by decide) q, q⟩, fun q => q.2⟩)
  rw [e]; exact h
theorem r_stepD {σ : ft_St} {M : MM} {S : Int32} {d : Nat} {Φ : Int32 → Prop} (hM : RepRM σ M) (hok : MOk M) (hd : d < 8) (h : ∀ r, (∀ j, bt r j = true ↔ ∃ i, bt S i = true ∧ Ew M (fun e => e = d) i j) → Φ r) : w_X10_stepped S (1 <<< (nI d &&& 31)) σ Φ := by
  refine r_stepped hM hok (fun r hr => h r (fun j => (hr j).trans ?_))
  constructor
  · rintro ⟨i, q, ed⟩
    exact ⟨i, q, (Ew.congr hok (fun e he => b_bitI (by omega) (by omega)) i j).mp ed⟩
  · rintro ⟨i, q, ed⟩
    exact ⟨i, q, (Ew.congr hok (fun e he => b_bitI (by omega) (by omega)) i j).mpr ed⟩
theorem r_sawBy {σ : ft_St} {M : MM} {S : Int32} {d : Nat} {Φ : Int32 → Prop} (hM : RepRM σ M) (hok : MOk M) (hd : d < 8) (h : Φ (AFT M S d)) : w_X10_sawBy S (nI d) σ Φ := by
  unfold w_X10_sawBy
  refine r_stepD hM hok hd (fun r hr => r_closed hM hok (fun r2 hr2 => ?_))
  have e : r2 = AFT M S d := b_extI (fun j _ => by
    rw [hr2 j, AFT_bt hok, RS.iff]
    constructor
    · rintro ⟨a, q, ru⟩
      obtain ⟨i, y, ed⟩ := (hr a).mp q
      exact ⟨i, y, a, ed, ru⟩
    · rintro ⟨i, y, a, ed, ru⟩
      exact ⟨a, (hr a).mpr ⟨i, y, ed⟩, ru⟩)
  rw [e]; exact h
theorem AFT_z {M : MM} (hok : MOk M) {S : Int32} {d : Nat} {r : Int32} (hr : ∀ j, bt r j = true ↔ ∃ i, bt S i = true ∧ Ew M (fun e => e = d) i j) : r = 0 ↔ AFT M S d = 0 := by
  rw [b_eq0, b_eq0]
  constructor
  · intro q j _
    cases e : bt (AFT M S d) j
    · rfl
    · obtain ⟨i, y, t, ed, ru⟩ := (AFT_bt hok).mp e
      have := (hr t).mpr ⟨i, y, ed⟩
      rw [q t (by have := (Ew.lt hok ed).2; omega)] at this
      cases this
  · intro q j hj
    cases e : bt r j
    · rfl
    · obtain ⟨i, y, ed⟩ := (hr j).mp e
      have := (AFT_bt (S := S) (d := d) hok).mpr ⟨i, y, j, ed, R1.refl j⟩
      rw [q j hj] at this
      cases this
theorem r_verdict {S : Int32} {Φ : Int32 → Prop} (h : Φ (verd S)) : w_X10_verdict S Φ := by
  unfold w_X10_verdict
  unfold verd at h
  refine ⟨fun a => ⟨fun b => ?_, fun b => ?_⟩, fun a => ?_⟩
  · rw [if_neg a, if_neg b] at h; exact h
  · rw [if_neg a, if_pos b] at h; exact h
  · rw [if_pos a] at h; exact h
theorem cnt_succ (P : Nat → Prop) (n : Nat) : cnt P (n + 1) = cnt P n + (if pd P n = true then 1 else 0) := rfl
theorem r_ones {S : Int32} {Φ : Int32 → Prop} (h : Φ (nI (cnt (fun j => bt S j = true) 20))) : w_X10_ones S Φ := by
  unfold w_X10_ones
  refine LP2.rule (fun x1 x2 => ∃ i, x2 = nI i ∧ i ≤ 20 ∧ x1 = nI (cnt (fun j => bt S j = true) i)) (fun _ x2 => 20 - x2.toNatClampNeg) ?_ ⟨0, rfl, by decide, rfl⟩
  rintro X x1 x2 ⟨i, rfl, hi, rfl⟩ ih
  have hc : (nI i).toNatClampNeg = i := nI_clamp (by omega)
  have hle : (20 : Int32) ≤ nI i ↔ 20 ≤ i := nI_leI (a := 20) (by decide) (by omega)
  refine ⟨fun q => ?_, fun q => ?_⟩
  · have e : i = 20 := by have := hle.mp q; omega
    subst e; exact h
  · have hlt : i < 20 := Nat.lt_of_not_le (fun z => q (hle.mpr z))
    rintro _ rfl
    refine ih _ _ ⟨i + 1, nI_1 i, hlt, ?_⟩ (by rw [nI_1 i, nI_clamp (by omega), hc]; omega)
    rw [b_val (by omega), cnt_succ]
    cases e : bt S i
    · rw [if_neg (by decide), if_neg (by rw [pd_t, e]; decide)]; exact nI_add _ 0
    · rw [if_pos rfl, if_pos (pd_t.mpr e)]; exact nI_add _ 1
