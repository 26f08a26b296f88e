/-! reading a text: stage, orders, the way's place, from, deed, letters, draft -/
abbrev QS : Type := Nat × Nat × Nat × Nat × Nat × Int32 × MM
def withX (M : MM) (x : Int32) : MM := (mN M, mF M, mD M, mT M, mS M, x)
theorem withX_ok {M : MM} (hok : MOk M) {x : Int32} (h : ∀ i, bt x i = true → i < 8) : MOk (withX M x) := ⟨hok.1, hok.2.1, hok.2.2.1, h⟩
def endD (st : Nat) (l : Int32) (D : MM) : MM := if st = 4 then withX D l else withS D (255 &&& (l ^^^ (-1)))
noncomputable def qstep (c pos : Nat) (q : QS) : Nat ⊕ QS :=
  if q.1 = 0 then (if c = 33 then .inr (4, q.2.1, q.2.2.1, q.2.2.2.1, q.2.2.2.2.1, 0, q.2.2.2.2.2.2) else if c = 63 then .inr (5, q.2.1, q.2.2.1, q.2.2.2.1, q.2.2.2.2.1, 0, q.2.2.2.2.2.2) else if (48 ≤ c ∧ c ≤ 57) ∧ mN q.2.2.2.2.2.2 < 24 then .inr (1, q.2.1, pos, c - 48, q.2.2.2.2.1, q.2.2.2.2.2.1, q.2.2.2.2.2.2) else .inl pos)
  else if q.1 = 1 then (if 97 ≤ c ∧ c ≤ 104 then .inr (2, q.2.1, q.2.2.1, q.2.2.2.1, c - 97, q.2.2.2.2.2.1, q.2.2.2.2.2.2) else .inl pos)
  else if q.1 = 2 then (if 48 ≤ c ∧ c ≤ 57 then (if hasB q.2.2.2.2.2.2 q.2.2.2.1 q.2.2.2.2.1 (c - 48) = true then .inl q.2.2.1 else .inr (3, q.2.1, q.2.2.1, q.2.2.2.1, q.2.2.2.2.1, q.2.2.2.2.2.1, addW q.2.2.2.2.2.2 q.2.2.2.1 q.2.2.2.2.1 (c - 48))) else .inl pos)
  else if q.1 = 3 then (if c = 59 then .inr (0, q.2.1 + 1, q.2.2.1, q.2.2.2.1, q.2.2.2.2.1, q.2.2.2.2.2.1, q.2.2.2.2.2.2) else .inl pos)
  else (if 97 ≤ c ∧ c ≤ 104 then .inr (q.1, q.2.1, q.2.2.1, q.2.2.2.1, q.2.2.2.2.1, q.2.2.2.2.2.1 ||| (1 <<< (nI (c - 97) &&& 31)), q.2.2.2.2.2.2) else if c = 59 then .inr (0, q.2.1 + 1, q.2.2.1, q.2.2.2.1, q.2.2.2.2.1, q.2.2.2.2.2.1, endD q.1 q.2.2.2.2.2.1 q.2.2.2.2.2.2) else .inl pos)
noncomputable def qrun (T : Nat → Nat) (tl : Nat) : Nat → Nat → QS → Nat ⊕ (Nat × MM)
  | 0, _, q => if q.1 = 0 ∧ q.2.1 ≠ 0 then .inr (q.2.1, q.2.2.2.2.2.2) else .inl tl
  | f + 1, pos, q => if T pos = 32 then qrun T tl f (pos + 1) q else match qstep (T pos) pos q with
    | .inl p => .inl p
    | .inr q' => qrun T tl f (pos + 1) q'
/-- what comes of the rest -/
noncomputable def RES (T : Nat → Nat) (tl pos : Nat) (q : QS) : Nat ⊕ (Nat × MM) := qrun T tl (tl - pos) pos q
theorem RES_end (T : Nat → Nat) (tl : Nat) (q : QS) : RES T tl tl q = if q.1 = 0 ∧ q.2.1 ≠ 0 then .inr (q.2.1, q.2.2.2.2.2.2) else .inl tl := by
  unfold RES
  rw [Nat.sub_self]; rfl
theorem RES_bl {T : Nat → Nat} {tl pos : Nat} (q : QS) (hp : pos < tl) (h : T pos = 32) : RES T tl pos q = RES T tl (pos + 1) q := by
  unfold RES
  rw [show tl - pos = (tl - (pos + 1)) + 1 by omega]
  show (if T pos = 32 then _ else _) = _
  rw [if_pos h]
theorem RES_l {T : Nat → Nat} {tl pos p : Nat} {q : QS} (hp : pos < tl) (h : ¬ T pos = 32) (hq : qstep (T pos) pos q = .inl p) : RES T tl pos q = .inl p := by
  unfold RES
  rw [show tl - pos = (tl - (pos + 1)) + 1 by omega]
  show (if T pos = 32 then _ else _) = _
  rw [if_neg h, hq]
theorem RES_r {T : Nat → Nat} {tl pos : Nat} {q q' : QS} (hp : pos < tl) (h : ¬ T pos = 32) (hq : qstep (T pos) pos q = .inr q') : RES T tl pos q = RES T tl (pos + 1) q' := by
  unfold RES
  rw [show tl - pos = (tl - (pos + 1)) + 1 by omega]
  show (if T pos = 32 then _ else _) = _
  rw [if_neg h, hq]
def QOk (pos : Nat) (q : QS) : Prop := (q.1 ≤ 5 ∧ q.2.1 ≤ pos ∧ q.2.2.1 ≤ pos) ∧ ((q.1 = 1 ∨ q.1 = 2) → q.2.2.2.1 < 10 ∧ mN q.2.2.2.2.2.2 < 24) ∧ (q.1 = 2 → q.2.2.2.2.1 < 8) ∧ (∀ i, bt q.2.2.2.2.2.1 i = true → i < 8) ∧ MOk q.2.2.2.2.2.2
theorem QOk.more {pos : Nat} {q : QS} (h : QOk pos q) : QOk (pos + 1) q := ⟨⟨h.1.1, by have := h.1.2.1; omega, by have := h.1.2.2; omega⟩, h.2⟩
theorem b_set8 {l : Int32} {k : Nat} (hl : ∀ i, bt l i = true → i < 8) (hk : k < 8) : ∀ i, bt (l ||| (1 <<< (nI k &&& 31))) i = true → i < 8 := fun i h => by
  rcases (b_orI _ _ i).mp h with y | y
  · exact hl i y
  · have := (b_bitI (show k < 32 by omega) (b_lt h)).mp y
    omega
theorem b_255n {l : Int32} : ∀ i, bt (255 &&& l) i = true → i < 8 := fun i h => by
  rw [b_and, b_255] at h
  exact Nat.lt_of_not_le (fun z => by rw [decide_eq_false (by omega)] at h; cases h)
theorem qstep_ok {c pos : Nat} {q q' : QS} (h : QOk pos q) (hq : qstep c pos q = .inr q') : QOk (pos + 1) q' := by
  obtain ⟨st, n, wp, a, d, l, D⟩ := q
  obtain ⟨⟨h1, h2, h3⟩, h4, h5, h6, h7⟩ := h
  dsimp only at h1 h2 h3 h4 h5 h6 h7
  have l0 : ∀ i, bt 0 i = true → i < 8 := fun i hi => by rw [b_0] at hi; cases hi
  unfold qstep at hq
  dsimp only at hq
  by_cases s0 : st = 0
  · rw [if_pos s0] at hq
    by_cases c1 : c = 33
    · rw [if_pos c1] at hq; cases hq
      exact ⟨⟨by dsimp only; omega, by dsimp only; omega, by dsimp only; omega⟩, fun y => absurd y (by dsimp only; omega), fun y => absurd y (by dsimp only; omega), l0, h7⟩
    rw [if_neg c1] at hq
    by_cases c2 : c = 63
    · rw [if_pos c2] at hq; cases hq
      exact ⟨⟨by dsimp only; omega, by dsimp only; omega, by dsimp only; omega⟩, fun y => absurd y (by dsimp only; omega), fun y => absurd y (by dsimp only; omega), l0, h7⟩
    rw [if_neg c2] at hq
    by_cases c3 : (48 ≤ c ∧ c ≤ 57) ∧ mN D < 24
    · rw [if_pos c3] at hq; cases hq
      exact ⟨⟨by dsimp only; omega, by dsimp only; omega, by dsimp only; omega⟩, fun _ => ⟨by dsimp only; omega, c3.2⟩, fun y => absurd y (by dsimp only; omega), h6, h7⟩
    · rw [if_neg c3] at hq; cases hq
  rw [if_neg s0] at hq
  by_cases s1 : st = 1
  · rw [if_pos s1] at hq
    by_cases c1 : 97 ≤ c ∧ c ≤ 104
    · rw [if_pos c1] at hq; cases hq
      exact ⟨⟨by dsimp only; omega, by dsimp only; omega, by dsimp only; omega⟩, fun _ => h4 (Or.inl s1), fun _ => by dsimp only; omega, h6, h7⟩
    · rw [if_neg c1] at hq; cases hq
  rw [if_neg s1] at hq
  by_cases s2 : st = 2
  · rw [if_pos s2] at hq
    by_cases c1 : 48 ≤ c ∧ c ≤ 57
    · rw [if_pos c1] at hq
      cases hb : hasB D a d (c - 48)
      · rw [if_neg (by rw [hb]; decide)] at hq; cases hq
        exact ⟨⟨by dsimp only; omega, by dsimp only; omega, by dsimp only; omega⟩, fun y => absurd y (by dsimp only; omega), fun y => absurd y (by dsimp only; omega), h6, addW_ok h7 (h4 (Or.inr s2)).2 (h4 (Or.inr s2)).1 (h5 s2) (by omega)⟩
      · rw [if_pos hb] at hq; cases hq
    · rw [if_neg c1] at hq; cases hq
  rw [if_neg s2] at hq
  by_cases s3 : st = 3
  · rw [if_pos s3] at hq
    by_cases c1 : c = 59
    · rw [if_pos c1] at hq; cases hq
      exact ⟨⟨by dsimp only; omega, by dsimp only; omega, by dsimp only; omega⟩, fun y => absurd y (by dsimp only; omega), fun y => absurd y (by dsimp only; omega), h6, h7⟩
    · rw [if_neg c1] at hq; cases hq
  rw [if_neg s3] at hq
  by_cases c1 : 97 ≤ c ∧ c ≤ 104
  · rw [if_pos c1] at hq; cases hq
    exact ⟨⟨h1, by dsimp only; omega, by dsimp only; omega⟩, fun y => absurd y (by dsimp only; omega), fun y => absurd y s2, b_set8 h6 (by omega), h7⟩
  rw [if_neg c1] at hq
  by_cases c2 : c = 59
  · rw [if_pos c2] at hq; cases hq
    refine ⟨⟨by dsimp only; omega, by dsimp only; omega, by dsimp only; omega⟩, fun y => absurd y (by dsimp only; omega), fun y => absurd y (by dsimp only; omega), h6, ?_⟩
    show MOk (endD st l D)
    unfold endD
    split
    · exact withX_ok h7 h6
    · exact withS_ok h7 b_255n
  · rw [if_neg c2] at hq; cases hq
/-! the class -/
def rdc : Nat → Prop := fun a => 75 ≤ a ∧ a ≤ 79
def RepQ (σ : ft_St) (q : QS) : Prop := (σ.1 75 1 = nI q.1 ∧ σ.1 75 2 = nI q.2.1 ∧ ((q.1 = 1 ∨ q.1 = 2) → σ.1 75 3 = nI q.2.2.1)) ∧ ((q.1 = 1 ∨ q.1 = 2) → σ.1 75 4 = nI q.2.2.2.1) ∧ (q.1 = 2 → σ.1 75 5 = nI q.2.2.2.2.1) ∧ (3 < q.1 → σ.1 75 6 = q.2.2.2.2.2.1) ∧ RepM σ 76 q.2.2.2.2.2.2
theorem t_isFigure {c : Nat} {Φ : Int32 → Prop} (hc : c ≤ 127) (h1 : 48 ≤ c ∧ c ≤ 57 → Φ 1) (h0 : ¬ (48 ≤ c ∧ c ≤ 57) → Φ 0) : w_X2_isFigure (nI c) Φ := by
  unfold w_X2_isFigure
  have e1 : nI c < 48 ↔ c < 48 := nI_ltI (b := 48) (by omega) (by decide)
  have e2 : (57 : Int32) < nI c ↔ 57 < c := nI_ltI (a := 57) (by decide) (by omega)
  rw [e1, e2]
  intro J hJ
  exact ⟨fun y => hJ (h0 (by omega)), fun y => ⟨fun z => hJ (h0 (by omega)), fun z => h1 (by omega)⟩⟩
theorem t_isLetter {c : Nat} {Φ : Int32 → Prop} (hc : c ≤ 127) (h1 : 97 ≤ c ∧ c ≤ 104 → Φ 1) (h0 : ¬ (97 ≤ c ∧ c ≤ 104) → Φ 0) : w_X2_isLetter (nI c) Φ := by
  unfold w_X2_isLetter
  have e1 : nI c < 97 ↔ c < 97 := nI_ltI (b := 97) (by omega) (by decide)
  have e2 : (104 : Int32) < nI c ↔ 104 < c := nI_ltI (a := 104) (by decide) (by omega)
  rw [e1, e2]
  intro J hJ
  exact ⟨fun y => hJ (h0 (by omega)), fun y => ⟨fun z => hJ (h0 (by omega)), fun z => h1 (by omega)⟩⟩
theorem nI_sub {a b : Nat} (h : b ≤ a) : nI a - nI b = nI (a - b) := by
  rw [show nI a = nI (a - b) + nI b from by rw [nI_add]; congr 1; omega]
  exact Int32.add_sub_cancel _ _
theorem RepM.f75 {σ : ft_St} {M : MM} (h : RepM σ 76 M) (j : Nat) (v : Int32) : RepM (ft_sF σ 75 j v) 76 M := h.same (sF_n σ j v (by decide)) rfl rfl rfl
theorem FrC.f75 (σ : ft_St) (j : Nat) (v : Int32) : FrC rdc σ (ft_sF σ 75 j v) := FrC.sF σ j v (by unfold rdc; decide)
theorem t_takeEnd {σ : ft_St} {q : QS} {c pos n : Nat} {D : MM} {Φ : Int32 → ft_St → Prop} (hc : c ≤ 127) (e2 : σ.1 75 2 = nI n) (hD : c = 59 → RepM σ 76 D) (h0 : ¬ c = 59 → Φ (nI pos) σ) (h1 : c = 59 → ∀ σ', RepQ σ' (0, n + 1, q.2.2.1, q.2.2.2.1, q.2.2.2.2.1, q.2.2.2.2.2.1, D) → FrC rdc σ σ' → Φ (-1) σ') : w_X2_takeEnd 75 (nI c) (nI pos) σ Φ := by
  unfold w_X2_takeEnd
  have e1 : nI c = 59 ↔ c = 59 := nI_eq (b := 59) (by omega) (by decide)
  rw [e1]
  refine ⟨fun y s1 g1 s2 g2 => h1 y s2 ?_ ?_, h0⟩
  · rw [g2, g1, e2, nI_1 n]
    refine ⟨⟨sF_s _ _ _ _, ?_, fun z => absurd z (by dsimp only; omega)⟩, fun z => absurd z (by dsimp only; omega), fun z => absurd z (by dsimp only; omega), fun z => absurd z (by dsimp only; omega), ((hD y).f75 _ _).f75 _ _⟩
    · rw [sF_1, if_neg (by decide), sF_s]
  · rw [g2, g1]; exact (FrC.f75 _ _ _).trans (FrC.f75 _ _ _)
theorem t_take {σ : ft_St} {q : QS} {c pos : Nat} {Φ : Int32 → ft_St → Prop} (hc : c ≤ 127) (hp : pos ≤ 120) (hQ : RepQ σ q) (hok : QOk pos q) (h0 : ∀ p, qstep c pos q = .inl p → ∀ σ', FrC rdc σ σ' → Φ (nI p) σ') (h1 : ∀ q', qstep c pos q = .inr q' → ∀ σ', RepQ σ' q' → FrC rdc σ σ' → Φ (-1) σ') : w_X2_take 75 (nI c) (nI pos) σ Φ := by
  obtain ⟨st, n, wp, a, d, l, D⟩ := q
  obtain ⟨⟨k1, k2, k3⟩, k4, k5, k6, k7⟩ := hok
  obtain ⟨⟨e1, e2, e3⟩, e4, e5, e6, e7⟩ := hQ
  dsimp only at k1 k2 k3 k4 k5 k6 k7 e1 e2 e3 e4 e5 e6 e7
  unfold qstep at h0 h1
  dsimp only at h0 h1
  unfold w_X2_take
  have est : ∀ (k : Nat), k < 2 ^ 31 → (nI st = nI k ↔ st = k) := fun k hk => nI_eq (by omega) hk
  have eti : (nI st).toInt = st := nI_toInt (by omega)
  have fr := FrC.refl (P := rdc) σ
  rw [e1, eti]
  refine ⟨fun y => ?_, fun y => ?_, fun y => ?_, fun y => ?_, fun y => ?_⟩
  · have s0 : st = 0 := (est 0 (by decide)).mp y
    rw [if_pos s0] at h0 h1
    unfold w_X2_takeFirst
    have c33 : nI c = 33 ↔ c = 33 := nI_eq (b := 33) (by omega) (by decide)
    have c63 : nI c = 63 ↔ c = 63 := nI_eq (b := 63) (by omega) (by decide)
    rw [c33, c63]
    intro J1 hJ1
    have lst : c = 33 ∨ c = 63 → J1 := by
      intro hcc
      refine hJ1 (fun J3 hJ3 => ?_)
      have fin : ∀ k : Nat, (3 < k ∧ k < 10) → (if c = 33 then (.inr (4, n, wp, a, d, 0, D) : Nat ⊕ QS) else if c = 63 then .inr (5, n, wp, a, d, 0, D) else if (48 ≤ c ∧ c ≤ 57) ∧ mN D < 24 then .inr (1, n, pos, c - 48, d, l, D) else .inl pos) = .inr (k, n, wp, a, d, 0, D) → ∀ s4, s4 = ft_sF σ 75 1 (nI k) → ∀ s5, s5 = ft_sF s4 75 6 0 → Φ (-1) s5 := by
        intro k hk hq s4 g4 s5 g5
        refine h1 _ hq s5 ?_ ?_
        · rw [g5, g4]
          refine ⟨⟨?_, ?_, fun z => ?_⟩, fun z => ?_, fun z => ?_, fun _ => sF_s _ _ _ _, (e7.f75 _ _).f75 _ _⟩
          · rw [sF_1, if_neg (by decide), sF_s]
          · rw [sF_1, if_neg (by decide), sF_1, if_neg (by decide)]; exact e2
          · have z : k = 1 ∨ k = 2 := z; omega
          · have z : k = 1 ∨ k = 2 := z; omega
          · have z : k = 2 := z; omega
        · rw [g5, g4]; exact (FrC.f75 _ _ _).trans (FrC.f75 _ _ _)
      refine ⟨fun z => hJ3 5 (fin 5 (by decide) (by rw [if_neg z, if_pos (hcc.elim (fun w => absurd w z) id)])), fun z => hJ3 4 (fin 4 (by decide) (by rw [if_pos z]))⟩
    refine ⟨fun z => lst (Or.inl z), fun z => ⟨fun z2 => ?_, fun z2 => lst (Or.inr z2)⟩⟩
    rw [if_neg z, if_neg z2] at h0 h1
    refine t_isFigure hc (fun w => ⟨fun v => absurd v (by decide), fun _ => ?_⟩) (fun w => ⟨fun _ => h0 pos (if_neg (fun v => w v.1)) σ fr, fun v => absurd rfl v⟩)
    refine t_isFull e7 k7 ?_
    by_cases hn : mN D < 24
    · rw [if_pos hn]
      refine ⟨fun _ s8 g8 s9 g9 s10 g10 => h1 _ (if_pos ⟨w, hn⟩) s10 ?_ ?_, fun v => absurd rfl v⟩
      · rw [g10, g9, g8, show nI c - 48 = nI (c - 48) from nI_sub w.1]
        refine ⟨⟨sF_s _ _ _ _, ?_, fun _ => ?_⟩, fun _ => ?_, fun z => absurd z (by dsimp only; omega), fun z => absurd z (by dsimp only; omega), ((e7.f75 _ _).f75 _ _).f75 _ _⟩
        · rw [sF_1, if_neg (by decide), sF_1, if_neg (by decide), sF_1, if_neg (by decide)]; exact e2
        · rw [sF_1, if_neg (by decide), sF_1, if_neg (by decide), sF_s]
        · rw [sF_1, if_neg (by decide), sF_s]
      · rw [g10, g9, g8]; exact ((FrC.f75 _ _ _).trans (FrC.f75 _ _ _)).trans (FrC.f75 _ _ _)
    · rw [if_neg hn]
      exact ⟨fun v => absurd v (by decide), fun _ => h0 pos (if_neg (fun v => hn v.2)) σ fr⟩
  · have s1 : st = 1 := (est 1 (by decide)).mp y
    rw [if_neg (by omega), if_pos s1] at h0 h1
    unfold w_X2_takeDeed
    refine t_isLetter hc (fun w => ⟨fun _ s2 g2 s3 g3 => h1 _ (if_pos w) s3 ?_ ?_, fun v => absurd v (by decide)⟩) (fun w => ⟨fun v => absurd rfl v, fun _ => h0 pos (if_neg w) σ fr⟩)
    · rw [g3, g2, show nI c - 97 = nI (c - 97) from nI_sub w.1]
      refine ⟨⟨sF_s _ _ _ _, ?_, fun _ => ?_⟩, fun _ => ?_, fun _ => ?_, fun z => absurd z (by dsimp only; omega), (e7.f75 _ _).f75 _ _⟩
      · rw [sF_1, if_neg (by decide), sF_1, if_neg (by decide)]; exact e2
      · rw [sF_1, if_neg (by decide), sF_1, if_neg (by decide)]; exact e3 (Or.inl s1)
      · rw [sF_1, if_neg (by decide), sF_1, if_neg (by decide)]; exact e4 (Or.inl s1)
      · rw [sF_1, if_neg (by decide), sF_s]
    · rw [g3, g2]; exact (FrC.f75 _ _ _).trans (FrC.f75 _ _ _)
  · have s2 : st = 2 := (est 2 (by decide)).mp y
    rw [if_neg (by omega), if_neg (by omega), if_pos s2] at h0 h1
    unfold w_X2_takeTo
    have ha := (k4 (Or.inr s2)).1
    have hd := k5 s2
    refine t_isFigure hc (fun w => ⟨fun _ => ?_, fun v => absurd v (by decide)⟩) (fun w => ⟨fun v => absurd rfl v, fun _ => h0 pos (if_neg w) σ fr⟩)
    rw [if_pos w] at h0 h1
    rw [e4 (Or.inr s2), e5 s2, show nI c - 48 = nI (c - 48) from nI_sub w.1, e3 (Or.inr s2)]
    refine t_has e7 k7 (by omega) (by omega) (by omega) ?_
    cases hb : hasB D a d (c - 48)
    · rw [if_neg (by rw [hb]; decide)] at h1
      refine ⟨fun _ => ?_, fun v => absurd rfl v⟩
      refine t_add e7 k7 (k4 (Or.inr s2)).2 (fun s3 hM3 hF3 s4 g4 => h1 _ rfl s4 ?_ ?_)
      · have q75 : s3.1 75 = σ.1 75 := (hF3 75 (by unfold mc; omega)).1
        rw [g4]
        refine ⟨⟨sF_s _ _ _ _, ?_, fun z => absurd z (by dsimp only; omega)⟩, fun z => absurd z (by dsimp only; omega), fun z => absurd z (by dsimp only; omega), fun z => absurd z (by dsimp only; omega), hM3.f75 _ _⟩
        · rw [sF_1, if_neg (by decide), q75]; exact e2
      · rw [g4]; exact (hF3.mono (fun a q => by unfold mc at q; unfold rdc; omega)).trans (FrC.f75 _ _ _)
    · rw [if_pos hb] at h0
      exact ⟨fun v => absurd v (by decide), fun _ => h0 wp rfl σ fr⟩
  · have s3 : st = 3 := (est 3 (by decide)).mp y
    rw [if_neg (by omega), if_neg (by omega), if_neg (by omega), if_pos s3] at h0 h1
    exact t_takeEnd (q := (st, n, wp, a, d, l, D)) (D := D) hc e2 (fun _ => e7) (fun w => h0 pos (if_neg w) σ fr) (fun w σ' hq hf => h1 _ (if_pos w) σ' hq hf)
  · have s4 : 3 < st := by omega
    rw [if_neg (by omega), if_neg (by omega), if_neg (by omega), if_neg (by omega)] at h0 h1
    unfold w_X2_takeInList
    have c59 : nI c = 59 ↔ c = 59 := nI_eq (b := 59) (by omega) (by decide)
    have st4 : nI st = 4 ↔ st = 4 := est 4 (by decide)
    refine t_isLetter hc (fun w => ⟨fun v => absurd v (by decide), fun _ s9 g9 => h1 _ (if_pos w) s9 ?_ ?_⟩) (fun w => ⟨fun _ => ?_, fun v => absurd rfl v⟩)
    · rw [g9, e6 s4, show nI c - 97 = nI (c - 97) from nI_sub w.1]
      refine ⟨⟨?_, ?_, fun z => ?_⟩, fun z => ?_, fun z => ?_, fun _ => sF_s _ _ _ _, e7.f75 _ _⟩
      · rw [sF_1, if_neg (by decide)]; exact e1
      · rw [sF_1, if_neg (by decide)]; exact e2
      · have z : st = 1 ∨ st = 2 := z; omega
      · have z : st = 1 ∨ st = 2 := z; omega
      · have z : st = 2 := z; omega
    · rw [g9]; exact FrC.f75 _ _ _
    · rw [if_neg w] at h0 h1
      rw [c59, e1, st4, e6 s4]
      have go : ∀ s2 : ft_St, s2.1 75 = σ.1 75 → FrC rdc σ s2 → (c = 59 → RepM s2 76 (endD st l D)) → w_X2_takeEnd 75 (nI c) (nI pos) s2 (fun (r4 : Int32) (s5 : ft_St) => Φ r4 s5) := fun s2 g1 g2 g3 => t_takeEnd (q := (st, n, wp, a, d, l, D)) hc (by rw [g1]; exact e2) g3 (fun v => h0 pos (if_neg v) s2 g2) (fun v σ' hq hf => h1 _ (if_pos v) σ' hq (g2.trans hf))
      intro J3 hJ3
      have fset : ∀ (j : Nat) (v : Int32) (s : ft_St), s = ft_sF σ (75 + 1) j v → s.1 75 = σ.1 75 ∧ FrC rdc σ s := fun j v s g => by
        rw [g]; exact ⟨sF_n σ j v (by decide), FrC.sF σ j v (by unfold rdc; decide)⟩
      intro J6 hJ6
      have k6' : J6 → J3 σ ∨ True := fun _ => Or.inr trivial
      refine ⟨fun v => hJ6 ⟨fun _ => hJ3 σ (go σ rfl fr (fun v2 => absurd v2 v)), fun v2 => absurd v2 v⟩, fun v => ⟨fun v4 => hJ6 ⟨fun v2 => absurd v v2, fun _ s7 g7 => hJ3 s7 (go s7 (fset _ _ s7 g7).1 (fset _ _ s7 g7).2 (fun _ => ?_))⟩, fun v4 s8 g8 => hJ3 s8 (go s8 (fset _ _ s8 g8).1 (fset _ _ s8 g8).2 (fun _ => ?_))⟩⟩
      · unfold endD
        rw [if_neg v4, g7]
        refine ⟨?_, sF_s _ _ _ _, ?_, e7.2.2.2⟩
        · rw [sF_1, if_neg (by decide)]; exact e7.1
        · rw [sF_1, if_neg (by decide)]; exact e7.2.2.1
      · unfold endD
        rw [if_pos v4, g8]
        refine ⟨?_, ?_, sF_s _ _ _ _, e7.2.2.2⟩
        · rw [sF_1, if_neg (by decide)]; exact e7.1
        · rw [sF_1, if_neg (by decide)]; exact e7.2.1
