/-! what comes of a set by steps -/
def RS (E : Nat → Nat → Prop) (S : Nat → Prop) (j : Nat) : Prop := ∀ P : Nat → Prop, (∀ i, S i → P i) → (∀ a b, P a → E a b → P b) → P j
theorem RS.base {E : Nat → Nat → Prop} {S : Nat → Prop} {j : Nat} (h : S j) : RS E S j := fun _ h1 _ => h1 j h
theorem RS.step {E : Nat → Nat → Prop} {S : Nat → Prop} {a b : Nat} (h : RS E S a) (e : E a b) : RS E S b := fun P h1 h2 => h2 a b (h P h1 h2) e
theorem RS.mono {E E' : Nat → Nat → Prop} {S S' : Nat → Prop} {j : Nat} (h : RS E S j) (hS : ∀ i, S i → S' i) (hE : ∀ a b, E a b → E' a b) : RS E' S' j := h (RS E' S') (fun i q => RS.base (hS i q)) (fun a b q e => RS.step q (hE a b e))
def R1 (E : Nat → Nat → Prop) (i j : Nat) : Prop := RS E (fun a => a = i) j
theorem R1.refl {E : Nat → Nat → Prop} (i : Nat) : R1 E i i := RS.base rfl
theorem R1.step {E : Nat → Nat → Prop} {i a b : Nat} (h : R1 E i a) (e : E a b) : R1 E i b := RS.step h e
theorem R1.one {E : Nat → Nat → Prop} {a b : Nat} (e : E a b) : R1 E a b := R1.step (R1.refl a) e
theorem R1.trans {E : Nat → Nat → Prop} {a b c : Nat} (h : R1 E a b) (h2 : R1 E b c) : R1 E a c := h2 (R1 E a) (fun i q => by rw [q]; exact h) (fun _ _ q e => R1.step q e)
theorem R1.head {E : Nat → Nat → Prop} {a b c : Nat} (e : E a b) (h2 : R1 E b c) : R1 E a c := (R1.one e).trans h2
theorem RS.iff {E : Nat → Nat → Prop} {S : Nat → Prop} {j : Nat} : RS E S j ↔ ∃ i, S i ∧ R1 E i j := by
  constructor
  · intro h
    exact h (fun j => ∃ i, S i ∧ R1 E i j) (fun i q => ⟨i, q, R1.refl i⟩) (fun a b ⟨i, q, r⟩ e => ⟨i, q, r.step e⟩)
  · rintro ⟨i, q, r⟩
    exact r (RS E S) (fun a h => by rw [h]; exact RS.base q) (fun _ _ q e => RS.step q e)
theorem R1.mono {E E' : Nat → Nat → Prop} {i j : Nat} (h : R1 E i j) (hE : ∀ a b, E a b → E' a b) : R1 E' i j := RS.mono h (fun _ q => q) hE
/-- a step more at the end, or none -/
theorem R1.cases {E : Nat → Nat → Prop} {i j : Nat} (h : R1 E i j) : i = j ∨ ∃ a, R1 E i a ∧ E a j := by
  refine (h (fun j => R1 E i j ∧ (i = j ∨ ∃ a, R1 E i a ∧ E a j)) (fun a q => ?_) (fun a b q e => ⟨q.1.step e, Or.inr ⟨a, q.1, e⟩⟩)).2
  rw [q]
  exact ⟨R1.refl i, Or.inl rfl⟩
/-- a step more at the beginning, or none -/
theorem R1.hcases {E : Nat → Nat → Prop} {i j : Nat} (h : R1 E i j) : i = j ∨ ∃ a, E i a ∧ R1 E a j := by
  refine h (fun j => i = j ∨ ∃ a, E i a ∧ R1 E a j) (fun a q => Or.inl q.symm) (fun a b q e => ?_)
  rcases q with q | ⟨c, h1, h2⟩
  · subst q
    exact Or.inr ⟨b, e, R1.refl b⟩
  · exact Or.inr ⟨c, h1, h2.step e⟩
/-- within r steps -/
def Rk (E : Nat → Nat → Prop) : Nat → Nat → Nat → Prop
  | 0, i, j => i = j
  | r + 1, i, j => Rk E r i j ∨ ∃ t, E i t ∧ Rk E r t j
theorem Rk.mono {E : Nat → Nat → Prop} {r s i j : Nat} (h : r ≤ s) (q : Rk E r i j) : Rk E s i j := by
  induction s with
  | zero => rw [Nat.le_zero.mp h] at q; exact q
  | succ s ih =>
    rcases Nat.lt_or_ge r (s + 1) with a | a
    · exact Or.inl (ih (by omega))
    · rw [show r = s + 1 by omega] at q; exact q
theorem Rk.refl {E : Nat → Nat → Prop} (r i : Nat) : Rk E r i i := Rk.mono (Nat.zero_le r) (show Rk E 0 i i from rfl)
/-- a part with less counts less -/
theorem ct_lt {p q : Nat → Bool} : ∀ {n : Nat}, (∀ k, k < n → p k = true → q k = true) → (∃ k, k < n ∧ q k = true ∧ p k = false) → fb_ct p n < fb_ct q n
  | 0, _, h => by obtain ⟨k, hk, _⟩ := h; omega
  | n + 1, h, hx => by
    rw [fb_ct_succ, fb_ct_succ]
    obtain ⟨k, hk, h1, h2⟩ := hx
    have hle := fb_ct_sub (p := p) (q := q) (n := n) (fun j hj => h j (by omega))
    by_cases e : k = n
    · subst e
      rw [h1, h2]
      simp
      omega
    · have := ct_lt (n := n) (fun j hj => h j (by omega)) ⟨k, by omega, h1, h2⟩
      have h3 : (if p n = true then 1 else 0) ≤ (if q n = true then 1 else 0) := by
        by_cases z : p n = true
        · rw [if_pos z, if_pos (h n (by omega) z)]; exact Nat.le_refl _
        · rw [if_neg z]; exact Nat.zero_le _
      omega
noncomputable def pd (P : Nat → Prop) : Nat → Bool := fun i => (Classical.propDecidable (P i)).decide
theorem pd_t {P : Nat → Prop} {i : Nat} : pd P i = true ↔ P i := by simp [pd]
theorem pd_f {P : Nat → Prop} {i : Nat} : pd P i = false ↔ ¬ P i := by simp [pd]
noncomputable def cnt (P : Nat → Prop) (n : Nat) : Nat := fb_ct (pd P) n
theorem cnt_le (P : Nat → Prop) (n : Nat) : cnt P n ≤ n := fb_ct_le _ n
theorem cnt_mono {P Q : Nat → Prop} {n : Nat} (h : ∀ i, i < n → P i → Q i) : cnt P n ≤ cnt Q n := fb_ct_sub (fun k hk q => pd_t.mpr (h k hk (pd_t.mp q)))
theorem cnt_lt {P Q : Nat → Prop} {n : Nat} (h : ∀ i, i < n → P i → Q i) (hx : ∃ i, i < n ∧ Q i ∧ ¬ P i) : cnt P n < cnt Q n := by
  obtain ⟨i, h1, h2, h3⟩ := hx
  exact ct_lt (fun k hk q => pd_t.mpr (h k hk (pd_t.mp q))) ⟨i, h1, pd_t.mpr h2, pd_f.mpr h3⟩
theorem cnt_congr {P Q : Nat → Prop} {n : Nat} (h : ∀ i, i < n → (P i ↔ Q i)) : cnt P n = cnt Q n := Nat.le_antisymm (cnt_mono (fun i hi => (h i hi).mp)) (cnt_mono (fun i hi => (h i hi).mpr))
theorem cnt_eq {P Q : Nat → Prop} {n : Nat} (h : ∀ i, i < n → P i → Q i) (e : cnt P n = cnt Q n) : ∀ i, i < n → Q i → P i := by
  intro i hi q
  refine Classical.byContradiction (fun hp => ?_)
  have := cnt_lt h ⟨i, hi, q, hp⟩
  omega
theorem cnt_pos {P : Nat → Prop} {n : Nat} : 0 < cnt P n ↔ ∃ i, i < n ∧ P i := by
  unfold cnt
  rw [fb_ct_pos]
  constructor
  · rintro ⟨i, h1, h2⟩; exact ⟨i, h1, pd_t.mp h2⟩
  · rintro ⟨i, h1, h2⟩; exact ⟨i, h1, pd_t.mpr h2⟩
theorem cnt_zero {P : Nat → Prop} {n : Nat} : cnt P n = 0 ↔ ∀ i, i < n → ¬ P i := by
  constructor
  · intro h i hi q
    have := cnt_pos.mpr ⟨i, hi, q⟩
    omega
  · intro h
    rcases Nat.eq_zero_or_pos (cnt P n) with q | q
    · exact q
    · obtain ⟨i, hi, z⟩ := cnt_pos.mp q
      exact absurd z (h i hi)
/-- of N places one comes to another within N - 1 steps, or never -/
theorem Rk_bound {E : Nat → Nat → Prop} {N i j : Nat} (hE : ∀ a b, E a b → a < N) (hN : 0 < N) (hi : i < N) (hj : j < N) (h : R1 E i j) : Rk E (N - 1) i j := by
  have ex : ∃ r, r ≤ N - 1 ∧ ∀ a, a < N → Rk E (r + 1) a j → Rk E r a j := by
    refine Classical.byContradiction (fun hno => ?_)
    have grow : ∀ r, r ≤ N → r + 1 ≤ cnt (fun a => Rk E r a j) N := by
      intro r
      induction r with
      | zero => intro _; exact cnt_pos.mpr ⟨j, hj, rfl⟩
      | succ r ih =>
        intro hr
        have h1 := ih (by omega)
        have h2 : cnt (fun a => Rk E r a j) N < cnt (fun a => Rk E (r + 1) a j) N := by
          refine cnt_lt (fun a _ q => Or.inl q) (Classical.byContradiction (fun hz => hno ⟨r, by omega, fun a ha q => Classical.byContradiction (fun q2 => hz ⟨a, ha, q, q2⟩)⟩))
        omega
    have := grow N (Nat.le_refl _)
    have := cnt_le (fun a => Rk E N a j) N
    omega
  obtain ⟨r, hr, hst⟩ := ex
  refine Rk.mono hr (Classical.byContradiction (fun hno => ?_))
  exact h (fun b => ¬ Rk E r b j) (fun a q => by rw [q]; exact hno) (fun a b q e q2 => q (hst a (hE a b e) (Or.inr ⟨b, e, q2⟩))) (Rk.refl r j)
/-- rows that are closed hold all that comes -/
theorem rows_closed {E A : Nat → Nat → Prop} (h0 : ∀ i, A i i) (h1 : ∀ i t, E i t → ∀ j, A t j → A i j) {i j : Nat} (h : R1 E i j) : A i j :=
  h (fun b => ∀ j, A b j → A i j) (fun a q j z => by rw [q] at z; exact z) (fun a b q e j z => q j (h1 a b e j z)) j (h0 j)
