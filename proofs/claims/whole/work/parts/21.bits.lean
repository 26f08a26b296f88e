/-! bits as Java tests and sets them -/
theorem b_1 (i : Nat) : bt 1 i = decide (i = 0) := by
  rcases Nat.lt_or_ge i 32 with h | h
  · exact (by decide +kernel : ∀ i, i < 32 → bt 1 i = decide (i = 0)) i h
  · rw [b_big h, decide_eq_false (by omega)]
theorem b_1023 (i : Nat) : bt 1023 i = decide (i < 10) := by
  rcases Nat.lt_or_ge i 32 with h | h
  · exact (by decide +kernel : ∀ i, i < 32 → bt 1023 i = decide (i < 10)) i h
  · rw [b_big h, decide_eq_false (by omega)]
theorem b_not (x : Int32) {i : Nat} (h : i < 32) : bt (x ^^^ (-1)) i = !bt x i := by
  rw [b_xor, b_m1 i h]
  cases bt x i <;> rfl
theorem b_eq0 {x : Int32} : x = 0 ↔ ∀ i, i < 32 → bt x i = false := by
  refine ⟨fun h i _ => by rw [h, b_0], fun h => b_ext (fun i hi => by rw [h i hi, b_0])⟩
theorem b_and1 (y : Int32) : y &&& 1 = if bt y 0 then 1 else 0 := by
  apply b_ext
  intro i hi
  rw [b_and, b_1]
  by_cases h : i = 0
  · subst h
    cases h2 : bt y 0 <;> simp [b_0, b_1]
  · cases h2 : bt y 0 <;> simp [b_0, b_1, h]
theorem b_tst {x : Int32} {j : Nat} (hj : j < 32) : ((x >>> (nI j &&& 31)) &&& 1) = 1 ↔ bt x j = true := by
  rw [b_and1, b_sshr j hj x (by decide : 0 < 32)]
  rw [if_pos (by omega : j + 0 < 32), Nat.add_zero]
  cases bt x j <;> decide
theorem b_val {x : Int32} {j : Nat} (hj : j < 32) : ((x >>> (nI j &&& 31)) &&& 1) = if bt x j then 1 else 0 := by
  rw [b_and1, b_sshr j hj x (by decide : 0 < 32)]
  rw [if_pos (by omega : j + 0 < 32), Nat.add_zero]
theorem b_bit {j i : Nat} (hj : j < 32) (hi : i < 32) : bt (1 <<< (nI j &&& 31)) i = decide (i = j) := by
  rw [b_shl j hj 1 hi, b_1]
  by_cases h : i = j
  · subst h; simp
  · rcases Nat.lt_or_ge i j with q | q
    · simp [h, Nat.not_le.mpr q]
    · have h2 : ¬ i - j = 0 := by omega
      simp [h, h2]
theorem b_bitI {j i : Nat} (hj : j < 32) (hi : i < 32) : bt (1 <<< (nI j &&& 31)) i = true ↔ i = j := by
  rw [b_bit hj hi]; simp
theorem b_lt {x : Int32} {i : Nat} (h : bt x i = true) : i < 32 := by
  rcases Nat.lt_or_ge i 32 with q | q
  · exact q
  · rw [b_big q] at h; cases h
theorem b_nI {n i : Nat} (hi : i < 32) : bt (nI n) i = n.testBit i := by
  show (BitVec.ofNat 32 n).getLsbD i = n.testBit i
  rw [BitVec.getLsbD_ofNat]
  simp [hi]
theorem b_orI (x y : Int32) (i : Nat) : bt (x ||| y) i = true ↔ bt x i = true ∨ bt y i = true := by
  rw [b_or]; simp
theorem b_extI {x y : Int32} (h : ∀ i, i < 32 → (bt x i = true ↔ bt y i = true)) : x = y := by
  apply b_ext
  intro i hi
  have := h i hi
  cases h1 : bt x i <;> cases h2 : bt y i <;> simp_all
/-- a number with these bits -/
noncomputable def bI (P : Nat → Prop) : Nat → Int32
  | 0 => 0
  | n + 1 => bI P n ||| (if Classical.propDecidable (P n) |>.decide then 1 <<< (nI n &&& 31) else 0)
theorem bI_bt (P : Nat → Prop) : ∀ n, n ≤ 32 → ∀ i, i < 32 → (bt (bI P n) i = true ↔ i < n ∧ P i)
  | 0, _, i, _ => by simp [bI, b_0]
  | n + 1, hn, i, hi => by
    have ih := bI_bt P n (by omega) i hi
    show bt (bI P n ||| _) i = true ↔ _
    rw [b_orI, ih]
    by_cases hp : P n
    · have e : (Classical.propDecidable (P n)).decide = true := by simp [hp]
      rw [if_pos e, b_bitI (by omega) hi]
      constructor
      · rintro (h | h)
        · exact ⟨by omega, h.2⟩
        · subst h; exact ⟨by omega, hp⟩
      · rintro ⟨h1, h2⟩
        by_cases q : i = n
        · exact Or.inr q
        · exact Or.inl ⟨by omega, h2⟩
    · have e : ¬ (Classical.propDecidable (P n)).decide = true := by simp [hp]
      rw [if_neg e, b_0]
      constructor
      · rintro (h | h)
        · exact ⟨by omega, h.2⟩
        · cases h
      · rintro ⟨h1, h2⟩
        have q : i ≠ n := fun q => hp (q ▸ h2)
        exact Or.inl ⟨by omega, h2⟩
/-- the number whose bits are P, below 20 -/
noncomputable def bS (P : Nat → Prop) : Int32 := bI P 20
theorem bS_bt (P : Nat → Prop) {i : Nat} : bt (bS P) i = true ↔ i < 20 ∧ P i := by
  rcases Nat.lt_or_ge i 32 with h | h
  · exact bI_bt P 20 (by omega) i h
  · rw [b_big h]
    constructor
    · intro q; cases q
    · rintro ⟨q, _⟩; omega
theorem bS_eq {x : Int32} {P : Nat → Prop} (h : ∀ i, bt x i = true ↔ i < 20 ∧ P i) : x = bS P := b_extI (fun i _ => by rw [h i, bS_bt])
theorem bS_congr {P Q : Nat → Prop} (h : ∀ i, i < 20 → (P i ↔ Q i)) : bS P = bS Q := b_extI (fun i _ => by
  rw [bS_bt, bS_bt]
  exact ⟨fun q => ⟨q.1, (h i q.1).mp q.2⟩, fun q => ⟨q.1, (h i q.1).mpr q.2⟩⟩)
/-! the verdict -/
def verd (S : Int32) : Int32 := if S >>> (10 &&& 31) = 0 then 0 else if S &&& 1023 = 0 then 1 else 2
theorem verd_c (S : Int32) : ((S >>> (10 &&& 31)) <<< (10 &&& 31)) = S ↔ S &&& 1023 = 0 := by
  have e : ∀ i, i < 32 → bt ((S >>> (10 &&& 31)) <<< (10 &&& 31)) i = (decide (10 ≤ i) && bt S i) := by
    intro i hi
    have h1 := b_shl 10 (by decide) (S >>> (10 &&& 31)) hi
    rw [show (nI 10 : Int32) = 10 from rfl] at h1
    rw [h1]
    by_cases q : 10 ≤ i
    · have h2 := b_sshr 10 (by decide) S (show i - 10 < 32 by omega)
      rw [show (nI 10 : Int32) = 10 from rfl] at h2
      rw [h2, if_pos (by omega), show 10 + (i - 10) = i by omega]
    · simp [q]
  rw [b_eq0]
  constructor
  · intro h i hi
    rw [b_and, b_1023]
    by_cases q : i < 10
    · have := e i hi
      rw [h] at this
      simp [Nat.not_le.mpr q] at this
      simp [this]
    · simp [q]
  · intro h
    apply b_ext
    intro i hi
    rw [e i hi]
    by_cases q : 10 ≤ i
    · simp [q]
    · have := h i hi
      rw [b_and, b_1023] at this
      simp [Nat.lt_of_not_le q] at this
      simp [this]
