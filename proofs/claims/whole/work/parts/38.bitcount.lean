/-! Integer.bitCount below 2^20 -/
theorem nI_and (a b : Nat) : nI a &&& nI b = nI (a &&& b) := by
  apply b_ext
  intro i hi
  rw [b_and, b_nI hi, b_nI hi, b_nI hi, Nat.testBit_and]
theorem land_split (k : Nat) {a p : Nat} (b q : Nat) (ha : a < 2 ^ k) (hp : p < 2 ^ k) : (2 ^ k * b + a) &&& (2 ^ k * q + p) = 2 ^ k * (b &&& q) + (a &&& p) := by
  apply Nat.eq_of_testBit_eq
  intro i
  have hap : (a &&& p) < 2 ^ k := Nat.lt_of_le_of_lt Nat.and_le_left ha
  rw [Nat.testBit_and, Nat.testBit_two_pow_mul_add b ha, Nat.testBit_two_pow_mul_add q hp, Nat.testBit_two_pow_mul_add _ hap]
  split
  · rw [Nat.testBit_and]
  · rw [Nat.testBit_and]
def bcA (n : Nat) : Nat := n - (n / 2 &&& 1431655765)
def bcB (m : Nat) : Nat := (m &&& 858993459) + (m / 4 &&& 858993459)
def bcC (y : Nat) : Nat := (y + y / 16) &&& 252645135
def bcD (y : Nat) : Nat := ((bcC y + bcC y / 256) + (bcC y + bcC y / 256) / 65536) &&& 63
theorem bc_h (a b : Nat) (ha : a < 4096) : (4096 * b + a) / 2 &&& 1431655765 = 4096 * (b / 2 &&& 349525) + (a / 2 &&& 1365) := by
  have e1 : (4096 * b + a) / 2 = 2 ^ 12 * (b / 2) + (2 ^ 11 * (b % 2) + a / 2) := by omega
  have e2 : (1431655765 : Nat) = 2 ^ 12 * 349525 + 1365 := by decide
  have e3 : (1365 : Nat) = 2 ^ 11 * 0 + 1365 := by decide
  rw [e1, e2, land_split 12 _ _ (by omega) (by decide)]
  have e4 : (2 ^ 11 * (b % 2) + a / 2) &&& 1365 = (a / 2 &&& 1365) := by
    have t := land_split 11 (a := a / 2) (p := 1365) (b % 2) 0 (by omega) (by decide)
    rw [Nat.and_zero, Nat.mul_zero, Nat.zero_add, Nat.zero_add] at t
    exact t
  rw [e4]
theorem bc_q (a b : Nat) (ha : a < 4096) : (4096 * b + a) / 4 &&& 858993459 = 4096 * (b / 4 &&& 209715) + (a / 4 &&& 819) := by
  have e1 : (4096 * b + a) / 4 = 2 ^ 12 * (b / 4) + (2 ^ 10 * (b % 4) + a / 4) := by omega
  have e2 : (858993459 : Nat) = 2 ^ 12 * 209715 + 819 := by decide
  have e3 : (819 : Nat) = 2 ^ 10 * 0 + 819 := by decide
  rw [e1, e2, land_split 12 _ _ (by omega) (by decide)]
  have e4 : (2 ^ 10 * (b % 4) + a / 4) &&& 819 = (a / 4 &&& 819) := by
    have t := land_split 10 (a := a / 4) (p := 819) (b % 4) 0 (by omega) (by decide)
    rw [Nat.and_zero, Nat.mul_zero, Nat.zero_add, Nat.zero_add] at t
    exact t
  rw [e4]
theorem bc_m (a b : Nat) (ha : a < 4096) : (4096 * b + a) &&& 858993459 = 4096 * (b &&& 209715) + (a &&& 819) := by
  have e2 : (858993459 : Nat) = 2 ^ 12 * 209715 + 819 := by decide
  rw [show 4096 * b + a = 2 ^ 12 * b + a from rfl, e2, land_split 12 _ _ (by omega) (by decide)]
def nib (t : Nat) : Nat := t % 2 + t / 2 % 2 + t / 4 % 2 + t / 8 % 2
theorem bc_lo2 : ∀ u, u < 64 → ∀ v, v < 64 → (((64 * u + v) - ((64 * u + v) / 2 &&& 1365)) &&& 819) + (((64 * u + v) - ((64 * u + v) / 2 &&& 1365)) / 4 &&& 819) = nib ((64 * u + v) % 16) + 16 * nib ((64 * u + v) / 16 % 16) + 256 * nib ((64 * u + v) / 256) := by decide +kernel
theorem bc_lo (a : Nat) (ha : a < 4096) : ((a - (a / 2 &&& 1365)) &&& 819) + ((a - (a / 2 &&& 1365)) / 4 &&& 819) = nib (a % 16) + 16 * nib (a / 16 % 16) + 256 * nib (a / 256) := by
  have := bc_lo2 (a / 64) (by omega) (a % 64) (by omega)
  rw [show 64 * (a / 64) + a % 64 = a by omega] at this
  exact this
theorem bc_hi : ∀ b, b < 256 → ((b - (b / 2 &&& 349525)) &&& 209715) + ((b - (b / 2 &&& 349525)) / 4 &&& 209715) = nib (b % 16) + 16 * nib (b / 16) := by decide +kernel
theorem bc_tail : ∀ g0, g0 < 5 → ∀ g1, g1 < 5 → ∀ g2, g2 < 5 → ∀ g3, g3 < 5 → ∀ g4, g4 < 5 → bcD (4096 * (g3 + 16 * g4) + (g0 + 16 * g1 + 256 * g2)) = g0 + g1 + g2 + g3 + g4 := by decide +kernel
theorem nib_lt (t : Nat) : nib t < 5 := by unfold nib; omega
theorem bc_all (n : Nat) (hn : n < 1048576) : bcD (bcB (bcA n)) = nib (n % 16) + nib (n / 16 % 16) + nib (n / 256 % 16) + nib (n / 4096 % 16) + nib (n / 65536) := by
  obtain ⟨a, b, ha, hb, rfl⟩ : ∃ a b, a < 4096 ∧ b < 256 ∧ n = 4096 * b + a := ⟨n % 4096, n / 4096, by omega, by omega, by omega⟩
  have l1 : (a / 2 &&& 1365) ≤ a := Nat.le_trans Nat.and_le_left (by omega)
  have l2 : (b / 2 &&& 349525) ≤ b := Nat.le_trans Nat.and_le_left (by omega)
  have eA : bcA (4096 * b + a) = 4096 * (b - (b / 2 &&& 349525)) + (a - (a / 2 &&& 1365)) := by
    unfold bcA
    rw [bc_h a b ha]
    omega
  have hlt : a - (a / 2 &&& 1365) < 4096 := by omega
  have eB : bcB (bcA (4096 * b + a)) = 4096 * (nib (b % 16) + 16 * nib (b / 16)) + (nib (a % 16) + 16 * nib (a / 16 % 16) + 256 * nib (a / 256)) := by
    rw [eA]
    unfold bcB
    rw [bc_m _ _ hlt, bc_q _ _ hlt, ← bc_lo a ha, ← bc_hi b hb]
    omega
  rw [eB, bc_tail _ (nib_lt _) _ (nib_lt _) _ (nib_lt _) _ (nib_lt _) _ (nib_lt _)]
  rw [show (4096 * b + a) % 16 = a % 16 by omega, show (4096 * b + a) / 16 % 16 = a / 16 % 16 by omega, show (4096 * b + a) / 256 % 16 = a / 256 by omega, show (4096 * b + a) / 4096 % 16 = b % 16 by omega, show (4096 * b + a) / 65536 = b / 16 by omega]
theorem t_bitCountN {n : Nat} {Φ : Int32 → Prop} (hn : n < 1048576) (h : Φ (nI (bcD (bcB (bcA n))))) : w_J6_bitCount_0f7a4 (nI n) Φ := by
  have us : ∀ (m : Nat) (s : Int32) (k : Nat), ((s.toUInt32 &&& Int32.toUInt32 31).toBitVec % 32).toNat = k → m < 2 ^ 32 → ((nI m).toUInt32 >>> (s.toUInt32 &&& Int32.toUInt32 31)).toInt32 = nI (m / 2 ^ k) := fun m s k hs hm => pk_ushrN hm s k hs
  have lA : bcA n ≤ n := Nat.sub_le _ _
  have lB : bcB (bcA n) ≤ 858993459 + 858993459 := Nat.add_le_add Nat.and_le_right Nat.and_le_right
  have lC : bcC (bcB (bcA n)) ≤ 252645135 := Nat.and_le_right
  have l1 : (n / 2 &&& 1431655765) ≤ n := Nat.le_trans Nat.and_le_left (by omega)
  have sA : nI n - (((nI n).toUInt32 >>> (Int32.toUInt32 1 &&& Int32.toUInt32 31)).toInt32 &&& 1431655765) = nI (bcA n) := by
    rw [us n 1 1 (by decide) (by omega), show (1431655765 : Int32) = nI 1431655765 from rfl, nI_and, pk_sub l1]
    rfl
  have sB : (nI (bcA n) &&& 858993459) + (((nI (bcA n)).toUInt32 >>> (Int32.toUInt32 2 &&& Int32.toUInt32 31)).toInt32 &&& 858993459) = nI (bcB (bcA n)) := by
    rw [us _ 2 2 (by decide) (by omega), show (858993459 : Int32) = nI 858993459 from rfl, nI_and, nI_and, nI_add]
    rfl
  have sC : (nI (bcB (bcA n)) + ((nI (bcB (bcA n))).toUInt32 >>> (Int32.toUInt32 4 &&& Int32.toUInt32 31)).toInt32) &&& 252645135 = nI (bcC (bcB (bcA n))) := by
    rw [us _ 4 4 (by decide) (by omega), show (252645135 : Int32) = nI 252645135 from rfl, nI_add, nI_and]
    rfl
  obtain ⟨c, hc⟩ : ∃ c, c = bcC (bcB (bcA n)) := ⟨_, rfl⟩
  rw [← hc] at sC lC
  have sD : nI c + ((nI c).toUInt32 >>> (Int32.toUInt32 8 &&& Int32.toUInt32 31)).toInt32 = nI (c + c / 256) := by
    rw [us _ 8 8 (by decide) (by omega), nI_add]
  have sE : nI (c + c / 256) + ((nI (c + c / 256)).toUInt32 >>> (Int32.toUInt32 16 &&& Int32.toUInt32 31)).toInt32 = nI ((c + c / 256) + (c + c / 256) / 65536) := by
    rw [us _ 16 16 (by decide) (by omega), nI_add]
  have sG : nI ((c + c / 256) + (c + c / 256) / 65536) &&& 63 = nI (bcD (bcB (bcA n))) := by
    rw [show (63 : Int32) = nI 63 from rfl, nI_and, hc]
    rfl
  unfold w_J6_bitCount_0f7a4
  rintro _ rfl
  rw [sA]
  rintro _ rfl
  rw [sB]
  rintro _ rfl
  rw [sC]
  rintro _ rfl
  rw [sD]
  rintro _ rfl
  rw [sE, sG]
  exact h
theorem cnt_nib {n : Nat} : ∀ k, k + 4 ≤ 32 → cnt (fun j => bt (nI n) j = true) (k + 4) = cnt (fun j => bt (nI n) j = true) k + nib (n / 2 ^ k) := by
  intro k hk
  have one : ∀ j, j < 32 → (if pd (fun j => bt (nI n) j = true) j = true then 1 else 0) = n / 2 ^ j % 2 := by
    intro j hj
    by_cases e : bt (nI n) j = true
    · rw [if_pos (pd_t.mpr e)]
      rw [b_nI hj, Nat.testBit_eq_decide_div_mod_eq] at e
      have := of_decide_eq_true e
      omega
    · rw [if_neg (by rw [pd_t]; exact e)]
      rw [b_nI hj, Nat.testBit_eq_decide_div_mod_eq] at e
      have : ¬ n / 2 ^ j % 2 = 1 := fun z => e (decide_eq_true z)
      omega
  rw [show k + 4 = k + 3 + 1 from rfl, cnt_succ, show k + 3 = k + 2 + 1 from rfl, cnt_succ, show k + 2 = k + 1 + 1 from rfl, cnt_succ, cnt_succ, one _ (by omega), one _ (by omega), one _ (by omega), one _ (by omega)]
  unfold nib
  have p1 : n / 2 ^ (k + 1) = n / 2 ^ k / 2 := by rw [Nat.pow_succ, Nat.div_div_eq_div_mul]
  have p2 : n / 2 ^ (k + 1 + 1) = n / 2 ^ k / 4 := by rw [Nat.pow_succ, Nat.pow_succ, Nat.mul_assoc, Nat.div_div_eq_div_mul]
  have p3 : n / 2 ^ (k + 1 + 1 + 1) = n / 2 ^ k / 8 := by rw [Nat.pow_succ, Nat.pow_succ, Nat.pow_succ, Nat.mul_assoc, Nat.mul_assoc, Nat.div_div_eq_div_mul]
  rw [show k + 2 + 1 = k + 1 + 1 + 1 from rfl, p1, p2, p3]
  omega
theorem cnt_20 {n : Nat} (hn : n < 1048576) : cnt (fun j => bt (nI n) j = true) 20 = bcD (bcB (bcA n)) := by
  rw [bc_all n hn, cnt_nib 16 (by decide), cnt_nib 12 (by decide), cnt_nib 8 (by decide), cnt_nib 4 (by decide), cnt_nib 0 (by decide)]
  have z : cnt (fun j => bt (nI n) j = true) 0 = 0 := rfl
  rw [z]
  have m : ∀ t, nib (t % 16) = nib t := by intro t; unfold nib; omega
  rw [m, m, m, m]
  have e0 : n / 2 ^ 0 = n := by simp
  rw [e0]
  have e4 : n / 2 ^ 4 = n / 16 := rfl
  have e8 : n / 2 ^ 8 = n / 256 := rfl
  have e12 : n / 2 ^ 12 = n / 4096 := rfl
  have e16 : n / 2 ^ 16 = n / 65536 := rfl
  rw [e4, e8, e12, e16]
  omega
/-- a number whose bits are below 20 -/
theorem low20 {x : Int32} (h : ∀ i, bt x i = true → i < 20) : ∃ n, n < 1048576 ∧ x = nI n := by
  refine ⟨x.toBitVec.toNat, ?_, ?_⟩
  · refine Nat.lt_pow_two_of_testBit (n := 20) _ (fun i hi => ?_)
    cases e : x.toBitVec.toNat.testBit i
    · rfl
    · have := h i e
      omega
  · apply b_ext
    intro i hi
    rw [b_nI hi]
    rfl
theorem t_bitCount {x : Int32} {Φ : Int32 → Prop} (hx : ∀ i, bt x i = true → i < 20) (h : Φ (nI (cnt (fun j => bt x j = true) 20))) : w_J6_bitCount_0f7a4 x Φ := by
  obtain ⟨n, hn, rfl⟩ := low20 hx
  rw [cnt_20 hn] at h
  exact t_bitCountN hn h
theorem cnt_cut {P : Nat → Prop} {a b : Nat} (hab : a ≤ b) (h : ∀ i, P i → i < a) : cnt P b = cnt P a := by
  obtain ⟨k, rfl⟩ : ∃ k, b = a + k := ⟨b - a, by omega⟩
  induction k with
  | zero => rfl
  | succ k ih =>
    have hn : ¬ pd P (a + k) = true := by
      rw [pd_t]
      intro z
      have := h _ z
      omega
    rw [← Nat.add_assoc, cnt_succ, ih (by omega), if_neg hn]
    rfl
