/-! bits of longs -/
def bL (x : Int64) (i : Nat) : Bool := x.toBitVec.getLsbD i
theorem bL_ext {x y : Int64} (h : ∀ i, i < 64 → bL x i = bL y i) : x = y := Int64.toBitVec_inj.mp (BitVec.eq_of_getLsbD_eq (fun i hi => h i hi))
theorem bL_or (x y : Int64) (i : Nat) : bL (x ||| y) i = (bL x i || bL y i) := by unfold bL; rw [Int64.toBitVec_or, BitVec.getLsbD_or]
theorem bL_and (x y : Int64) (i : Nat) : bL (x &&& y) i = (bL x i && bL y i) := by unfold bL; rw [Int64.toBitVec_and, BitVec.getLsbD_and]
theorem bL_0 (i : Nat) : bL 0 i = false := BitVec.getLsbD_zero
theorem bL_1 (i : Nat) : bL 1 i = decide (i = 0) := by
  rcases Nat.lt_or_ge i 64 with h | h
  · exact (by decide +kernel : ∀ i, i < 64 → bL 1 i = decide (i = 0)) i h
  · rw [show bL 1 i = false from BitVec.getLsbD_of_ge _ _ h, decide_eq_false (by omega)]
theorem sL_l : ∀ n, n < 64 → ((lN n &&& 63).toBitVec.smod 64).toNat = n := by decide +kernel
theorem bL_shl (n : Nat) (hn : n < 64) (x : Int64) {i : Nat} (hi : i < 64) : bL (x <<< (lN n &&& 63)) i = (decide (n ≤ i) && bL x (i - n)) := by
  unfold bL
  rw [Int64.toBitVec_shiftLeft]
  show (x.toBitVec <<< ((lN n &&& 63).toBitVec.smod 64).toNat).getLsbD i = _
  rw [sL_l n hn, BitVec.getLsbD_shiftLeft]
  rcases Nat.lt_or_ge i n with h | h
  · simp [h, Nat.not_le.mpr h]
  · simp [hi, h, Nat.not_lt.mpr h]
theorem bL_sshr (n : Nat) (hn : n < 64) (x : Int64) {i : Nat} (hi : i < 64) : bL (x >>> (lN n &&& 63)) i = if n + i < 64 then bL x (n + i) else bL x 63 := by
  unfold bL
  rw [Int64.toBitVec_shiftRight]
  show (x.toBitVec.sshiftRight ((lN n &&& 63).toBitVec.smod 64).toNat).getLsbD i = _
  rw [sL_l n hn, BitVec.getLsbD_sshiftRight, BitVec.msb_eq_getLsbD_last]
  simp [hi]
theorem bL_tst {x : Int64} {j : Nat} (hj : j < 64) : ((x >>> (lN j &&& 63)) &&& 1) = 1 ↔ bL x j = true := by
  have e0 : bL (x >>> (lN j &&& 63)) 0 = bL x j := by
    rw [bL_sshr j hj x (by decide : 0 < 64), if_pos (by omega), Nat.add_zero]
  constructor
  · intro h
    have : bL ((x >>> (lN j &&& 63)) &&& 1) 0 = bL 1 0 := by rw [h]
    rw [bL_and, e0, bL_1] at this
    simpa using this
  · intro h
    apply bL_ext
    intro i hi
    rw [bL_and, bL_1]
    by_cases e : i = 0
    · subst e; rw [e0, h]; rfl
    · simp [e]
theorem bL_bit {j i : Nat} (hj : j < 64) (hi : i < 64) : bL (1 <<< (lN j &&& 63)) i = true ↔ i = j := by
  rw [bL_shl j hj 1 hi, bL_1]
  by_cases h : i = j
  · subst h; simp
  · rcases Nat.lt_or_ge i j with q | q
    · simp [h, Nat.not_le.mpr q]
    · have h2 : ¬ i - j = 0 := by omega
      simp [h, h2]
/-- a row of a hundred bits in two longs -/
def HB (lo hi : Int64) (e : Nat) : Bool := if e < 50 then bL lo e else bL hi (e - 50)
theorem lgc (y : Int64) : lg_cmp y 1 = 0 ↔ y = 1 := by
  unfold lg_cmp
  constructor
  · intro h
    by_cases h1 : y > 1
    · rw [if_pos h1] at h; exact absurd h (by decide)
    · rw [if_neg h1] at h
      by_cases h2 : y = 1
      · exact h2
      · rw [if_neg h2] at h; exact absurd h (by decide)
  · intro h
    subst h
    decide
theorem r_has {lo hi : Int64} {e : Nat} {Φ : Int32 → Prop} (he : e < 100) (h : Φ (b01 (HB lo hi e))) : w_X10_has lo hi (nI e) Φ := by
  unfold w_X10_has
  have le50 : (50 : Int32) ≤ nI e ↔ 50 ≤ e := nI_leI (a := 50) (by decide) (by omega)
  rw [le50]
  have fin : ∀ y : Int64, (y = 1 ↔ HB lo hi e = true) → (¬ (lg_cmp y 1) = 0 → Φ 0) ∧ ((lg_cmp y 1) = 0 → Φ 1) := by
    intro y hy
    rw [lgc, hy]
    refine ⟨fun z => ?_, fun z => ?_⟩
    · have : HB lo hi e = false := by cases q : HB lo hi e; rfl; exact absurd q z
      rw [this] at h; exact h
    · rw [z] at h; exact h
  intro J hJ
  refine ⟨fun z => hJ _ (fin _ ?_), fun z => hJ _ (fin _ ?_)⟩
  · have e1 : nI e - 50 = nI (e - 50) := pk_sub (b := 50) z
    rw [e1, nI_l (show e - 50 < 2 ^ 31 by omega), bL_tst (by omega), HB, if_neg (by omega)]
  · rw [nI_l (show e < 2 ^ 31 by omega), bL_tst (by omega), HB, if_pos (by omega)]
/-- who leads to whom: by a step; by a way of the mark -/
def ED (s : ft_St) (a e : Nat) : Prop := HB (s.2.2 12 a) (s.2.2 13 a) e = true
def EM (s : ft_St) (a e : Nat) : Prop := HB (s.2.2 10 a) (s.2.2 11 a) e = true
theorem sL_1 (σ : ft_St) (k : Nat) (f : Nat → Int64) : (ft_sL σ k f).1 = σ.1 := rfl
theorem sL_2 (σ : ft_St) (k : Nat) (f : Nat → Int64) : (ft_sL σ k f).2.1 = σ.2.1 := rfl
theorem updL_s {f : Nat → Int64} {k : Nat} {x : Int64} : vp_updL f k x k = x := pk_uLs
theorem updL_n {f : Nat → Int64} {k j : Nat} {x : Int64} (h : j ≠ k) : vp_updL f k x j = f j := pk_uLn h
theorem HB_lo {lo hi y : Int64} {e o : Nat} (he : e < 100) (ho : o < 50) (hy : ∀ i, i < 64 → (bL y i = true ↔ i = o)) : HB (lo ||| y) hi e = true ↔ HB lo hi e = true ∨ e = o := by
  unfold HB
  by_cases q : e < 50
  · rw [if_pos q, if_pos q, bL_or, Bool.or_eq_true, hy e (by omega)]
  · rw [if_neg q, if_neg q]
    exact ⟨fun z => Or.inl z, fun z => z.elim id (fun z => absurd z (by omega))⟩
theorem HB_hi {lo hi y : Int64} {e o : Nat} (he : e < 100) (ho : 50 ≤ o) (ho2 : o < 100) (hy : ∀ i, i < 64 → (bL y i = true ↔ i = o - 50)) : HB lo (hi ||| y) e = true ↔ HB lo hi e = true ∨ e = o := by
  unfold HB
  by_cases q : e < 50
  · rw [if_pos q, if_pos q]
    exact ⟨fun z => Or.inl z, fun z => z.elim id (fun z => absurd z (by omega))⟩
  · rw [if_neg q, if_neg q, bL_or, Bool.or_eq_true, hy (e - 50) (by omega)]
    constructor
    · rintro (z | z)
      · exact Or.inl z
      · exact Or.inr (by omega)
    · rintro (z | z)
      · exact Or.inl z
      · exact Or.inr (by omega)
theorem orL0 (x : Int64) : x ||| 0 = x := by
  apply bL_ext
  intro i _
  rw [bL_or, bL_0, Bool.or_false]
theorem r_leads {σ : ft_St} {a o : Nat} {b : Int32} {Φ : ft_St → Prop} (ha : a < 100) (ho : o < 100) (h : ∀ s, s.1 = σ.1 → s.2.1 = σ.2.1 → (∀ x e, x < 100 → e < 100 → (ED s x e ↔ ED σ x e ∨ (x = a ∧ e = o))) → (∀ x e, x < 100 → e < 100 → (EM s x e ↔ EM σ x e ∨ (¬ b = 0 ∧ x = a ∧ e = o))) → Φ s) : w_X10_leads (nI a) (nI o) b σ Φ := by
  unfold w_X10_leads
  have er : nI o - nI o / 50 * 50 = nI (o % 50) := pk_rem (d := 50) (by omega) (by decide) (by decide)
  have hin : vp_in (nI a) 100 := vp_in_nI ha (by decide)
  have hca : (nI a).toNatClampNeg = a := nI_clamp (by omega)
  have le50 : (50 : Int32) ≤ nI o ↔ 50 ≤ o := nI_leI (a := 50) (by decide) (by omega)
  rw [er, nI_l (show o % 50 < 2 ^ 31 by omega), hca, le50]
  intro y hy
  have hyb : ∀ i, i < 64 → (bL y i = true ↔ i = o % 50) := fun i hi => by rw [hy]; exact bL_bit (by omega) hi
  refine ⟨fun z => ⟨hin, hin, fun s2 h2 => ⟨hin, ?_⟩⟩, fun z => ⟨hin, hin, fun s2 h2 => ⟨hin, ?_⟩⟩⟩
  · have hyb : ∀ i, i < 64 → (bL y i = true ↔ i = o - 50) := fun i hi => by rw [hyb i hi]; omega
    have fin : ∀ y3 : Int64, ((¬ b = 0 ∧ y3 = y) ∨ (b = 0 ∧ y3 = 0)) → vp_in (nI a) 100 ∧ ∀ s5 : ft_St, s5 = ft_sL s2 11 (vp_updL (s2.2.2 11) a ((s2.2.2 11 a) ||| y3)) → Φ s5 := by
      intro y3 hy3
      refine ⟨hin, fun s5 h5 => h s5 (by rw [h5, h2]; rfl) (by rw [h5, h2]; rfl) (fun x e hx he => ?_) (fun x e hx he => ?_)⟩
      · unfold ED
        have k12 : s5.2.2 12 = σ.2.2 12 := by rw [h5, h2]; rfl
        have k13 : s5.2.2 13 = vp_updL (σ.2.2 13) a (σ.2.2 13 a ||| y) := by rw [h5, h2]; rfl
        rw [k12, k13]
        by_cases q : x = a
        · subst q; rw [updL_s, HB_hi he z ho hyb]; simp
        · rw [updL_n q]; simp [q]
      · unfold EM
        have k10 : s5.2.2 10 = σ.2.2 10 := by rw [h5, h2]; rfl
        have k11 : s5.2.2 11 = vp_updL (σ.2.2 11) a (σ.2.2 11 a ||| y3) := by rw [h5, h2]; rfl
        rw [k10, k11]
        by_cases q : x = a
        · subst q
          rw [updL_s]
          rcases hy3 with ⟨hb, e3⟩ | ⟨hb, e3⟩
          · rw [e3, HB_hi he z ho hyb]; simp [hb]
          · rw [e3, orL0]; simp [hb]
        · rw [updL_n q]; simp [q]
    intro J hJ
    exact ⟨fun zb => hJ _ (fin 0 (Or.inr ⟨zb, rfl⟩)), fun zb => hJ _ (fin y (Or.inl ⟨zb, rfl⟩))⟩
  · have zo : o < 50 := by omega
    have hyb : ∀ i, i < 64 → (bL y i = true ↔ i = o) := fun i hi => by rw [hyb i hi]; omega
    have fin : ∀ y3 : Int64, ((¬ b = 0 ∧ y3 = y) ∨ (b = 0 ∧ y3 = 0)) → vp_in (nI a) 100 ∧ ∀ s5 : ft_St, s5 = ft_sL s2 10 (vp_updL (s2.2.2 10) a ((s2.2.2 10 a) ||| y3)) → Φ s5 := by
      intro y3 hy3
      refine ⟨hin, fun s5 h5 => h s5 (by rw [h5, h2]; rfl) (by rw [h5, h2]; rfl) (fun x e hx he => ?_) (fun x e hx he => ?_)⟩
      · unfold ED
        have k13 : s5.2.2 13 = σ.2.2 13 := by rw [h5, h2]; rfl
        have k12 : s5.2.2 12 = vp_updL (σ.2.2 12) a (σ.2.2 12 a ||| y) := by rw [h5, h2]; rfl
        rw [k12, k13]
        by_cases q : x = a
        · subst q; rw [updL_s, HB_lo he zo hyb]; simp
        · rw [updL_n q]; simp [q]
      · unfold EM
        have k11 : s5.2.2 11 = σ.2.2 11 := by rw [h5, h2]; rfl
        have k10 : s5.2.2 10 = vp_updL (σ.2.2 10) a (σ.2.2 10 a ||| y3) := by rw [h5, h2]; rfl
        rw [k10, k11]
        by_cases q : x = a
        · subst q
          rw [updL_s]
          rcases hy3 with ⟨hb, e3⟩ | ⟨hb, e3⟩
          · rw [e3, HB_lo he zo hyb]; simp [hb]
          · rw [e3, orL0]; simp [hb]
        · rw [updL_n q]; simp [q]
    intro J hJ
    exact ⟨fun zb => hJ _ (fin 0 (Or.inr ⟨zb, rfl⟩)), fun zb => hJ _ (fin y (Or.inl ⟨zb, rfl⟩))⟩
