theorem r_isDoubt {σ : ft_St} {e : Nat} {Φ : Int32 → Prop} (he : e < 100) (h : (σ.2.1 9 (100 + e) = 1 → Φ 1) ∧ (¬ σ.2.1 9 (100 + e) = 1 → Φ 0)) : w_X10_isDoubt (nI e) σ Φ := by
  unfold w_X10_isDoubt
  rw [show (100 : Int32) + nI e = nI (100 + e) from nI_add 100 e, nI_clamp (show 100 + e < 2 ^ 31 by omega)]
  exact ⟨vp_in_nI (by omega) (by decide), h.2, h.1⟩
/-- the model's rows hold who leads to whom -/
def RepL (s : ft_St) (M : MM) (sn : Int32) : Prop := c01 (s.2.1 9) ∧ (∀ c, c < 200 → (s.2.1 9 c = 1 ↔ Pc M sn c)) ∧ (∀ x e, x < 100 → e < 100 → (ED s x e ↔ CD M sn x ∧ DE M sn x e)) ∧ (∀ x e, x < 100 → e < 100 → (EM s x e ↔ CD M sn x ∧ M1 M sn x e))
theorem r_findsLeads {σ : ft_St} {M : MM} {Φ : ft_St → Prop} (hM : RepRM σ M) (hok : MOk M) (h : ∀ s, RepL s M (mS M) → KeepR σ s → Φ s) : w_X10_findsLeads σ Φ := by
  unfold w_X10_findsLeads
  refine r_findsPairs hM hok (fun f h01 hf => ?_)
  have hcd : ∀ x, x < 100 → (f (100 + x) = 1 ↔ CD M (mS M) x) := fun x hx => by
    rw [hf _ (by omega)]
    exact ⟨fun y => ⟨hx, y⟩, fun y => y.2⟩
  refine LP2.rule (fun x2 s3 => ∃ i : Nat, x2 = nI i ∧ i ≤ 100 ∧ s3.1 = σ.1 ∧ s3.2.1 = (ft_sA σ 9 f).2.1 ∧ (∀ x e, x < i → e < 100 → (ED s3 x e ↔ CD M (mS M) x ∧ DE M (mS M) x e)) ∧ (∀ x e, x < i → e < 100 → (EM s3 x e ↔ CD M (mS M) x ∧ M1 M (mS M) x e))) (fun x2 _ => 100 - x2.toNatClampNeg) ?_ ⟨0, rfl, by decide, rfl, rfl, fun x e hx => absurd hx (Nat.not_lt_zero _), fun x e hx => absurd hx (Nat.not_lt_zero _)⟩
  rintro X4 x2 s3 ⟨i, rfl, hi, q1, q2, hED, hEM⟩ ih
  have hc : (nI i).toNatClampNeg = i := nI_clamp (by omega)
  have hle : (100 : Int32) ≤ nI i ↔ 100 ≤ i := nI_leI (a := 100) (by decide) (by omega)
  refine ⟨fun z => ?_, fun z => ?_⟩
  · have e : i = 100 := by have := hle.mp z; omega
    subst e
    have e9 : s3.2.1 9 = f := by rw [q2]; exact sA_s σ 9 f
    refine h s3 ⟨by rw [e9]; exact h01, by rw [e9]; exact hf, hED, hEM⟩ ⟨fun j _ _ _ => by rw [q1], fun a ha => by rw [q2]; exact sA_n σ f (by omega)⟩
  · have hlt : i < 100 := Nat.lt_of_not_le (fun y => z (hle.mpr y))
    have hin : vp_in (nI i) 100 := vp_in_nI hlt (by decide)
    have hmu : 100 - (nI i + 1).toNatClampNeg < 100 - (nI i).toNatClampNeg := by
      rw [nI_1 i, nI_clamp (by omega), hc]; omega
    have e1 : nI i / 10 = nI (i / 10) := pk_div (d := 10) (by omega) (by decide) (by decide)
    have e2 : nI i - nI i / 10 * 10 = nI (i % 10) := pk_rem (d := 10) (by omega) (by decide) (by decide)
    rw [hc, e2, e1]
    refine ⟨hin, fun s5 h5 => ⟨hin, fun s6 h6 => ⟨hin, fun s7 h7 => ⟨hin, fun s8 h8 => ?_⟩⟩⟩⟩
    have q81 : s8.1 = σ.1 := by rw [h8, h7, h6, h5]; exact q1
    have q82 : s8.2.1 = (ft_sA σ 9 f).2.1 := by rw [h8, h7, h6, h5]; exact q2
    have k12 : s8.2.2 12 = vp_updL (s3.2.2 12) i 0 := by rw [h8, h7, h6, h5]; rfl
    have k13 : s8.2.2 13 = vp_updL (s3.2.2 13) i 0 := by rw [h8, h7, h6, h5]; rfl
    have k10 : s8.2.2 10 = vp_updL (s3.2.2 10) i 0 := by rw [h8, h7, h6, h5]; rfl
    have k11 : s8.2.2 11 = vp_updL (s3.2.2 11) i 0 := by rw [h8, h7, h6, h5]; rfl
    have HB0 : ∀ e, HB 0 0 e = false := by intro e; unfold HB; split <;> exact bL_0 _
    have hED8 : ∀ x e, ED s8 x e ↔ (x ≠ i ∧ ED s3 x e) := by
      intro x e
      unfold ED
      rw [k12, k13]
      by_cases y : x = i
      · subst y; rw [updL_s, updL_s, HB0]; simp
      · rw [updL_n y, updL_n y]; simp [y]
    have hEM8 : ∀ x e, EM s8 x e ↔ (x ≠ i ∧ EM s3 x e) := by
      intro x e
      unfold EM
      rw [k10, k11]
      by_cases y : x = i
      · subst y; rw [updL_s, updL_s, HB0]; simp
      · rw [updL_n y, updL_n y]; simp [y]
    have e89 : s8.2.1 9 = f := by rw [q82]; exact sA_s σ 9 f
    refine r_isDoubt hlt ?_
    rw [e89, hcd i hlt]
    refine ⟨fun y => ⟨fun z2 => absurd z2 (by decide), fun _ => ?_⟩, fun y => ⟨fun _ => ?_, fun z2 => absurd rfl z2⟩⟩
    · have hM8 : RepRM s8 M := by
        refine hM.keep ⟨fun j _ _ _ => by rw [q81], fun a ha => by rw [q82]; exact sA_n σ f (by omega)⟩
      refine r_leadsFrom hM8 hok (by omega) (by omega) (fun s10 k1 k2 k3 k4 => ?_)
      rw [show 10 * (i / 10) + i % 10 = i by omega] at k3 k4
      refine ih _ _ ⟨i + 1, nI_1 i, hlt, k1.trans q81, k2.trans q82, fun x e hx he => ?_, fun x e hx he => ?_⟩ hmu
      · rw [k3 x e (by omega) he, hED8 x e]
        by_cases w : x = i
        · rw [w]; exact ⟨fun a => a.elim (fun b => absurd rfl b.1) (fun b => ⟨y, b.2⟩), fun a => Or.inr ⟨rfl, a.2⟩⟩
        · rw [← hED x e (by omega) he]
          exact ⟨fun a => a.elim (fun b => b.2) (fun b => absurd b.1 w), fun a => Or.inl ⟨w, a⟩⟩
      · rw [k4 x e (by omega) he, hEM8 x e]
        by_cases w : x = i
        · rw [w]; exact ⟨fun a => a.elim (fun b => absurd rfl b.1) (fun b => ⟨y, b.2⟩), fun a => Or.inr ⟨rfl, a.2⟩⟩
        · rw [← hEM x e (by omega) he]
          exact ⟨fun a => a.elim (fun b => b.2) (fun b => absurd b.1 w), fun a => Or.inl ⟨w, a⟩⟩
    · refine ih _ _ ⟨i + 1, nI_1 i, hlt, q81, q82, fun x e hx he => ?_, fun x e hx he => ?_⟩ hmu
      · rw [hED8 x e]
        by_cases w : x = i
        · rw [w]; exact ⟨fun a => absurd rfl a.1, fun a => absurd a.1 y⟩
        · rw [← hED x e (by omega) he]; exact ⟨fun a => a.2, fun a => ⟨w, a⟩⟩
      · rw [hEM8 x e]
        by_cases w : x = i
        · rw [w]; exact ⟨fun a => absurd rfl a.1, fun a => absurd a.1 y⟩
        · rw [← hEM x e (by omega) he]; exact ⟨fun a => a.2, fun a => ⟨w, a⟩⟩
/-! by steps, through more and more places -/
def TW (E : Nat → Nat → Prop) : Nat → Nat → Nat → Prop
  | 0, a, e => E a e
  | v + 1, a, e => TW E v a e ∨ (TW E v a v ∧ TW E v v e)
theorem TW.tr {E : Nat → Nat → Prop} : ∀ (v b : Nat), b < v → ∀ a e, TW E v a b → TW E v b e → TW E v a e
  | 0, b, hb, _, _, _, _ => absurd hb (Nat.not_lt_zero _)
  | v + 1, b, hb, a, e, h1, h2 => by
    by_cases q : b = v
    · subst q
      have g1 : TW E b a b := h1.elim id (fun y => y.1)
      have g2 : TW E b b e := h2.elim id (fun y => y.2)
      exact Or.inr ⟨g1, g2⟩
    · have hv : b < v := by omega
      rcases h1 with h1 | ⟨h1, h1'⟩ <;> rcases h2 with h2 | ⟨h2, h2'⟩
      · exact Or.inl (TW.tr v b hv a e h1 h2)
      · exact Or.inr ⟨TW.tr v b hv a v h1 h2, h2'⟩
      · exact Or.inr ⟨h1, TW.tr v b hv v e h1' h2⟩
      · exact Or.inr ⟨h1, h2'⟩
theorem TW.up {E : Nat → Nat → Prop} {a e : Nat} (h : E a e) : ∀ v, TW E v a e
  | 0 => h
  | v + 1 => Or.inl (TW.up h v)
theorem TW.of {E : Nat → Nat → Prop} : ∀ {v a e : Nat}, TW E v a e → ∃ b, E a b ∧ R1 E b e
  | 0, a, e, h => ⟨e, h, R1.refl e⟩
  | v + 1, a, e, h => by
    rcases h with h | ⟨h1, h2⟩
    · exact TW.of h
    · obtain ⟨b, x1, x2⟩ := TW.of h1
      obtain ⟨c, y1, y2⟩ := TW.of h2
      exact ⟨b, x1, (x2.step y1).trans y2⟩
theorem TW.iff {E : Nat → Nat → Prop} {N a e : Nat} (hE : ∀ x y, E x y → y < N) : TW E N a e ↔ ∃ b, E a b ∧ R1 E b e := by
  refine ⟨TW.of, ?_⟩
  rintro ⟨b, h1, h2⟩
  refine (h2 (fun e => e < N ∧ TW E N a e) (fun i q => by rw [q]; exact ⟨hE _ _ h1, TW.up h1 N⟩) (fun x y q ed => ⟨hE _ _ ed, TW.tr N x q.1 a y q.2 (TW.up ed N)⟩)).2
theorem HB_orr {a b c d : Int64} {e : Nat} : HB (a ||| b) (c ||| d) e = true ↔ HB a c e = true ∨ HB b d e = true := by
  unfold HB
  split
  · rw [bL_or, Bool.or_eq_true]
  · rw [bL_or, Bool.or_eq_true]
theorem r_goesOn {σ : ft_St} {E : Nat → Nat → Prop} {Φ : ft_St → Prop} (hE : ∀ x e, x < 100 → e < 100 → (ED σ x e ↔ E x e)) (h : ∀ s, s.1 = σ.1 → s.2.1 = σ.2.1 → (∀ x e, x < 100 → e < 100 → (ED s x e ↔ TW E 100 x e)) → (∀ x e, EM s x e ↔ EM σ x e) → Φ s) : w_X10_goesOn σ Φ := by
  unfold w_X10_goesOn
  refine LP2.rule (fun x1 s2 => ∃ v : Nat, x1 = nI v ∧ v ≤ 100 ∧ s2.1 = σ.1 ∧ s2.2.1 = σ.2.1 ∧ (∀ x e, x < 100 → e < 100 → (ED s2 x e ↔ TW E v x e)) ∧ (∀ x e, EM s2 x e ↔ EM σ x e)) (fun x1 _ => 100 - x1.toNatClampNeg) ?_ ⟨0, rfl, by decide, rfl, rfl, hE, fun _ _ => Iff.rfl⟩
  rintro X3 x1 s2 ⟨v, rfl, hv, q1, q2, hED, hEM⟩ ih
  have hc : (nI v).toNatClampNeg = v := nI_clamp (by omega)
  have hle : (100 : Int32) ≤ nI v ↔ 100 ≤ v := nI_leI (a := 100) (by decide) (by omega)
  refine ⟨fun z => ?_, fun z => ?_⟩
  · have e : v = 100 := by have := hle.mp z; omega
    subst e
    exact h s2 q1 q2 hED hEM
  · have hlt : v < 100 := Nat.lt_of_not_le (fun y => z (hle.mpr y))
    have hmu : 100 - (nI v + 1).toNatClampNeg < 100 - (nI v).toNatClampNeg := by
      rw [nI_1 v, nI_clamp (by omega), hc]; omega
    refine LP2.rule (fun x4 s5 => ∃ i : Nat, x4 = nI i ∧ i ≤ 100 ∧ s5.1 = σ.1 ∧ s5.2.1 = σ.2.1 ∧ (∀ x e, x < 100 → e < 100 → (ED s5 x e ↔ if x < i then TW E (v + 1) x e else TW E v x e)) ∧ (∀ x e, EM s5 x e ↔ EM σ x e)) (fun x4 _ => 100 - x4.toNatClampNeg) ?_ ⟨0, rfl, by decide, q1, q2, fun x e hx he => by rw [if_neg (Nat.not_lt_zero x)]; exact hED x e hx he, hEM⟩
    rintro X6 x4 s5 ⟨i, rfl, hi, p1, p2, hED5, hEM5⟩ ih2
    have hci : (nI i).toNatClampNeg = i := nI_clamp (by omega)
    have hlei : (100 : Int32) ≤ nI i ↔ 100 ≤ i := nI_leI (a := 100) (by decide) (by omega)
    refine ⟨fun y => ?_, fun y => ?_⟩
    · have e : i = 100 := by have := hlei.mp y; omega
      subst e
      exact ih _ _ ⟨v + 1, nI_1 v, hlt, p1, p2, fun x e hx he => by rw [hED5 x e hx he, if_pos hx], hEM5⟩ hmu
    · have hlti : i < 100 := Nat.lt_of_not_le (fun y2 => y (hlei.mpr y2))
      have hini : vp_in (nI i) 100 := vp_in_nI hlti (by decide)
      have hinv : vp_in (nI v) 100 := vp_in_nI hlt (by decide)
      have hmu2 : 100 - (nI i + 1).toNatClampNeg < 100 - (nI i).toNatClampNeg := by
        rw [nI_1 i, nI_clamp (by omega), hci]; omega
      rw [hci, hc]
      have di : ED s5 i v ↔ TW E v i v := by rw [hED5 i v hlti hlt, if_neg (Nat.lt_irrefl i)]
      have dv : ∀ e, e < 100 → (ED s5 v e ↔ TW E v v e) := by
        intro e he
        rw [hED5 v e hlt he]
        by_cases w : v < i
        · rw [if_pos w]; exact ⟨fun a => a.elim id (fun b => b.2), fun a => Or.inl a⟩
        · rw [if_neg w]
      refine ⟨hini, hini, r_has hlt ⟨fun w => ?_, fun w => ?_⟩⟩
      · have hno : ¬ TW E v i v := by
          rw [← di]
          intro a
          have a : HB _ _ v = true := a
          rw [(b01_z _).mp w] at a; cases a
        refine ih2 _ _ ⟨i + 1, nI_1 i, hlti, p1, p2, fun x e hx he => ?_, hEM5⟩ hmu2
        rw [hED5 x e hx he]
        by_cases w1 : x < i
        · rw [if_pos w1, if_pos (by omega)]
        · rw [if_neg w1]
          by_cases w2 : x < i + 1
          · have : x = i := by omega
            subst this
            rw [if_pos w2]
            exact ⟨fun a => Or.inl a, fun a => a.elim id (fun b => absurd b.1 hno)⟩
          · rw [if_neg w2]
      · have hyes : TW E v i v := by
          rw [← di]
          show HB _ _ v = true
          cases e : HB (s5.2.2 12 i) (s5.2.2 13 i) v
          · rw [e] at w; exact absurd rfl w
          · rfl
        refine ⟨hini, hinv, hini, fun s8 h8 => ⟨hini, hinv, hini, fun s9 h9 => ?_⟩⟩
        have k12 : s9.2.2 12 = vp_updL (s5.2.2 12) i (s5.2.2 12 i ||| s5.2.2 12 v) := by rw [h9, h8]; rfl
        have k13 : s9.2.2 13 = vp_updL (s5.2.2 13) i (s5.2.2 13 i ||| s5.2.2 13 v) := by rw [h9, h8]; rfl
        refine ih2 _ _ ⟨i + 1, nI_1 i, hlti, by rw [h9, h8]; exact p1, by rw [h9, h8]; exact p2, fun x e hx he => ?_, fun x e => ?_⟩ hmu2
        · unfold ED
          rw [k12, k13]
          by_cases w1 : x = i
          · subst w1
            rw [updL_s, updL_s, HB_orr, if_pos (by omega)]
            show ED s5 x e ∨ ED s5 v e ↔ _
            rw [dv e he, hED5 x e hx he, if_neg (Nat.lt_irrefl x)]
            exact ⟨fun a => a.elim Or.inl (fun b => Or.inr ⟨hyes, b⟩), fun a => a.elim Or.inl (fun b => Or.inr b.2)⟩
          · rw [updL_n w1, updL_n w1]
            show ED s5 x e ↔ _
            rw [hED5 x e hx he]
            by_cases w2 : x < i
            · rw [if_pos w2, if_pos (by omega)]
            · rw [if_neg w2, if_neg (by omega)]
        · have : EM s9 x e ↔ EM s5 x e := by unfold EM; rw [h9, h8]; exact Iff.rfl
          rw [this]; exact hEM5 x e
/-- the model's rows, behind all steps -/
def RepL2 (s : ft_St) (M : MM) (sn : Int32) : Prop := (∀ c, c < 200 → (s.2.1 9 c = 1 ↔ Pc M sn c)) ∧ (∀ x e, x < 100 → e < 100 → (ED s x e ↔ CD M sn x ∧ ∃ b, DE M sn x b ∧ R1 (DE M sn) b e)) ∧ (∀ x e, x < 100 → e < 100 → (EM s x e ↔ CD M sn x ∧ M1 M sn x e))
theorem DE.lt {M : MM} (hok : MOk M) {sn : Int32} {x e : Nat} (hx : x < 100) (h : DE M sn x e) : e < 100 := h.elim (fun y => (y.lt hok).2) (fun y => y.lt hok hx)
theorem r_goesOn2 {σ : ft_St} {M : MM} {sn : Int32} {Φ : ft_St → Prop} (hok : MOk M) (hL : RepL σ M sn) (h : ∀ s, s.1 = σ.1 → s.2.1 = σ.2.1 → RepL2 s M sn → Φ s) : w_X10_goesOn σ Φ := by
  refine r_goesOn (E := fun x e => CD M sn x ∧ DE M sn x e) hL.2.2.1 (fun s h1 h2 h3 h4 => h s h1 h2 ⟨by rw [h2]; exact hL.2.1, fun x e hx he => ?_, fun x e hx he => ?_⟩)
  · rw [h3 x e hx he, TW.iff (fun a b y => DE.lt hok y.1.1 y.2)]
    constructor
    · rintro ⟨b, ⟨y1, y2⟩, y3⟩
      exact ⟨y1, b, y2, R1.mono y3 (fun _ _ z => z.2)⟩
    · rintro ⟨y1, b, y2, y3⟩
      refine ⟨b, ⟨y1, y2⟩, ?_⟩
      have hb : CD M sn b := DE_CD hok y1 (R1.one y2)
      exact (y3 (fun c => CD M sn c ∧ R1 (fun x e => CD M sn x ∧ DE M sn x e) b c) (fun i q => by rw [q]; exact ⟨hb, R1.refl b⟩) (fun x y q ed => ⟨DE_CD hok q.1 (R1.one ed), q.2.step ⟨q.1, ed⟩⟩)).2
  · rw [h4 x e]; exact hL.2.2.2 x e hx he
/-- comes to: at once, or by steps -/
theorem or_R1 {M : MM} {sn : Int32} {x e : Nat} : (x = e ∨ ∃ b, DE M sn x b ∧ R1 (DE M sn) b e) ↔ R1 (DE M sn) x e := by
  constructor
  · rintro (y | ⟨b, y1, y2⟩)
    · rw [y]; exact R1.refl e
    · exact R1.head y1 y2
  · intro y; exact y.hcases
noncomputable def ringB (M : MM) (sn : Int32) : Bool := (Classical.propDecidable (RING M sn)).decide
theorem ringB_t {M : MM} {sn : Int32} : ringB M sn = true ↔ RING M sn := by simp [ringB]
theorem r_isApart {σ : ft_St} {M : MM} {Φ : Int32 → ft_St → Prop} (hM : RepRM σ M) (hok : MOk M) (h : ∀ s, KeepR σ s → Φ (b01 (!ringB M (mS M))) s) : w_X10_isApart σ Φ := by
  unfold w_X10_isApart
  refine r_findsLeads hM hok (fun s1 hL hK1 => r_goesOn2 hok hL (fun s2 e1 e2 hL2 => ?_))
  have hK : KeepR σ s2 := hK1.trans ⟨fun j _ _ _ => by rw [e1], fun a _ => by rw [e2]⟩
  have hΦ := h s2 hK
  obtain ⟨hpc, hED, hEM⟩ := hL2
  obtain ⟨T, eT⟩ : ∃ T : Nat → Nat → Prop, T = fun a b => EM s2 a b ∧ (a = b ∨ ED s2 b a) := ⟨_, rfl⟩
  have ringT : (∃ a b, a < 100 ∧ b < 100 ∧ T a b) ↔ RING M (mS M) := by
    rw [eT]
    constructor
    · rintro ⟨a, b, ha, hb, y1, y2⟩
      obtain ⟨ca, m1⟩ := (hEM a b ha hb).mp y1
      refine ⟨a, b, ca, m1, ?_⟩
      rcases y2 with y2 | y2
      · rw [y2]; exact R1.refl b
      · exact or_R1.mp (Or.inr ((hED b a hb ha).mp y2).2)
    · rintro ⟨a, b, ca, m1, r⟩
      have hb := (m1.lt hok).2
      refine ⟨a, b, ca.1, hb, (hEM a b ca.1 hb).mpr ⟨ca, m1⟩, ?_⟩
      rcases or_R1.mpr r with y | y
      · exact Or.inl y.symm
      · exact Or.inr ((hED b a hb ca.1).mpr ⟨ca.m hok m1, y⟩)
  refine LP2.rule (fun x3 x4 => ∃ a : Nat, x4 = nI a ∧ a ≤ 100 ∧ ft_bz x3 ∧ (x3 = 0 ↔ ∀ a' b', a' < a → b' < 100 → ¬ T a' b')) (fun _ x4 => 100 - x4.toNatClampNeg) ?_ ⟨0, rfl, by decide, Or.inl rfl, ⟨fun _ a' b' ha => absurd ha (Nat.not_lt_zero _), fun _ => rfl⟩⟩
  rintro X5 x3 x4 ⟨a, rfl, ha, hbz, hx3⟩ ih
  have hc : (nI a).toNatClampNeg = a := nI_clamp (by omega)
  have hle : (100 : Int32) ≤ nI a ↔ 100 ≤ a := nI_leI (a := 100) (by decide) (by omega)
  refine ⟨fun z => ?_, fun z => ?_⟩
  · have e : a = 100 := by have := hle.mp z; omega
    subst e
    refine ⟨fun y => ?_, fun y => ?_⟩
    · have hr : RING M (mS M) := ringT.mp (Classical.byContradiction (fun hno => y (hx3.mpr (fun a' b' h1 h2 h3 => hno ⟨a', b', h1, h2, h3⟩))))
      rw [ringB_t.mpr hr] at hΦ; exact hΦ
    · have hr : ringB M (mS M) = false := by
        cases e : ringB M (mS M)
        · rfl
        · obtain ⟨a', b', h1, h2, h3⟩ := ringT.mpr (ringB_t.mp e)
          exact absurd h3 (hx3.mp y a' b' h1 h2)
      rw [hr] at hΦ; exact hΦ
  · have hlt : a < 100 := Nat.lt_of_not_le (fun y => z (hle.mpr y))
    have hina : vp_in (nI a) 100 := vp_in_nI hlt (by decide)
    have hmu : 100 - (nI a + 1).toNatClampNeg < 100 - (nI a).toNatClampNeg := by
      rw [nI_1 a, nI_clamp (by omega), hc]; omega
    refine LP2.rule (fun x6 x7 => ∃ b : Nat, x7 = nI b ∧ b ≤ 100 ∧ ft_bz x6 ∧ (x6 = 0 ↔ (∀ a' b', a' < a → b' < 100 → ¬ T a' b') ∧ ∀ b', b' < b → ¬ T a b')) (fun _ x7 => 100 - x7.toNatClampNeg) ?_ ⟨0, rfl, by decide, hbz, ⟨fun y => ⟨hx3.mp y, fun b' hb => absurd hb (Nat.not_lt_zero _)⟩, fun y => hx3.mpr y.1⟩⟩
    rintro X8 x6 x7 ⟨b, rfl, hb, hbz6, hx6⟩ ih2
    have hcb : (nI b).toNatClampNeg = b := nI_clamp (by omega)
    have hleb : (100 : Int32) ≤ nI b ↔ 100 ≤ b := nI_leI (a := 100) (by decide) (by omega)
    have out : (¬ x6 = 0 ∨ b = 100) → X5 x6 (nI a + 1) := by
      intro y
      refine ih _ _ ⟨a + 1, nI_1 a, hlt, hbz6, ⟨fun w a' b' h1 h2 => ?_, fun w => ?_⟩⟩ hmu
      · obtain ⟨g1, g2⟩ := hx6.mp w
        by_cases e : a' = a
        · rw [e]; exact g2 b' (by rcases y with y | y; exact absurd w y; omega)
        · exact g1 a' b' (by omega) h2
      · exact hx6.mpr ⟨fun a' b' h1 h2 => w a' b' (by omega) h2, fun b' h1 => w a b' (by omega) (by omega)⟩
    refine ⟨fun y => out (Or.inr (by have := hleb.mp y; omega)), fun y => ⟨fun w => out (Or.inl w), fun w => ?_⟩⟩
    have hltb : b < 100 := Nat.lt_of_not_le (fun y2 => y (hleb.mpr y2))
    have hinb : vp_in (nI b) 100 := vp_in_nI hltb (by decide)
    have hmu2 : 100 - (nI b + 1).toNatClampNeg < 100 - (nI b).toNatClampNeg := by
      rw [nI_1 b, nI_clamp (by omega), hcb]; omega
    have yes : T a b → X8 1 (nI b + 1) := fun t => ih2 _ _ ⟨b + 1, nI_1 b, hltb, Or.inr rfl, ⟨fun e => absurd e (by decide), fun e => absurd t (e.2 b (by omega))⟩⟩ hmu2
    have no : ¬ T a b → X8 0 (nI b + 1) := fun t => ih2 _ _ ⟨b + 1, nI_1 b, hltb, Or.inl rfl, ⟨fun _ => ⟨(hx6.mp w).1, fun b' h1 => by
      by_cases e : b' = b
      · rw [e]; exact t
      · exact (hx6.mp w).2 b' (by omega)⟩, fun _ => rfl⟩⟩ hmu2
    have tr : ∀ {q : Bool}, ¬ b01 q = 0 → q = true := fun {q} z => by
      cases q
      · exact absurd rfl z
      · rfl
    rw [hc, hcb, nI_eq (show a < 2 ^ 31 by omega) (show b < 2 ^ 31 by omega)]
    refine ⟨hina, hina, r_has hltb ?_⟩
    intro J10 hJ10
    refine ⟨fun y2 => hJ10 (no ?_), fun y2 => ?_⟩
    · rw [eT]
      rintro ⟨g, -⟩
      have g : HB _ _ b = true := g
      rw [(b01_z _).mp y2] at g; cases g
    · have g1 : EM s2 a b := tr y2
      intro J11 hJ11
      refine ⟨fun y3 => hJ11 (yes (by rw [eT]; exact ⟨g1, Or.inl y3⟩)), fun y3 => ⟨hinb, hinb, r_has hlt ⟨fun y4 => hJ10 (no ?_), fun y4 => hJ11 (yes ?_)⟩⟩⟩
      · rw [eT]
        rintro ⟨-, g | g⟩
        · exact y3 g
        · have g : HB _ _ a = true := g
          rw [(b01_z _).mp y4] at g; cases g
      · rw [eT]; exact ⟨g1, Or.inr (tr y4)⟩
