/-! the model: rings, delay -/
theorem b01_t {q : Bool} (z : ¬ b01 q = 0) : q = true := by
  cases q
  · exact absurd rfl z
  · rfl
theorem r_isOfRing {σ : ft_St} {M : MM} {sn : Int32} {k : Nat} {Φ : Int32 → Prop} (hok : MOk M) (hL : RepL2 σ M sn) (hk : CD M sn k) (h : Φ (b01 (rngB M sn k))) : w_X10_isOfRing (nI k) σ Φ := by
  unfold w_X10_isOfRing
  obtain ⟨hpc, hED, hEM⟩ := hL
  have hk1 := hk.1
  have hck : (nI k).toNatClampNeg = k := nI_clamp (by omega)
  have hink : vp_in (nI k) 100 := vp_in_nI hk1 (by decide)
  obtain ⟨T, eT⟩ : ∃ T : Nat → Nat → Prop, T = fun a b => (a = k ∨ ED σ k a) ∧ EM σ a b ∧ (b = k ∨ ED σ b k) := ⟨_, rfl⟩
  have ringT : (∃ a b, a < 100 ∧ b < 100 ∧ T a b) ↔ RNG M sn k := by
    rw [eT]
    constructor
    · rintro ⟨a, b, ha, hb, y1, y2, y3⟩
      obtain ⟨ca, m1⟩ := (hEM a b ha hb).mp y2
      have g1 : R1 (DE M sn) k a := or_R1.mp (y1.elim (fun e => Or.inl e.symm) (fun e => Or.inr ((hED k a hk1 ha).mp e).2))
      have g2 : R1 (DE M sn) b k := or_R1.mp (y3.elim (fun e => Or.inl e) (fun e => Or.inr ((hED b k hb hk1).mp e).2))
      obtain ⟨i, w1⟩ := Wk_of_DE g1
      obtain ⟨j, w2⟩ := Wk_of_DE g2
      have w3 : Wk M sn (i + 1) k b := ⟨a, b, w1, m1, R1.refl b⟩
      exact ⟨i + 1 + j, by omega, w3.trans w2⟩
    · rintro ⟨j, hj, w⟩
      obtain ⟨i, rfl⟩ : ∃ i, j = i + 1 := ⟨j - 1, by omega⟩
      obtain ⟨a, b, w1, m1, w2⟩ := w
      have ca : CD M sn a := Wk.CD hok hk w1
      have cb : CD M sn b := ca.m hok m1
      refine ⟨a, b, ca.1, cb.1, ?_, (hEM a b ca.1 cb.1).mpr ⟨ca, m1⟩, ?_⟩
      · rcases or_R1.mpr w1.DE with y | y
        · exact Or.inl y.symm
        · exact Or.inr ((hED k a hk1 ca.1).mpr ⟨hk, y⟩)
      · rcases or_R1.mpr (A0s.DE w2) with y | y
        · exact Or.inl y
        · exact Or.inr ((hED b k cb.1 hk1).mpr ⟨cb, y⟩)
  refine LP2.rule (fun x1 x2 => ∃ a : Nat, x2 = nI a ∧ a ≤ 100 ∧ ft_bz x1 ∧ (x1 = 0 ↔ ∀ a' b', a' < a → b' < 100 → ¬ T a' b')) (fun _ x4 => 100 - x4.toNatClampNeg) ?_ ⟨0, rfl, by decide, Or.inl rfl, ⟨fun _ a' b' ha => absurd ha (Nat.not_lt_zero _), fun _ => rfl⟩⟩
  rintro X3 x1 x2 ⟨a, rfl, ha, hbz, hx1⟩ ih
  have hc : (nI a).toNatClampNeg = a := nI_clamp (by omega)
  have hle : (100 : Int32) ≤ nI a ↔ 100 ≤ a := nI_leI (a := 100) (by decide) (by omega)
  refine ⟨fun z => ⟨hbz, ?_⟩, fun z => ?_⟩
  · have e : a = 100 := by have := hle.mp z; omega
    subst e
    have e2 : x1 = b01 (rngB M sn k) := by
      cases e : rngB M sn k
      · refine hx1.mpr (fun a' b' h1 h2 h3 => ?_)
        rw [rngB_t.mpr (ringT.mp ⟨a', b', h1, h2, h3⟩)] at e; cases e
      · obtain ⟨a', b', h1, h2, h3⟩ := ringT.mpr (rngB_t.mp e)
        exact hbz.elim (fun w => absurd h3 (hx1.mp w a' b' h1 h2)) id
    rw [e2]; exact h
  · have hlt : a < 100 := Nat.lt_of_not_le (fun y => z (hle.mpr y))
    have hina : vp_in (nI a) 100 := vp_in_nI hlt (by decide)
    have hmu : 100 - (nI a + 1).toNatClampNeg < 100 - (nI a).toNatClampNeg := by
      rw [nI_1 a, nI_clamp (by omega), hc]; omega
    have main : ∀ x4 : Int32, (¬ x4 = 0 ↔ (a = k ∨ ED σ k a)) → LP2 (fun (X8 : Int32 → Int32 → Prop) (x6 : Int32) (x7 : Int32) => (100 ≤ x7 → X3 x6 (nI a + 1)) ∧ (¬ 100 ≤ x7 → (x4 = 0 → X3 x6 (nI a + 1)) ∧ (¬ x4 = 0 → (¬ x6 = 0 → X3 x6 (nI a + 1)) ∧ (x6 = 0 → vp_in (nI a) 100 ∧ vp_in (nI a) 100 ∧ w_X10_has (σ.2.2 10 (Int32.toNatClampNeg (nI a))) (σ.2.2 11 (Int32.toNatClampNeg (nI a))) x7 (fun (r9 : Int32) => JN0 (fun (J10 : Prop) => (r9 = 0 → J10) ∧ (¬ r9 = 0 → JN0 (fun (J11 : Prop) => (x7 = nI k → J11) ∧ (¬ x7 = nI k → vp_in x7 100 ∧ vp_in x7 100 ∧ w_X10_has (σ.2.2 12 (Int32.toNatClampNeg x7)) (σ.2.2 13 (Int32.toNatClampNeg x7)) (nI k) (fun (r12 : Int32) => (r12 = 0 → J10) ∧ (¬ r12 = 0 → J11)))) (X8 1 (x7 + 1)))) (X8 0 (x7 + 1))))))) x1 0 := by
      intro x4 hx4
      refine LP2.rule (fun x6 x7 => ∃ b : Nat, x7 = nI b ∧ b ≤ 100 ∧ ft_bz x6 ∧ (x6 = 0 ↔ (∀ a' b', a' < a → b' < 100 → ¬ T a' b') ∧ ∀ b', b' < b → ¬ T a b')) (fun _ x7 => 100 - x7.toNatClampNeg) ?_ ⟨0, rfl, by decide, hbz, ⟨fun y => ⟨hx1.mp y, fun b' hb => absurd hb (Nat.not_lt_zero _)⟩, fun y => hx1.mpr y.1⟩⟩
      rintro X8 x6 x7 ⟨b, rfl, hb, hbz6, hx6⟩ ih2
      have hcb : (nI b).toNatClampNeg = b := nI_clamp (by omega)
      have hleb : (100 : Int32) ≤ nI b ↔ 100 ≤ b := nI_leI (a := 100) (by decide) (by omega)
      have out : (¬ x6 = 0 ∨ b = 100 ∨ x4 = 0) → X3 x6 (nI a + 1) := by
        intro y
        refine ih _ _ ⟨a + 1, nI_1 a, hlt, hbz6, ⟨fun w a' b' h1 h2 => ?_, fun w => ?_⟩⟩ hmu
        · obtain ⟨g1, g2⟩ := hx6.mp w
          by_cases e : a' = a
          · rw [e]
            rcases y with y | y | y
            · exact absurd w y
            · exact g2 b' (by omega)
            · intro t; rw [eT] at t; exact hx4.mpr t.1 y
          · exact g1 a' b' (by omega) h2
        · exact hx6.mpr ⟨fun a' b' h1 h2 => w a' b' (by omega) h2, fun b' h1 => w a b' (by omega) (by omega)⟩
      refine ⟨fun y => out (Or.inr (Or.inl (by have := hleb.mp y; omega))), fun y => ⟨fun w => out (Or.inr (Or.inr w)), fun w4 => ⟨fun w => out (Or.inl w), fun w => ?_⟩⟩⟩
      have hltb : b < 100 := Nat.lt_of_not_le (fun y2 => y (hleb.mpr y2))
      have hinb : vp_in (nI b) 100 := vp_in_nI hltb (by decide)
      have hmu2 : 100 - (nI b + 1).toNatClampNeg < 100 - (nI b).toNatClampNeg := by
        rw [nI_1 b, nI_clamp (by omega), hcb]; omega
      have yes : T a b → X8 1 (nI b + 1) := fun t => ih2 _ _ ⟨b + 1, nI_1 b, hltb, Or.inr rfl, ⟨fun e => absurd e (by decide), fun e => absurd t (e.2 b (by omega))⟩⟩ hmu2
      have no : ¬ T a b → X8 0 (nI b + 1) := fun t => ih2 _ _ ⟨b + 1, nI_1 b, hltb, Or.inl rfl, ⟨fun _ => ⟨(hx6.mp w).1, fun b' h1 => by
        by_cases e : b' = b
        · rw [e]; exact t
        · exact (hx6.mp w).2 b' (by omega)⟩, fun _ => rfl⟩⟩ hmu2
      rw [hc, hcb, nI_eq (show b < 2 ^ 31 by omega) (show k < 2 ^ 31 by omega)]
      refine ⟨hina, hina, r_has hltb ?_⟩
      intro J10 hJ10
      refine ⟨fun y2 => hJ10 (no ?_), fun y2 => ?_⟩
      · rw [eT]
        rintro ⟨-, g, -⟩
        have g : HB _ _ b = true := g
        rw [(b01_z _).mp y2] at g; cases g
      · have g1 : EM σ a b := b01_t y2
        have g0 := hx4.mp w4
        intro J11 hJ11
        refine ⟨fun y3 => hJ11 (yes (by rw [eT]; exact ⟨g0, g1, Or.inl y3⟩)), fun y3 => ⟨hinb, hinb, r_has hk1 ⟨fun y4 => hJ10 (no ?_), fun y4 => hJ11 (yes ?_)⟩⟩⟩
        · rw [eT]
          rintro ⟨-, -, g | g⟩
          · exact y3 g
          · have g : HB _ _ k = true := g
            rw [(b01_z _).mp y4] at g; cases g
        · rw [eT]; exact ⟨g0, g1, Or.inr (b01_t y4)⟩
    intro J5 hJ5
    have e5 : nI a = nI k ↔ a = k := nI_eq (by omega) (by omega)
    rw [hck]
    have j1 : (a = k ∨ ED σ k a) → J5 1 := fun g => hJ5 1 (main 1 ⟨fun _ => g, fun _ => by decide⟩)
    intro J13 hJ13
    refine ⟨fun y => hJ13 (j1 (Or.inl (e5.mp y))), fun y => ⟨hink, hink, r_has hlt ⟨fun w => hJ5 0 (main 0 ⟨fun g => absurd rfl g, fun g => ?_⟩), fun w => hJ13 (j1 (Or.inr (b01_t w)))⟩⟩⟩
    exfalso
    rcases g with g | g
    · exact y (e5.mpr g)
    · have g : HB _ _ a = true := g
      rw [(b01_z _).mp w] at g; cases g
/-! the delay: the rows grow until nothing changes -/
def sm (L : Nat → Nat) : Nat → Nat
  | 0 => 0
  | n + 1 => sm L n + L n
theorem sm_le {L : Nat → Nat} {m : Nat} (h : ∀ a, L a ≤ m) : ∀ n, sm L n ≤ m * n
  | 0 => by show 0 ≤ m * 0; omega
  | n + 1 => by
    have := sm_le h n
    have := h n
    show sm L n + L n ≤ m * (n + 1)
    rw [Nat.mul_succ]; omega
theorem sm_congr {L K : Nat → Nat} : ∀ {n : Nat}, (∀ a, a < n → L a = K a) → sm L n = sm K n
  | 0, _ => rfl
  | n + 1, h => by
    show sm L n + L n = sm K n + K n
    rw [sm_congr (fun a ha => h a (by omega)), h n (by omega)]
theorem sm_up {L : Nat → Nat} {i v : Nat} (hv : L i < v) : ∀ {n : Nat}, i < n → sm L n < sm (fun x => if x = i then v else L x) n
  | 0, h => absurd h (Nat.not_lt_zero _)
  | n + 1, h => by
    show sm L n + L n < sm (fun x => if x = i then v else L x) n + (if n = i then v else L n)
    by_cases e : n = i
    · rw [if_pos e, ← e, sm_congr (K := L) (L := fun x => if x = n then v else L x) (fun a ha => if_neg (by omega))]
      rw [← e] at hv; omega
    · rw [if_neg e]
      have := sm_up hv (n := n) (by omega)
      omega
def LOk (M : MM) (sn : Int32) (f : Nat → Int32) (L : Nat → Nat) (m : Nat) : Prop := (∀ a, a < 100 → f a = nI (L a)) ∧ (∀ a, L a = 0 ∨ (CD M sn a ∧ ∃ c, Wk M sn (L a) a c)) ∧ (∀ a, L a ≤ m) ∧ (m = 0 ∨ DW M sn m)
theorem LOk.lt {M : MM} (hok : MOk M) {sn : Int32} (hr : ¬ RING M sn) {f : Nat → Int32} {L : Nat → Nat} {m : Nat} (h : LOk M sn f L m) : m < 100 := by
  rcases h.2.2.2 with y | y
  · omega
  · refine Nat.lt_of_not_le (fun z => hr (DW.ring hok (y.le z)))
theorem LOk.up {M : MM} (hok : MOk M) {sn : Int32} {f : Nat → Int32} {L : Nat → Nat} {m i c e : Nat} (h : LOk M sn f L m) (hi : CD M sn i) (hd : DE M sn i c) (he : (M1 M sn i c ∧ e = 1) ∨ (¬ M1 M sn i c ∧ e = 0)) : L c + e = 0 ∨ ∃ d, Wk M sn (L c + e) i d := by
  rcases he with ⟨h1, rfl⟩ | ⟨h1, rfl⟩
  · refine Or.inr ?_
    have w : Wk M sn 1 i c := ⟨i, c, R1.refl i, h1, R1.refl c⟩
    rcases h.2.1 c with y | ⟨-, d, y⟩
    · rw [y]; exact ⟨c, w⟩
    · rw [Nat.add_comm]; exact ⟨d, w.trans y⟩
  · have a0 : A0 M sn i c := hd.elim (fun y => absurd y h1) id
    rcases h.2.1 c with y | ⟨-, d, y⟩
    · exact Or.inl y
    · refine Or.inr ⟨d, ?_⟩
      have w : Wk M sn 0 i c := R1.one a0
      have := w.trans y
      rw [Nat.zero_add] at this
      exact this
theorem LOk.step {M : MM} {sn : Int32} {f : Nat → Int32} {L : Nat → Nat} {m i v : Nat} (h : LOk M sn f L m) (hi : CD M sn i) (hv : v = 0 ∨ ∃ d, Wk M sn v i d) : LOk M sn (upd f i (nI (max (L i) v))) (fun x => if x = i then max (L i) v else L x) (max m v) := by
  obtain ⟨h1, h2, h3, h4⟩ := h
  refine ⟨fun a ha => ?_, fun a => ?_, fun a => ?_, ?_⟩
  · by_cases e : a = i
    · subst e; rw [upd_s]; simp
    · rw [upd_n e]; simp only [if_neg e]; exact h1 a ha
  · by_cases e : a = i
    · subst e
      simp only [if_pos]
      rcases Nat.le_total (L a) v with q | q
      · rw [Nat.max_eq_right q]
        exact hv.elim Or.inl (fun y => Or.inr ⟨hi, y⟩)
      · rw [Nat.max_eq_left q]; exact h2 a
    · simp only [if_neg e]; exact h2 a
  · have := h3 a
    have := h3 i
    by_cases e : a = i
    · simp only [if_pos e]; omega
    · simp only [if_neg e]; omega
  · rcases Nat.le_total m v with q | q
    · rw [Nat.max_eq_right q]
      exact hv.elim Or.inl (fun ⟨d, y⟩ => Or.inr ⟨i, d, hi, y⟩)
    · rw [Nat.max_eq_left q]; exact h4
/-- nothing changes any more -/
def LFx (M : MM) (sn : Int32) (L : Nat → Nat) : Prop := ∀ a c, CD M sn a → (M1 M sn a c → L c + 1 ≤ L a) ∧ (A0 M sn a c → L c ≤ L a)
theorem LFx.wk {M : MM} (hok : MOk M) {sn : Int32} {L : Nat → Nat} (h : LFx M sn L) {a : Nat} (ha : CD M sn a) : ∀ (k : Nat) {c : Nat}, Wk M sn k a c → k + L c ≤ L a
  | 0, c, w => by
    rw [Nat.zero_add]
    exact (w (fun x => CD M sn x ∧ L x ≤ L a) (fun i q => by rw [q]; exact ⟨ha, Nat.le_refl _⟩) (fun x y q e => ⟨q.1.a hok e, Nat.le_trans ((h x y q.1).2 e) q.2⟩)).2
  | k + 1, c, w => by
    obtain ⟨x, y, w1, m1, w2⟩ := w
    have i1 := LFx.wk hok h ha k w1
    have cx : CD M sn x := Wk.CD hok ha w1
    have i2 := (h x y cx).1 m1
    have cy : CD M sn y := cx.m hok m1
    have i3 := (w2 (fun x => CD M sn x ∧ L x ≤ L y) (fun i q => by rw [q]; exact ⟨cy, Nat.le_refl _⟩) (fun x z q e => ⟨q.1.a hok e, Nat.le_trans ((h x z q.1).2 e) q.2⟩)).2
    omega
theorem LOk.dly {M : MM} (hok : MOk M) {sn : Int32} (hr : ¬ RING M sn) {f : Nat → Int32} {L : Nat → Nat} {m : Nat} (h : LOk M sn f L m) (hf : LFx M sn L) : IsDly M sn (nI m) := by
  have hm := h.lt hok hr
  refine Or.inr ⟨m, by omega, rfl, ?_, fun j hj => ?_⟩
  · rintro ⟨a, c, ha, w⟩
    have := LFx.wk hok hf ha _ w
    have := h.2.2.1 a
    omega
  · rcases h.2.2.2 with y | y
    · omega
    · exact y.le hj
