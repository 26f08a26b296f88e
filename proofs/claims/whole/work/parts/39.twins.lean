/-! pairs of a mark and a place, as codes 10 m + q; sn: the deeds that are seen -/
def P1 (M : MM) (sn : Int32) (c c' : Nat) : Prop := ∃ w, w < mN M ∧ (c / 10 = mF M w ∨ c / 10 = mF M w + 10) ∧ ((bt sn (mD M w) = false ∧ c' = 10 * mkB M w (c / 10) + c % 10) ∨ (bt sn (mD M w) = true ∧ bt (mX M) (mD M w) = false ∧ ∃ v, v < mN M ∧ mD M v = mD M w ∧ mF M v = c % 10 ∧ c' = 10 * mkB M w (c / 10) + mT M v))
def P0 (M : MM) (sn : Int32) (c c' : Nat) : Prop := ∃ w, w < mN M ∧ bt sn (mD M w) = false ∧ bt (mX M) (mD M w) = false ∧ mF M w = c % 10 ∧ c' = 10 * (c / 10) + mT M w
def PE (M : MM) (sn : Int32) (c c' : Nat) : Prop := P1 M sn c c' ∨ P0 M sn c c'
def Pc (M : MM) (sn : Int32) (c : Nat) : Prop := R1 (PE M sn) 0 c
theorem PE.lt {M : MM} (hok : MOk M) {sn : Int32} {c c' : Nat} (hc : c < 200) (h : PE M sn c c') : c' < 200 := by
  rcases h with ⟨w, hw, -, h⟩ | ⟨w, hw, -, -, -, h⟩
  · have := mkB_lt hok (i := c / 10) hw
    rcases h with ⟨-, h⟩ | ⟨-, -, v, hv, -, -, h⟩
    · omega
    · have := (hok.2.1 v hv).2.2
      omega
  · have := (hok.2.1 w hw).2.2
    omega
theorem Pc.lt {M : MM} (hok : MOk M) {sn : Int32} {c : Nat} (h : Pc M sn c) : c < 200 := h (fun c => c < 200) (fun a q => by omega) (fun a b q e => PE.lt hok q e)
/-- doubtful pairs, codes below 100: a way of the mark; a step of the second one alone -/
def M1 (M : MM) (sn : Int32) (e e' : Nat) : Prop := ∃ w, w < mN M ∧ mF M w = e / 10 ∧ ((bt sn (mD M w) = false ∧ e' = 10 * mT M w + e % 10) ∨ (bt sn (mD M w) = true ∧ bt (mX M) (mD M w) = false ∧ ∃ v, v < mN M ∧ mD M v = mD M w ∧ mF M v = e % 10 ∧ e' = 10 * mT M w + mT M v))
def A0 (M : MM) (sn : Int32) (e e' : Nat) : Prop := P0 M sn e e'
abbrev A0s (M : MM) (sn : Int32) : Nat → Nat → Prop := R1 (A0 M sn)
/-- a way of the mark, and the second one alone behind it, but not where the deed isn't seen -/
def MA (M : MM) (sn : Int32) (e e' : Nat) : Prop := ∃ w, w < mN M ∧ mF M w = e / 10 ∧ ((bt sn (mD M w) = false ∧ e' = 10 * mT M w + e % 10) ∨ (bt sn (mD M w) = true ∧ bt (mX M) (mD M w) = false ∧ ∃ v, v < mN M ∧ mD M v = mD M w ∧ mF M v = e % 10 ∧ A0s M sn (10 * mT M w + mT M v) e'))
def CD (M : MM) (sn : Int32) (e : Nat) : Prop := e < 100 ∧ Pc M sn (100 + e)
theorem M1.lt {M : MM} (hok : MOk M) {sn : Int32} {e e' : Nat} (h : M1 M sn e e') : e < 100 ∧ e' < 100 := by
  obtain ⟨w, hw, h1, h⟩ := h
  have b := hok.2.1 w hw
  rcases h with ⟨-, h⟩ | ⟨-, -, v, hv, -, -, h⟩
  · omega
  · have := (hok.2.1 v hv).2.2
    omega
theorem A0.lt {M : MM} (hok : MOk M) {sn : Int32} {e e' : Nat} (he : e < 100) (h : A0 M sn e e') : e' < 100 := by
  obtain ⟨w, hw, -, -, -, h⟩ := h
  have b := hok.2.1 w hw
  omega
theorem A0s.lt {M : MM} (hok : MOk M) {sn : Int32} {e e' : Nat} (he : e < 100) (h : A0s M sn e e') : e' < 100 := h (fun c => c < 100) (fun a q => by omega) (fun a b q ed => A0.lt hok q ed)
/-- the first one's place stays -/
theorem A0s.div {M : MM} (hok : MOk M) {sn : Int32} {e e' : Nat} (h : A0s M sn e e') : e' / 10 = e / 10 := by
  refine h (fun c => c / 10 = e / 10) (fun a q => by rw [q]) (fun a b q ed => ?_)
  obtain ⟨w, hw, -, -, -, h⟩ := ed
  have b := (hok.2.1 w hw).2.2
  omega
/-- ... and may be another -/
theorem A0s.shift {M : MM} (hok : MOk M) {sn : Int32} {e e' : Nat} (h : A0s M sn e e') (p : Nat) : A0s M sn (10 * p + e % 10) (10 * p + e' % 10) := by
  refine h (fun c => A0s M sn (10 * p + e % 10) (10 * p + c % 10)) (fun a q => by rw [q]; exact R1.refl _) (fun a b q ed => ?_)
  refine q.step ?_
  obtain ⟨w, hw, h1, h2, h3, h⟩ := ed
  have bb := (hok.2.1 w hw).2.2
  refine ⟨w, hw, h1, h2, by omega, by omega⟩
theorem M1.P1 {M : MM} {sn : Int32} {e e' : Nat} (h : M1 M sn e e') : P1 M sn (100 + e) (100 + e') := by
  obtain ⟨w, hw, h1, h⟩ := h
  have e1 : (100 + e) / 10 = e / 10 + 10 := by omega
  have e2 : mkB M w ((100 + e) / 10) = mT M w + 10 := by rw [mkB, if_pos (Or.inl (by omega))]
  refine ⟨w, hw, Or.inr (by omega), ?_⟩
  rw [e2]
  rcases h with ⟨h2, h⟩ | ⟨h2, h3, v, hv, h4, h5, h⟩
  · exact Or.inl ⟨h2, by omega⟩
  · exact Or.inr ⟨h2, h3, v, hv, h4, by omega, by omega⟩
theorem A0.P0 {M : MM} {sn : Int32} {e e' : Nat} (h : A0 M sn e e') : P0 M sn (100 + e) (100 + e') := by
  obtain ⟨w, hw, h1, h2, h3, h⟩ := h
  exact ⟨w, hw, h1, h2, by omega, by omega⟩
theorem CD.m {M : MM} (hok : MOk M) {sn : Int32} {e e' : Nat} (hc : CD M sn e) (h : M1 M sn e e') : CD M sn e' := ⟨(h.lt hok).2, hc.2.step (Or.inl h.P1)⟩
theorem CD.a {M : MM} (hok : MOk M) {sn : Int32} {e e' : Nat} (hc : CD M sn e) (h : A0 M sn e e') : CD M sn e' := ⟨h.lt hok hc.1, hc.2.step (Or.inr h.P0)⟩
/-- a set that is closed under the second one's steps -/
def Acl (M : MM) (sn : Int32) (S : Nat → Prop) : Prop := ∀ a b, S a → A0 M sn a b → S b
theorem Acl.s {M : MM} {sn : Int32} {S : Nat → Prop} (h : Acl M sn S) {a b : Nat} (ha : S a) (r : A0s M sn a b) : S b := r S (fun i q => by rw [q]; exact ha) h
theorem CD.cl {M : MM} (hok : MOk M) {sn : Int32} : Acl M sn (CD M sn) := fun _ _ q e => q.a hok e
/-- walks with just k ways of the mark -/
def Wk (M : MM) (sn : Int32) : Nat → Nat → Nat → Prop
  | 0, c, c' => A0s M sn c c'
  | k + 1, c, c' => ∃ a b, Wk M sn k c a ∧ M1 M sn a b ∧ A0s M sn b c'
def Im (M : MM) (sn : Int32) (S : Nat → Prop) : Nat → Nat → Prop
  | 0, c => S c
  | k + 1, c => ∃ a, Im M sn S k a ∧ MA M sn a c
theorem Wk.app {M : MM} {sn : Int32} {k a b c : Nat} (h : Wk M sn k a b) (r : A0s M sn b c) : Wk M sn k a c := by
  cases k with
  | zero => exact R1.trans h r
  | succ k => obtain ⟨x, y, h1, h2, h3⟩ := h; exact ⟨x, y, h1, h2, h3.trans r⟩
theorem Wk.trans {M : MM} {sn : Int32} {a b : Nat} {i : Nat} (h : Wk M sn i a b) : ∀ {j c : Nat}, Wk M sn j b c → Wk M sn (i + j) a c
  | 0, _, g => h.app g
  | j + 1, _, g => by obtain ⟨x, y, h1, h2, h3⟩ := g; exact ⟨x, y, h.trans h1, h2, h3⟩
theorem MA.of {M : MM} {sn : Int32} {e e' : Nat} (h : MA M sn e e') : ∃ b, M1 M sn e b ∧ A0s M sn b e' := by
  obtain ⟨w, hw, h1, h⟩ := h
  rcases h with ⟨h2, h⟩ | ⟨h2, h3, v, hv, h4, h5, h⟩
  · exact ⟨e', ⟨w, hw, h1, Or.inl ⟨h2, h⟩⟩, R1.refl _⟩
  · exact ⟨_, ⟨w, hw, h1, Or.inr ⟨h2, h3, v, hv, h4, h5, rfl⟩⟩, h⟩
/-- from closed sets the two ways of going are one -/
theorem Im_Wk {M : MM} (hok : MOk M) {sn : Int32} {S : Nat → Prop} (hS : Acl M sn S) : ∀ (k c : Nat), Im M sn S k c ↔ ∃ a, S a ∧ Wk M sn k a c
  | 0, c => ⟨fun h => ⟨c, h, R1.refl c⟩, fun ⟨a, h, r⟩ => hS.s h r⟩
  | k + 1, c => by
    constructor
    · rintro ⟨a, h1, h2⟩
      obtain ⟨s, hs, hw⟩ := (Im_Wk hok hS k a).mp h1
      obtain ⟨b, h3, h4⟩ := h2.of
      exact ⟨s, hs, a, b, hw, h3, h4⟩
    · rintro ⟨s, hs, a, b, hw, h3, h4⟩
      obtain ⟨w, hw1, h1, h⟩ := id h3
      rcases h with ⟨h2, h⟩ | ⟨h2, h5, v, hv, h6, h7, h⟩
      · -- the second one goes first
        have bT := (hok.2.1 w hw1).2.2
        have bF := (hok.2.1 w hw1).1
        have sh := h4.shift hok (a / 10)
        have d1 := h4.div hok
        rw [show 10 * (a / 10) + b % 10 = a by omega] at sh
        refine ⟨10 * (a / 10) + c % 10, (Im_Wk hok hS k _).mpr ⟨s, hs, hw.app sh⟩, w, hw1, by omega, Or.inl ⟨h2, by omega⟩⟩
      · exact ⟨a, (Im_Wk hok hS k a).mpr ⟨s, hs, hw⟩, w, hw1, h1, Or.inr ⟨h2, h5, v, hv, h6, h7, by rw [← h]; exact h4⟩⟩
theorem Wk.CD {M : MM} (hok : MOk M) {sn : Int32} {k a c : Nat} (ha : CD M sn a) (h : Wk M sn k a c) : CD M sn c := by
  induction k generalizing c with
  | zero => exact (CD.cl hok).s ha h
  | succ k ih =>
    obtain ⟨x, y, h1, h2, h3⟩ := h
    exact (CD.cl hok).s ((ih h1).m hok h2) h3
/-- there is a walk with k ways of the mark -/
def DW (M : MM) (sn : Int32) (k : Nat) : Prop := ∃ a c, CD M sn a ∧ Wk M sn k a c
theorem DW.pred {M : MM} {sn : Int32} {k : Nat} (h : DW M sn (k + 1)) : DW M sn k := by
  obtain ⟨a, c, ha, x, y, h1, -⟩ := h
  exact ⟨a, x, ha, h1⟩
theorem DW.le {M : MM} {sn : Int32} {j k : Nat} (hjk : j ≤ k) (h : DW M sn k) : DW M sn j := by
  induction k with
  | zero => rw [Nat.le_zero.mp hjk]; exact h
  | succ k ih =>
    rcases Nat.lt_or_ge j (k + 1) with q | q
    · exact ih (by omega) h.pred
    · rw [show j = k + 1 by omega]; exact h
theorem Im_DW {M : MM} (hok : MOk M) {sn : Int32} {k : Nat} : (∃ c, Im M sn (CD M sn) k c) ↔ DW M sn k := by
  constructor
  · rintro ⟨c, h⟩; obtain ⟨a, ha, hw⟩ := (Im_Wk hok (CD.cl hok) k c).mp h; exact ⟨a, c, ha, hw⟩
  · rintro ⟨a, c, ha, hw⟩; exact ⟨c, (Im_Wk hok (CD.cl hok) k c).mpr ⟨a, ha, hw⟩⟩
/-- single steps of doubtful pairs -/
def DE (M : MM) (sn : Int32) (e e' : Nat) : Prop := M1 M sn e e' ∨ A0 M sn e e'
theorem Wk_of_DE {M : MM} {sn : Int32} {a c : Nat} (h : R1 (DE M sn) a c) : ∃ i, Wk M sn i a c := by
  refine h (fun c => ∃ i, Wk M sn i a c) (fun x q => ⟨0, by rw [q]; exact R1.refl _⟩) (fun x y q e => ?_)
  obtain ⟨i, hw⟩ := q
  rcases e with e | e
  · exact ⟨i + 1, x, y, hw, e, R1.refl _⟩
  · exact ⟨i, hw.app (R1.one e)⟩
theorem A0s.DE {M : MM} {sn : Int32} {a c : Nat} (h : A0s M sn a c) : R1 (DE M sn) a c := R1.mono h (fun _ _ e => Or.inr e)
theorem Wk.DE {M : MM} {sn : Int32} {k a c : Nat} (h : Wk M sn k a c) : R1 (DE M sn) a c := by
  induction k generalizing c with
  | zero => exact A0s.DE h
  | succ k ih =>
    obtain ⟨x, y, h1, h2, h3⟩ := h
    exact ((ih h1).step (Or.inl h2)).trans (A0s.DE h3)
/-- a ring -/
def RING (M : MM) (sn : Int32) : Prop := ∃ a b, CD M sn a ∧ M1 M sn a b ∧ R1 (DE M sn) b a
theorem Wk_mul {M : MM} {sn : Int32} {j a : Nat} (h : Wk M sn j a a) : ∀ m, Wk M sn (m * j) a a
  | 0 => by rw [Nat.zero_mul]; exact R1.refl a
  | m + 1 => by rw [Nat.succ_mul]; exact (Wk_mul h m).trans h
theorem RING.all {M : MM} {sn : Int32} (h : RING M sn) (k : Nat) : DW M sn k := by
  obtain ⟨a, b, ha, h1, h2⟩ := h
  obtain ⟨i, hw⟩ := Wk_of_DE h2
  have h3 : Wk M sn 1 a b := ⟨a, b, R1.refl a, h1, R1.refl b⟩
  have h4 := Wk_mul (h3.trans hw) k
  refine DW.le (k := k * (1 + i)) ?_ ⟨a, a, ha, h4⟩
  calc k = k * 1 := (Nat.mul_one k).symm
    _ ≤ k * (1 + i) := Nat.mul_le_mul_left k (by omega)
/-- the places of a long walk -/
theorem Wk_seq {M : MM} {sn : Int32} : ∀ (k a c : Nat), Wk M sn k a c → ∃ f : Nat → Nat, R1 (DE M sn) a (f 0) ∧ f k = c ∧ ∀ i, i < k → ∃ b, M1 M sn (f i) b ∧ R1 (DE M sn) b (f (i + 1))
  | 0, a, c, h => ⟨fun _ => c, A0s.DE h, rfl, fun i hi => absurd hi (Nat.not_lt_zero _)⟩
  | k + 1, a, c, h => by
    obtain ⟨x, y, h1, h2, h3⟩ := h
    obtain ⟨f, g1, g2, g3⟩ := Wk_seq k a x h1
    refine ⟨fun i => if i = k + 1 then c else f i, ?_, if_pos rfl, fun i hi => ?_⟩
    · show R1 (DE M sn) a (if 0 = k + 1 then c else f 0)
      rw [if_neg (by omega)]; exact g1
    · by_cases e : i = k
      · subst e
        show ∃ b, M1 M sn (if i = i + 1 then c else f i) b ∧ R1 (DE M sn) b (if i + 1 = i + 1 then c else f (i + 1))
        rw [if_neg (by omega), if_pos rfl, g2]
        exact ⟨y, h2, A0s.DE h3⟩
      · show ∃ b, M1 M sn (if i = k + 1 then c else f i) b ∧ R1 (DE M sn) b (if i + 1 = k + 1 then c else f (i + 1))
        rw [if_neg (by omega), if_neg (by omega)]
        exact g3 i (by omega)
theorem DE_CD {M : MM} (hok : MOk M) {sn : Int32} {a c : Nat} (ha : CD M sn a) (h : R1 (DE M sn) a c) : CD M sn c := h (CD M sn) (fun i q => by rw [q]; exact ha) (fun x y q e => by
  rcases e with e | e
  · exact q.m hok e
  · exact q.a hok e)
theorem seq_go {M : MM} {sn : Int32} {f : Nat → Nat} {k : Nat} (h : ∀ i, i < k → ∃ b, M1 M sn (f i) b ∧ R1 (DE M sn) b (f (i + 1))) : ∀ (d i : Nat), i + d ≤ k → R1 (DE M sn) (f i) (f (i + d))
  | 0, i, _ => R1.refl _
  | d + 1, i, hd => by
    obtain ⟨b, h1, h2⟩ := h (i + d) (by omega)
    exact ((seq_go h d i (by omega)).step (Or.inl h1)).trans h2
theorem DW.ring {M : MM} (hok : MOk M) {sn : Int32} (h : DW M sn 100) : RING M sn := by
  obtain ⟨a, c, ha, hw⟩ := h
  obtain ⟨f, g1, g2, g3⟩ := Wk_seq 100 a c hw
  have hcd : ∀ i, i ≤ 100 → CD M sn (f i) := fun i hi => DE_CD hok (DE_CD hok ha g1) (by have := seq_go g3 i 0 (by omega); rw [Nat.zero_add] at this; exact this)
  obtain ⟨i, j, hij, hj, e⟩ := fb_twice (m := 100) (n := 101) (f := f) (fun i hi => (hcd i (by omega)).1) (by decide)
  obtain ⟨b, h1, h2⟩ := g3 i (by omega)
  refine ⟨f i, b, hcd i (by omega), h1, ?_⟩
  rw [e]
  have := seq_go g3 (j - (i + 1)) (i + 1) (by omega)
  rw [show i + 1 + (j - (i + 1)) = j by omega] at this
  exact h2.trans this
theorem ring_iff {M : MM} (hok : MOk M) {sn : Int32} : RING M sn ↔ ∀ k, DW M sn k := ⟨fun h k => h.all k, fun h => (h 100).ring hok⟩
/-- the delay: -1, or the most ways of the mark -/
def IsDly (M : MM) (sn : Int32) (r : Int32) : Prop := (r = -1 ∧ ∀ k, DW M sn k) ∨ ∃ k, k ≤ 100 ∧ r = nI k ∧ ¬ DW M sn (k + 1) ∧ ∀ j, j < k → DW M sn (j + 1)
theorem nI_ne_m1 {k : Nat} (hk : k ≤ 100) : nI k ≠ -1 := by
  intro e
  have h1 := nI_toInt (show k < 2 ^ 31 by omega)
  rw [e] at h1
  have h2 : (-1 : Int32).toInt = -1 := by decide
  omega
theorem IsDly.uniq {M : MM} {sn r r' : Int32} (h : IsDly M sn r) (h' : IsDly M sn r') : r = r' := by
  rcases h with ⟨e, h⟩ | ⟨k, hk, e, h1, h2⟩ <;> rcases h' with ⟨e', h'⟩ | ⟨k', hk', e', h1', h2'⟩
  · rw [e, e']
  · exact absurd (h _) h1'
  · exact absurd (h' _) h1
  · have : k = k' := by
      rcases Nat.lt_trichotomy k k' with q | q | q
      · exact absurd (h2' k q) h1
      · exact q
      · exact absurd (h2 k' q) h1'
    rw [e, e', this]
theorem IsDly.apart {M : MM} (hok : MOk M) {sn r : Int32} (h : IsDly M sn r) : r = -1 ↔ RING M sn := by
  rw [ring_iff hok]
  rcases h with ⟨e, h⟩ | ⟨k, hk, e, h1, h2⟩
  · exact ⟨fun _ => h, fun _ => e⟩
  · refine ⟨fun z => absurd (e.symm.trans z) (nI_ne_m1 hk), fun z => absurd (z _) h1⟩
/-! more eyes: no new ring -/
def Sub8 (sn sn' : Int32) (X : Int32) : Prop := (∀ d, bt sn d = true → bt sn' d = true) ∧ ∀ d, bt sn' d = true → bt sn d = false → bt X d = false
theorem P1.more {M : MM} (hok : MOk M) {sn sn' : Int32} (hs : Sub8 sn sn' (mX M)) {c c' : Nat} (h : P1 M sn' c c') : R1 (PE M sn) c c' := by
  obtain ⟨w, hw, h1, h⟩ := h
  rcases h with ⟨h2, h⟩ | ⟨h2, h3, v, hv, h4, h5, h⟩
  · refine R1.one (Or.inl ⟨w, hw, h1, Or.inl ⟨?_, h⟩⟩)
    cases e : bt sn (mD M w)
    · rfl
    · rw [hs.1 _ e] at h2; cases h2
  · cases e : bt sn (mD M w)
    · have b1 : P1 M sn c (10 * mkB M w (c / 10) + c % 10) := ⟨w, hw, h1, Or.inl ⟨e, rfl⟩⟩
      have b2 : P0 M sn (10 * mkB M w (c / 10) + c % 10) c' := ⟨v, hv, by rw [h4]; exact e, by rw [h4]; exact h3, by omega, by omega⟩
      exact (R1.one (Or.inl b1)).step (Or.inr b2)
    · exact R1.one (Or.inl ⟨w, hw, h1, Or.inr ⟨e, h3, v, hv, h4, h5, h⟩⟩)
theorem P0.more {M : MM} {sn sn' : Int32} (hs : Sub8 sn sn' (mX M)) {c c' : Nat} (h : P0 M sn' c c') : P0 M sn c c' := by
  obtain ⟨w, hw, h1, h2, h3, h⟩ := h
  refine ⟨w, hw, ?_, h2, h3, h⟩
  cases e : bt sn (mD M w)
  · rfl
  · rw [hs.1 _ e] at h1; cases h1
theorem Pc.more {M : MM} (hok : MOk M) {sn sn' : Int32} (hs : Sub8 sn sn' (mX M)) {c : Nat} (h : Pc M sn' c) : Pc M sn c := by
  refine h (Pc M sn) (fun i q => by rw [q]; exact R1.refl 0) (fun a b q e => ?_)
  rcases e with e | e
  · exact q.trans (e.more hok hs)
  · exact q.step (Or.inr (e.more hs))
theorem M1.more {M : MM} (hok : MOk M) {sn sn' : Int32} (hs : Sub8 sn sn' (mX M)) {c c' : Nat} (h : M1 M sn' c c') : ∃ b, M1 M sn c b ∧ A0s M sn b c' := by
  obtain ⟨w, hw, h1, h⟩ := h
  rcases h with ⟨h2, h⟩ | ⟨h2, h3, v, hv, h4, h5, h⟩
  · refine ⟨c', ⟨w, hw, h1, Or.inl ⟨?_, h⟩⟩, R1.refl _⟩
    cases e : bt sn (mD M w)
    · rfl
    · rw [hs.1 _ e] at h2; cases h2
  · cases e : bt sn (mD M w)
    · refine ⟨10 * mT M w + c % 10, ⟨w, hw, h1, Or.inl ⟨e, rfl⟩⟩, R1.one ⟨v, hv, by rw [h4]; exact e, by rw [h4]; exact h3, by omega, by omega⟩⟩
    · exact ⟨c', ⟨w, hw, h1, Or.inr ⟨e, h3, v, hv, h4, h5, h⟩⟩, R1.refl _⟩
theorem Wk.more {M : MM} (hok : MOk M) {sn sn' : Int32} (hs : Sub8 sn sn' (mX M)) : ∀ {k a c : Nat}, Wk M sn' k a c → Wk M sn k a c
  | 0, _, _, h => R1.mono h (fun _ _ e => P0.more hs e)
  | k + 1, a, c, h => by
    obtain ⟨x, y, h1, h2, h3⟩ := h
    obtain ⟨b, h4, h5⟩ := h2.more hok hs
    exact ⟨x, b, Wk.more hok hs h1, h4, h5.trans (R1.mono h3 (fun _ _ e => P0.more hs e))⟩
theorem RING.more {M : MM} (hok : MOk M) {sn sn' : Int32} (hs : Sub8 sn sn' (mX M)) (h : RING M sn') : RING M sn := by
  rw [ring_iff hok] at h ⊢
  intro k
  obtain ⟨a, c, ha, hw⟩ := h k
  exact ⟨a, c, ⟨ha.1, ha.2.more hok hs⟩, hw.more hok hs⟩
