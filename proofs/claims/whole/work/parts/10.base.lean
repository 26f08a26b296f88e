/-! the store: fields by cell and slot, int rows by cell, long rows by cell -/
abbrev ft_St : Type := (Nat → Nat → Int32) × (Nat → Nat → Int32) × (Nat → Nat → Int64)
def ft_sF (σ : ft_St) (k j : Nat) (v : Int32) : ft_St := (fun a b => if b = j then (if a = k then v else σ.1 a b) else σ.1 a b, σ.2)
def ft_sA (σ : ft_St) (k : Nat) (f : Nat → Int32) : ft_St := (σ.1, fun a => if a = k then f else σ.2.1 a, σ.2.2)
def ft_sL (σ : ft_St) (k : Nat) (f : Nat → Int64) : ft_St := (σ.1, σ.2.1, fun a => if a = k then f else σ.2.2 a)
abbrev ft_G : Type := va_G × (ClassId × ClassId × ClassId × ClassId) × (Nat → Nat)
abbrev ft_ty (Γ : ft_G) : List (ClassId × FieldType) := [(Γ.2.1.1, .byte), (Γ.2.1.2.1, .int), (Γ.2.1.2.2.1, .long), (Γ.2.1.2.2.2, .object "FaultTwins$State")]
/-! the pool of n cells at ad, the k-th holds E k -/
def ft_W (n : Nat) (ad : Nat → Nat) (E : Nat → va_E) : va_W := (List.range n).map (fun k => (ad k, E k))
def ft_A (n : Nat) (ad : Nat → Nat) : Nat → Prop := fun q => ∃ k, k < n ∧ q = ad k
def ft_I (n : Nat) (ad : Nat → Nat) : Prop := ∀ i j, i < n → j < n → ad i = ad j → i = j
theorem ft_W_get {n : Nat} {ad : Nat → Nat} {E : Nat → va_E} {k : Nat} (hk : k < n) : (ft_W n ad E)[k]? = some (ad k, E k) := by
  simp [ft_W, hk]
theorem ft_W_some {n : Nat} {ad : Nat → Nat} {E : Nat → va_E} {k : Nat} {q : Nat × va_E} (h : (ft_W n ad E)[k]? = some q) : k < n ∧ q = (ad k, E k) := by
  by_cases hk : k < n
  · rw [ft_W_get hk] at h
    exact ⟨hk, (Option.some.inj h).symm⟩
  · have hl : (ft_W n ad E).length ≤ k := by simpa [ft_W] using Nat.not_lt.mp hk
    rw [List.getElem?_eq_none hl] at h
    cases h
theorem ft_W_set {n : Nat} {ad : Nat → Nat} {E E' : Nat → va_E} {k : Nat} {e : va_E} (h1 : E' k = e) (h2 : ∀ i, i ≠ k → E' i = E i) : (ft_W n ad E).set k (ad k, e) = ft_W n ad E' := by
  apply List.ext_getElem?
  intro i
  by_cases hi : i < n
  · rw [ft_W_get hi, List.getElem?_set]
    by_cases hik : k = i
    · subst hik
      have hl : k < (ft_W n ad E).length := by simpa [ft_W] using hi
      simp [hl, h1]
    · rw [if_neg hik, ft_W_get hi, h2 i (fun h => hik h.symm)]
  · have hl : (ft_W n ad E').length ≤ i := by simpa [ft_W] using Nat.not_lt.mp hi
    have hl2 : ((ft_W n ad E).set k (ad k, e)).length ≤ i := by simpa [ft_W] using Nat.not_lt.mp hi
    rw [List.getElem?_eq_none hl, List.getElem?_eq_none hl2]
theorem ft_W_D {n : Nat} {ad : Nat → Nat} {E : Nat → va_E} (h : ft_I n ad) : va_D (ft_A n ad) (ft_W n ad E) := by
  refine ⟨fun i j x y hi hj hxy => ?_, fun k q hk => ?_⟩
  · obtain ⟨h1, rfl⟩ := ft_W_some hi
    obtain ⟨h2, rfl⟩ := ft_W_some hj
    exact h i j h1 h2 hxy
  · obtain ⟨h1, rfl⟩ := ft_W_some hk
    exact ⟨k, h1, rfl⟩
/-! loops and joins of the walks, as predicates -/
def LP1 {A : Type} (F : (A → Prop) → A → Prop) (a : A) : Prop := ∀ X : A → Prop, (∀ a, F X a → X a) → X a
def LP2 {A B : Type} (F : (A → B → Prop) → A → B → Prop) (a : A) (b : B) : Prop := ∀ X : A → B → Prop, (∀ a b, F X a b → X a b) → X a b
def LP3 {A B C : Type} (F : (A → B → C → Prop) → A → B → C → Prop) (a : A) (b : B) (c : C) : Prop := ∀ X : A → B → C → Prop, (∀ a b c, F X a b c → X a b c) → X a b c
def LP4 {A B C D : Type} (F : (A → B → C → D → Prop) → A → B → C → D → Prop) (a : A) (b : B) (c : C) (d : D) : Prop := ∀ X : A → B → C → D → Prop, (∀ a b c d, F X a b c d → X a b c d) → X a b c d
def LP5 {A B C D E : Type} (F : (A → B → C → D → E → Prop) → A → B → C → D → E → Prop) (a : A) (b : B) (c : C) (d : D) (e : E) : Prop := ∀ X : A → B → C → D → E → Prop, (∀ a b c d e, F X a b c d e → X a b c d e) → X a b c d e
def LP6 {A B C D E G : Type} (F : (A → B → C → D → E → G → Prop) → A → B → C → D → E → G → Prop) (a : A) (b : B) (c : C) (d : D) (e : E) (g : G) : Prop := ∀ X : A → B → C → D → E → G → Prop, (∀ a b c d e g, F X a b c d e g → X a b c d e g) → X a b c d e g
theorem LP1.rule {A : Type} {F : (A → Prop) → A → Prop} (I : A → Prop) (μ : A → Nat) (h : ∀ (X : A → Prop) a, I a → (∀ a', I a' → μ a' < μ a → X a') → F X a) {a : A} (h0 : I a) : LP1 F a := by
  intro X hX
  have key : ∀ n a, μ a < n → I a → X a := by
    intro n
    induction n with
    | zero => intro a ha; exact absurd ha (Nat.not_lt_zero _)
    | succ n ih => intro a ha hi; exact hX a (h X a hi (fun a' h1 h2 => ih a' (by omega) h1))
  exact key (μ a + 1) a (Nat.lt_succ_self _) h0
theorem LP2.rule {A B : Type} {F : (A → B → Prop) → A → B → Prop} (I : A → B → Prop) (μ : A → B → Nat) (h : ∀ (X : A → B → Prop) a b, I a b → (∀ a' b', I a' b' → μ a' b' < μ a b → X a' b') → F X a b) {a : A} {b : B} (h0 : I a b) : LP2 F a b := by
  intro X hX
  have key : ∀ n a b, μ a b < n → I a b → X a b := by
    intro n
    induction n with
    | zero => intro a b ha; exact absurd ha (Nat.not_lt_zero _)
    | succ n ih => intro a b ha hi; exact hX a b (h X a b hi (fun a' b' h1 h2 => ih a' b' (by omega) h1))
  exact key (μ a b + 1) a b (Nat.lt_succ_self _) h0
theorem LP3.rule {A B C : Type} {F : (A → B → C → Prop) → A → B → C → Prop} (I : A → B → C → Prop) (μ : A → B → C → Nat) (h : ∀ (X : A → B → C → Prop) a b c, I a b c → (∀ a' b' c', I a' b' c' → μ a' b' c' < μ a b c → X a' b' c') → F X a b c) {a : A} {b : B} {c : C} (h0 : I a b c) : LP3 F a b c := by
  intro X hX
  have key : ∀ n a b c, μ a b c < n → I a b c → X a b c := by
    intro n
    induction n with
    | zero => intro a b c ha; exact absurd ha (Nat.not_lt_zero _)
    | succ n ih => intro a b c ha hi; exact hX a b c (h X a b c hi (fun a' b' c' h1 h2 => ih a' b' c' (by omega) h1))
  exact key (μ a b c + 1) a b c (Nat.lt_succ_self _) h0
theorem LP4.rule {A B C D : Type} {F : (A → B → C → D → Prop) → A → B → C → D → Prop} (I : A → B → C → D → Prop) (μ : A → B → C → D → Nat) (h : ∀ (X : A → B → C → D → Prop) a b c d, I a b c d → (∀ a' b' c' d', I a' b' c' d' → μ a' b' c' d' < μ a b c d → X a' b' c' d') → F X a b c d) {a : A} {b : B} {c : C} {d : D} (h0 : I a b c d) : LP4 F a b c d := by
  intro X hX
  have key : ∀ n a b c d, μ a b c d < n → I a b c d → X a b c d := by
    intro n
    induction n with
    | zero => intro a b c d ha; exact absurd ha (Nat.not_lt_zero _)
    | succ n ih => intro a b c d ha hi; exact hX a b c d (h X a b c d hi (fun a' b' c' d' h1 h2 => ih a' b' c' d' (by omega) h1))
  exact key (μ a b c d + 1) a b c d (Nat.lt_succ_self _) h0
theorem LP5.rule {A B C D E : Type} {F : (A → B → C → D → E → Prop) → A → B → C → D → E → Prop} (I : A → B → C → D → E → Prop) (μ : A → B → C → D → E → Nat) (h : ∀ (X : A → B → C → D → E → Prop) a b c d e, I a b c d e → (∀ a' b' c' d' e', I a' b' c' d' e' → μ a' b' c' d' e' < μ a b c d e → X a' b' c' d' e') → F X a b c d e) {a : A} {b : B} {c : C} {d : D} {e : E} (h0 : I a b c d e) : LP5 F a b c d e := by
  intro X hX
  have key : ∀ n a b c d e, μ a b c d e < n → I a b c d e → X a b c d e := by
    intro n
    induction n with
    | zero => intro a b c d e ha; exact absurd ha (Nat.not_lt_zero _)
    | succ n ih => intro a b c d e ha hi; exact hX a b c d e (h X a b c d e hi (fun a' b' c' d' e' h1 h2 => ih a' b' c' d' e' (by omega) h1))
  exact key (μ a b c d e + 1) a b c d e (Nat.lt_succ_self _) h0
theorem LP6.rule {A B C D E G : Type} {F : (A → B → C → D → E → G → Prop) → A → B → C → D → E → G → Prop} (I : A → B → C → D → E → G → Prop) (μ : A → B → C → D → E → G → Nat) (h : ∀ (X : A → B → C → D → E → G → Prop) a b c d e g, I a b c d e g → (∀ a' b' c' d' e' g', I a' b' c' d' e' g' → μ a' b' c' d' e' g' < μ a b c d e g → X a' b' c' d' e' g') → F X a b c d e g) {a : A} {b : B} {c : C} {d : D} {e : E} {g : G} (h0 : I a b c d e g) : LP6 F a b c d e g := by
  intro X hX
  have key : ∀ n a b c d e g, μ a b c d e g < n → I a b c d e g → X a b c d e g := by
    intro n
    induction n with
    | zero => intro a b c d e g ha; exact absurd ha (Nat.not_lt_zero _)
    | succ n ih => intro a b c d e g ha hi; exact hX a b c d e g (h X a b c d e g hi (fun a' b' c' d' e' g' h1 h2 => ih a' b' c' d' e' g' (by omega) h1))
  exact key (μ a b c d e g + 1) a b c d e g (Nat.lt_succ_self _) h0
def JN0 (B : Prop → Prop) (R : Prop) : Prop := ∀ J : Prop, (R → J) → B J
def JN1 {A : Type} (B : (A → Prop) → Prop) (R : A → Prop) : Prop := ∀ J : A → Prop, (∀ a, R a → J a) → B J
def JN2 {A1 A2 : Type} (B : (A1 → A2 → Prop) → Prop) (R : A1 → A2 → Prop) : Prop := ∀ J : A1 → A2 → Prop, (∀ a b, R a b → J a b) → B J
def JN3 {A1 A2 A3 : Type} (B : (A1 → A2 → A3 → Prop) → Prop) (R : A1 → A2 → A3 → Prop) : Prop := ∀ J : A1 → A2 → A3 → Prop, (∀ a b c, R a b c → J a b c) → B J
def JN4 {A1 A2 A3 A4 : Type} (B : (A1 → A2 → A3 → A4 → Prop) → Prop) (R : A1 → A2 → A3 → A4 → Prop) : Prop := ∀ J : A1 → A2 → A3 → A4 → Prop, (∀ a b c d, R a b c d → J a b c d) → B J
def JN5 {A1 A2 A3 A4 A5 : Type} (B : (A1 → A2 → A3 → A4 → A5 → Prop) → Prop) (R : A1 → A2 → A3 → A4 → A5 → Prop) : Prop := ∀ J : A1 → A2 → A3 → A4 → A5 → Prop, (∀ a b c d e, R a b c d e → J a b c d e) → B J
theorem ft_cut {A B : Prop} (a : A) (b : A → B) : B := b a
theorem ft_in_lt {i : Int32} {n : Nat} (h : vp_in i n) : i.toNatClampNeg < n := Nat.not_le.mp fun q => h (Or.inr q)
theorem ft_tab_x (x : Int32) (k : Nat) (hk : k < 2 ^ 31) (h : x.toInt = (k : Int)) : x = nI k := by
  apply Int32.toInt_inj.mp
  rw [h, nI_toInt hk]
theorem ft_tab3 (x : Int32) : (x.toInt < 0 ∨ 2 < x.toInt) ∨ x = 0 ∨ x = 1 ∨ x = 2 := by
  by_cases h : x.toInt < 0 ∨ 2 < x.toInt
  · exact Or.inl h
  · right
    have h3 : x.toInt = ((0 : Nat) : Int) ∨ x.toInt = ((1 : Nat) : Int) ∨ x.toInt = ((2 : Nat) : Int) := by omega
    rcases h3 with h3 | h3 | h3
    · exact Or.inl (ft_tab_x x _ (by decide) h3)
    · exact Or.inr (Or.inl (ft_tab_x x _ (by decide) h3))
    · exact Or.inr (Or.inr (ft_tab_x x _ (by decide) h3))
theorem ft_tab4 (x : Int32) : (x.toInt < 0 ∨ 3 < x.toInt) ∨ x = 0 ∨ x = 1 ∨ x = 2 ∨ x = 3 := by
  by_cases h : x.toInt < 0 ∨ 3 < x.toInt
  · exact Or.inl h
  · right
    have h3 : x.toInt = ((0 : Nat) : Int) ∨ x.toInt = ((1 : Nat) : Int) ∨ x.toInt = ((2 : Nat) : Int) ∨ x.toInt = ((3 : Nat) : Int) := by omega
    rcases h3 with h3 | h3 | h3 | h3
    · exact Or.inl (ft_tab_x x _ (by decide) h3)
    · exact Or.inr (Or.inl (ft_tab_x x _ (by decide) h3))
    · exact Or.inr (Or.inr (Or.inl (ft_tab_x x _ (by decide) h3)))
    · exact Or.inr (Or.inr (Or.inr (ft_tab_x x _ (by decide) h3)))
theorem ft_tab5 (x : Int32) : (x.toInt < 0 ∨ 4 < x.toInt) ∨ x = 0 ∨ x = 1 ∨ x = 2 ∨ x = 3 ∨ x = 4 := by
  by_cases h : x.toInt < 0 ∨ 4 < x.toInt
  · exact Or.inl h
  · right
    have h3 : x.toInt = ((0 : Nat) : Int) ∨ x.toInt = ((1 : Nat) : Int) ∨ x.toInt = ((2 : Nat) : Int) ∨ x.toInt = ((3 : Nat) : Int) ∨ x.toInt = ((4 : Nat) : Int) := by omega
    rcases h3 with h3 | h3 | h3 | h3 | h3
    · exact Or.inl (ft_tab_x x _ (by decide) h3)
    · exact Or.inr (Or.inl (ft_tab_x x _ (by decide) h3))
    · exact Or.inr (Or.inr (Or.inl (ft_tab_x x _ (by decide) h3)))
    · exact Or.inr (Or.inr (Or.inr (Or.inl (ft_tab_x x _ (by decide) h3))))
    · exact Or.inr (Or.inr (Or.inr (Or.inr (ft_tab_x x _ (by decide) h3))))
theorem ft_tab7 (x : Int32) : (x.toInt < 0 ∨ 6 < x.toInt) ∨ x = 0 ∨ x = 1 ∨ x = 2 ∨ x = 3 ∨ x = 4 ∨ x = 5 ∨ x = 6 := by
  by_cases h : x.toInt < 0 ∨ 6 < x.toInt
  · exact Or.inl h
  · right
    have h3 : x.toInt = ((0 : Nat) : Int) ∨ x.toInt = ((1 : Nat) : Int) ∨ x.toInt = ((2 : Nat) : Int) ∨ x.toInt = ((3 : Nat) : Int) ∨ x.toInt = ((4 : Nat) : Int) ∨ x.toInt = ((5 : Nat) : Int) ∨ x.toInt = ((6 : Nat) : Int) := by omega
    rcases h3 with h3 | h3 | h3 | h3 | h3 | h3 | h3
    · exact Or.inl (ft_tab_x x _ (by decide) h3)
    · exact Or.inr (Or.inl (ft_tab_x x _ (by decide) h3))
    · exact Or.inr (Or.inr (Or.inl (ft_tab_x x _ (by decide) h3)))
    · exact Or.inr (Or.inr (Or.inr (Or.inl (ft_tab_x x _ (by decide) h3))))
    · exact Or.inr (Or.inr (Or.inr (Or.inr (Or.inl (ft_tab_x x _ (by decide) h3)))))
    · exact Or.inr (Or.inr (Or.inr (Or.inr (Or.inr (Or.inl (ft_tab_x x _ (by decide) h3))))))
    · exact Or.inr (Or.inr (Or.inr (Or.inr (Or.inr (Or.inr (ft_tab_x x _ (by decide) h3))))))
/-! a truth value -/
def ft_bz (v : Int32) : Prop := v = 0 ∨ v = 1
theorem ft_bz_n {v : Int32} (h : ft_bz v) : narrow .boolean (.int v) = .int v := by
  rcases h with rfl | rfl <;> rfl
theorem ft_bz_f {v : Int32} (h : ft_bz v) : fits .boolean (.int v) = true := by
  rcases h with rfl | rfl <;> rfl
section FTROWS
variable {p : Program} {l : Launch} {e : Env} {R : Room} {s : State} {m : MethodId} {args : Array Value} {below : List Frame} {meth : Method} {c : Code} {H : Heap} {locs : List Loc} {cells slots : Nat} {Q : State → Prop}
variable {cc : ByteArray} {pc : Nat} {ls : Array Slot} {rest : List Value} {D : va_G} {cl : List vw_C} {tys : List (ClassId × FieldType)} {H0 : Heap} {n : Nat} {ad : Nat → Nat} {E E' : Nat → va_E} {k : Nat}
theorem ft_get (hexec : p.tables.exec = Jvm.exec) (hb : c.code = cc) {own ref C : String} {T : u_T} {N ci index : Nat} {Ts : List Cond} (hts : ∀ w ∈ Ts, w.before args s = true) (hin : ∀ w ∈ u_ws C T N, w ∈ Ts) (hown : s.vm.findClass own = some m.cls) (hK : va_K D cl tys s) (hP : va_P D cl (ft_W n ad E) H) (hk : k < n) {fs : List Value} (he : E k = .inr (ci, fs)) (hc : cl[ci]? = some (C, T, N)) (j : Nat) (hj : j < N) (hlink : (Cond.fieldLink own index ref (T j).2.1 (T j).2.2.1).before args s = true) (href : (T j).1 = ref) {v : Value} (hv : fs[j]? = some v) (hdg : decode cc pc = .ok (.getfield index, 3))
    (kk : W p l e R s m args below meth c H locs cells slots Q (F0 m (pc + 3) ls (v :: rest))) : W p l e R s m args below meth c H locs cells slots Q (F0 m pc ls (.ref (ad k) :: rest)) :=
  va_get hexec hb hts hin hown hK hP k ((ft_W_get hk).trans (by rw [he])) hc j hj hlink (fun x h => by rw [← href]; exact h) hv hdg kk
theorem ft_put (hexec : p.tables.exec = Jvm.exec) (hb : c.code = cc) {own ref C : String} {T : u_T} {N ci index : Nat} {Ts : List Cond} (hts : ∀ w ∈ Ts, w.before args s = true) (hin : ∀ w ∈ u_ws C T N, w ∈ Ts) (ty0 : Nat → FieldType) (hty : ∀ k, k < N → parseFieldDescriptor (T k).2.2.1 = some (ty0 k)) (hnm : ∀ a, a < N → ∀ b, b < N → a ≠ b → (T a).2.1 ≠ (T b).2.1) (hown : s.vm.findClass own = some m.cls) (hK : va_K D cl tys s) (hI : ft_I n ad) (hP : va_P D cl (ft_W n ad E) H) (hS : va_S (ft_A n ad) H0 H locs) (hk : k < n) {fs : List Value} (he : E k = .inr (ci, fs)) (hc : cl[ci]? = some (C, T, N)) (j : Nat) (hj : j < N) (hlink : (Cond.fieldLink own index ref (T j).2.1 (T j).2.2.1).before args s = true) (href : (T j).1 = ref) (hfin : (T j).2.2.2 = false) {ty : FieldType} {v : Value} (hd : parseFieldDescriptor (T j).2.2.1 = some ty) (hn : narrow ty v = v) (hfit : fits ty v = true) (hl : j < fs.length)
    (h1 : E' k = .inr (ci, fs.set j v)) (h2 : ∀ i, i ≠ k → E' i = E i) (hdg : decode cc pc = .ok (.putfield index, 3))
    (kk : ∀ (H1 : Heap) (locs1 : List Loc), va_P D cl (ft_W n ad E') H1 → va_S (ft_A n ad) H0 H1 locs1 → W p l e R s m args below meth c H1 locs1 cells slots Q (F0 m (pc + 3) ls rest)) : W p l e R s m args below meth c H locs cells slots Q (F0 m pc ls (v :: .ref (ad k) :: rest)) := by
  refine va_put hexec hb hts hin ty0 hty hnm hown hK hP (ft_W_D hI) hS k ((ft_W_get hk).trans (by rw [he])) hc j hj hlink (fun x h => by rw [← href]; exact h) hfin hd hn hfit hl hdg (fun H1 locs1 hP1 _ hS1 => ?_)
  rw [ft_W_set h1 h2] at hP1
  exact kk H1 locs1 hP1 hS1
theorem ft_iald (hexec : p.tables.exec = Jvm.exec) (hb : c.code = cc) (hK : va_K D cl tys s) (hP : va_P D cl (ft_W n ad E) H) (hk : k < n) {cA : ClassId} {N : Nat} {f : Nat → Int32} (he : E k = .inl (cA, N, .inl f)) (t0 : Nat) (ht : tys[t0]? = some (cA, .int)) {i : Int32} (hin : vp_in i N) (hdg : decode cc pc = .ok (.iaload, 1))
    (kk : W p l e R s m args below meth c H locs cells slots Q (F0 m (pc + 1) ls (.int (f i.toNatClampNeg) :: rest))) : W p l e R s m args below meth c H locs cells slots Q (F0 m pc ls (.int i :: .ref (ad k) :: rest)) :=
  va_iald hexec hb hK hP k t0 ((ft_W_get hk).trans (by rw [he])) ht hin hdg kk
theorem ft_bald (hexec : p.tables.exec = Jvm.exec) (hb : c.code = cc) (hK : va_K D cl tys s) (hP : va_P D cl (ft_W n ad E) H) (hk : k < n) {cA : ClassId} {N : Nat} {f : Nat → Int32} (he : E k = .inl (cA, N, .inl f)) (t0 : Nat) (ht : tys[t0]? = some (cA, .byte)) {i : Int32} (hin : vp_in i N) (hdg : decode cc pc = .ok (.baload, 1))
    (kk : W p l e R s m args below meth c H locs cells slots Q (F0 m (pc + 1) ls (.int (f i.toNatClampNeg) :: rest))) : W p l e R s m args below meth c H locs cells slots Q (F0 m pc ls (.int i :: .ref (ad k) :: rest)) :=
  va_bald hexec hb hK hP k t0 ((ft_W_get hk).trans (by rw [he])) ht hin hdg kk
theorem ft_lald (hexec : p.tables.exec = Jvm.exec) (hb : c.code = cc) (hK : va_K D cl tys s) (hP : va_P D cl (ft_W n ad E) H) (hk : k < n) {cA : ClassId} {N : Nat} {f : Nat → Int64} (he : E k = .inl (cA, N, .inr (.inl f))) (t0 : Nat) (ht : tys[t0]? = some (cA, .long)) {i : Int32} (hin : vp_in i N) (hdg : decode cc pc = .ok (.laload, 1))
    (kk : W p l e R s m args below meth c H locs cells slots Q (F0 m (pc + 1) ls (.long (f i.toNatClampNeg) :: rest))) : W p l e R s m args below meth c H locs cells slots Q (F0 m pc ls (.int i :: .ref (ad k) :: rest)) :=
  va_lald hexec hb hK hP k t0 ((ft_W_get hk).trans (by rw [he])) ht hin hdg kk
theorem ft_iast (hexec : p.tables.exec = Jvm.exec) (hb : c.code = cc) (hK : va_K D cl tys s) (hI : ft_I n ad) (hP : va_P D cl (ft_W n ad E) H) (hS : va_S (ft_A n ad) H0 H locs) (hk : k < n) {cA : ClassId} {N : Nat} {f : Nat → Int32} (he : E k = .inl (cA, N, .inl f)) (t0 : Nat) (ht : tys[t0]? = some (cA, .int)) {i x : Int32} (hin : vp_in i N) (h1 : E' k = .inl (cA, N, .inl (upd f i.toNatClampNeg x))) (h2 : ∀ i, i ≠ k → E' i = E i) (hdg : decode cc pc = .ok (.iastore, 1))
    (kk : ∀ (H1 : Heap) (locs1 : List Loc), va_P D cl (ft_W n ad E') H1 → va_S (ft_A n ad) H0 H1 locs1 → W p l e R s m args below meth c H1 locs1 cells slots Q (F0 m (pc + 1) ls rest)) : W p l e R s m args below meth c H locs cells slots Q (F0 m pc ls (.int x :: .int i :: .ref (ad k) :: rest)) := by
  refine va_iast hexec hb hK hP (ft_W_D hI) hS k t0 ((ft_W_get hk).trans (by rw [he])) ht hin hdg (fun H1 locs1 hP1 _ hS1 => ?_)
  rw [ft_W_set h1 h2] at hP1
  exact kk H1 locs1 hP1 hS1
theorem ft_last (hexec : p.tables.exec = Jvm.exec) (hb : c.code = cc) (hK : va_K D cl tys s) (hI : ft_I n ad) (hP : va_P D cl (ft_W n ad E) H) (hS : va_S (ft_A n ad) H0 H locs) (hk : k < n) {cA : ClassId} {N : Nat} {f : Nat → Int64} (he : E k = .inl (cA, N, .inr (.inl f))) (t0 : Nat) (ht : tys[t0]? = some (cA, .long)) {i : Int32} {x : Int64} (hin : vp_in i N) (h1 : E' k = .inl (cA, N, .inr (.inl (vp_updL f i.toNatClampNeg x)))) (h2 : ∀ i, i ≠ k → E' i = E i) (hdg : decode cc pc = .ok (.lastore, 1))
    (kk : ∀ (H1 : Heap) (locs1 : List Loc), va_P D cl (ft_W n ad E') H1 → va_S (ft_A n ad) H0 H1 locs1 → W p l e R s m args below meth c H1 locs1 cells slots Q (F0 m (pc + 1) ls rest)) : W p l e R s m args below meth c H locs cells slots Q (F0 m pc ls (.long x :: .int i :: .ref (ad k) :: rest)) := by
  refine va_last hexec hb hK hP (ft_W_D hI) hS k t0 ((ft_W_get hk).trans (by rw [he])) ht hin hdg (fun H1 locs1 hP1 _ hS1 => ?_)
  rw [ft_W_set h1 h2] at hP1
  exact kk H1 locs1 hP1 hS1
end FTROWS
