/-! the object: its state, the kept ones, the text, the counts -/
abbrev BB : Type := Nat × (Nat → SS) × (Nat × (Nat → Nat)) × Int32 × Int32 × Int32
abbrev AA : Type := SS × BB
abbrev hcA (A : AA) : Nat := A.2.1
abbrev hiA (A : AA) : Nat → SS := A.2.2.1
abbrev tlA (A : AA) : Nat := A.2.2.2.1.1
abbrev TA (A : AA) : Nat → Nat := A.2.2.2.1.2
def AOk (A : AA) : Prop := SOk A.1 ∧ (∀ i, i < hcA A → SOk (hiA A i)) ∧ TOk (tlA A) (TA A)
def keptB (A : AA) : BB := ((if hcA A < 6 then hcA A + 1 else 6), keepH A.1 (hiA A), A.2.2.2)
def badA (A : AA) : AA := (A.1, A.2.1, A.2.2.1, A.2.2.2.1, A.2.2.2.2.1 + 1, A.2.2.2.2.2)
def noA (A : AA) : AA := (A.1, A.2.1, A.2.2.1, A.2.2.2.1, A.2.2.2.2.1, A.2.2.2.2.2.1 + 1, A.2.2.2.2.2.2)
def fullA (A : AA) : AA := (A.1, A.2.1, A.2.2.1, A.2.2.2.1, A.2.2.2.2.1, A.2.2.2.2.2.1, A.2.2.2.2.2.2 + 1)
noncomputable def newA (A : AA) (M : MM) : AA := (newZ M (FST M), keptB A)
theorem badA_ok {A : AA} (h : AOk A) : AOk (badA A) := h
theorem noA_ok {A : AA} (h : AOk A) : AOk (noA A) := h
theorem fullA_ok {A : AA} (h : AOk A) : AOk (fullA A) := h
theorem kept_ok {A : AA} (h : AOk A) {z : SS} (hz : SOk z) : AOk (z, keptB A) := by
  refine ⟨hz, fun i hi => ?_, h.2.2⟩
  have hi : i < (if hcA A < 6 then hcA A + 1 else 6) := hi
  show SOk (if i = 0 then A.1 else hiA A (i - 1))
  by_cases e : i = 0
  · rw [if_pos e]; exact h.1
  · rw [if_neg e]
    refine h.2.1 (i - 1) ?_
    split at hi <;> omega
theorem newZ_ok {M : MM} (h : MOk M) : SOk (newZ M (FST M)) := ⟨h, Nat.zero_le _, fun i hi => (bS_bt _ |>.mp hi).1, fun i hi => absurd hi (Nat.not_lt_zero _)⟩
theorem newA_ok {A : AA} (h : AOk A) {M : MM} (hM : MOk M) : AOk (newA A M) := kept_ok h (newZ_ok hM)
noncomputable def cif {α : Type} (P : Prop) (a b : α) : α := @ite α P (Classical.propDecidable P) a b
theorem cif_t {α : Type} {P : Prop} {a b : α} (h : P) : cif P a b = a := @if_pos _ (Classical.propDecidable _) h _ _ _
theorem cif_f {α : Type} {P : Prop} {a b : α} (h : ¬ P) : cif P a b = b := @if_neg _ (Classical.propDecidable _) h _ _ _
abbrev cl (x : Int32) : Nat := x.toNatClampNeg
theorem isN.cl {a : Int32} {m : Nat} (h : isN a m) (hm : m < 2 ^ 31) : cl a ≤ m ∧ a = nI (cl a) := by
  obtain ⟨n, hn, rfl⟩ := h
  have e : (nI n).toNatClampNeg = n := nI_clamp (by omega)
  show (nI n).toNatClampNeg ≤ m ∧ _
  rw [e]; exact ⟨hn, congrArg nI e.symm⟩
/-- a number of one of the ways -/
def isW (M : MM) (w : Int32) : Prop := ∃ n, n < mN M ∧ w = nI n
theorem isW.cl {M : MM} {w : Int32} (h : isW M w) (hok : MOk M) : cl w < mN M ∧ w = nI (cl w) := by
  obtain ⟨n, hn, rfl⟩ := h
  have h24 := hok.1
  have e : (nI n).toNatClampNeg = n := nI_clamp (by omega)
  show (nI n).toNatClampNeg < mN M ∧ _
  rw [e]; exact ⟨hn, congrArg nI e.symm⟩
/-! what the calls answer, and what they make of the object -/
noncomputable def wayF (A : AA) (a d b : Int32) : Int32 × AA := cif (isN a 9 ∧ isN d 7 ∧ isN b 9) (cif (hasB (zM A.1) (cl a) (cl d) (cl b) = true) (-3, noA A) (cif (mN (zM A.1) < 24) (nI (mN (zM A.1)), newA A (addW (zM A.1) (cl a) (cl d) (cl b))) (-4, fullA A))) (-2, badA A)
noncomputable def dropF (A : AA) (w : Int32) : Int32 × AA := cif (isW (zM A.1) w) (nI (mN (zM A.1) - 1), newA A (remW (zM A.1) (cl w))) (-2, badA A)
def chg (b d v : Int32) : Int32 := if v = 1 then b ||| (1 <<< (d &&& 31)) else b &&& ((1 <<< (d &&& 31)) ^^^ (-1))
def deedM (M : MM) (d k v : Int32) : MM := if k = 0 then withS M (chg (mS M) d v) else withX M (chg (mX M) d v)
noncomputable def deedF (A : AA) (d k v : Int32) : Int32 × AA := cif (isN d 7 ∧ isN k 1 ∧ isN v 1) ((((if k = 0 then mS (zM A.1) else mX (zM A.1)) >>> (d &&& 31)) &&& 1), newA A (deedM (zM A.1) d k v)) (-2, badA A)
def zeroM (M : MM) : MM := (0, mF M, mD M, mT M, mS M, mX M)
def is24 (n : Int32) : Prop := ∃ k, 1 ≤ k ∧ k ≤ 24 ∧ n = nI k
noncomputable def drawF (A : AA) (s n : Int32) : Int32 × AA := cif (isN s 999999 ∧ is24 n) (nI (mN (drawM (cl n) (cl s) (zeroM (zM A.1)))), newA A (drawM (cl n) (cl s) (zeroM (zM A.1)))) (-2, badA A)
def anewM (M : MM) : MM := (0, mF M, mD M, mT M, 255, 0)
noncomputable def anewF (A : AA) : Int32 × AA := (nI (mN (zM A.1)), newA A (anewM (zM A.1)))
noncomputable def ofV (M : MM) (w : Nat) (k : Int32) : Int32 := if k = 0 then nI (mF M w) else if k = 1 then nI (mD M w) else if k = 2 then nI (mT M w) else b01 (bt (MKS M) (mF M w) || bt (MKS M) (mF M w + 10))
noncomputable def ofF (A : AA) (w k : Int32) : Int32 × AA := cif (isW (zM A.1) w ∧ isN k 3) (ofV (zM A.1) (cl w) k, A) (-2, badA A)
noncomputable def seesF (A : AA) (d : Int32) : Int32 × AA := cif (isN d 7) (cif (AFC (zM A.1) (zK A.1) (cl d) = 0) (-3, noA A) (verd (AFC (zM A.1) (zK A.1) (cl d)), (seeZ A.1 (cl d) (AFC (zM A.1) (zK A.1) (cl d)), keptB A))) (-2, badA A)
noncomputable def restartsF (A : AA) : Int32 × AA := (verd (FST (zM A.1)), newA A (zM A.1))
def unsP (M : MM) (S : Int32) : Prop := ∃ w, w < mN M ∧ bt (mS M) (mD M w) = false ∧ (bt S (mF M w) = true ∨ bt S (mF M w + 10) = true)
noncomputable def unsB (M : MM) (S : Int32) : Bool := (Classical.propDecidable (unsP M S)).decide
theorem unsB_t {M : MM} {S : Int32} : unsB M S = true ↔ unsP M S := by simp [unsB]
noncomputable def knownV (z : SS) (k : Int32) : Int32 := if k = 0 then zK z else if k = 1 then verd (zK z) else if k = 2 then nI (bc (zK z)) else if k = 3 then NXT (zM z) (zK z) else b01 (unsB (zM z) (zK z))
noncomputable def knownF (A : AA) (k : Int32) : Int32 × AA := cif (isN k 4) (knownV A.1 k, A) (-2, badA A)
noncomputable def wouldF (A : AA) (d : Int32) : Int32 × AA := cif (isN d 7) (cif (bt (mS (zM A.1)) (cl d) = true) ((if AFT (zM A.1) (zK A.1) (cl d) = 0 then -1 else verd (AFT (zM A.1) (zK A.1) (cl d))), A) (-3, noA A)) (-2, badA A)
noncomputable def sightF (A : AA) (k : Int32) : Int32 × AA := cif (0 ≤ k) (cif (nI (zC A.1) ≤ k) (-1, A) (zG A.1 (cl k), A)) (-2, badA A)
noncomputable def allV (M : MM) (k : Int32) : Int32 := if k = 0 then MKS M else if k = 1 then nI (BFS M).1 else if k = 2 then cntV (BFS M) 2 else if k = 3 then cntV (BFS M) 1 else if k = 4 then nI (cnt (fun e => Pc M (mS M) e) 200) else nI (cnt (fun e => Pc M (mS M) (100 + e)) 100)
noncomputable def allF (A : AA) (k : Int32) : Int32 × AA := cif (isN k 5) (allV (zM A.1) k, A) (-2, badA A)
noncomputable def dlyV (M : MM) (sn : Int32) : Int32 := Classical.epsilon (fun r => IsDly M sn r)
theorem dlyV_e {M : MM} {sn r : Int32} (h : IsDly M sn r) : dlyV M sn = r := (Classical.epsilon_spec (p := fun r => IsDly M sn r) ⟨r, h⟩).uniq h
noncomputable def fewV (M : MM) : Int32 := Classical.epsilon (fun r => IsFew M r)
theorem fewV_e {M : MM} {r : Int32} (h : IsFew M r) : fewV M = r := (Classical.epsilon_spec (p := fun r => IsFew M r) ⟨r, h⟩).uniq h
noncomputable def soonV (L : LL) (v : Int32) : Int32 := Classical.epsilon (fun r => IsSoon L v r)
theorem soonV_e {L : LL} {v r : Int32} (h : IsSoon L v r) : soonV L v = r := (Classical.epsilon_spec (p := fun r => IsSoon L v r) ⟨r, h⟩).uniq h
noncomputable def apartV (M : MM) (k : Int32) : Int32 := if k = 0 then b01 (!ringB M (mS M)) else dlyV M (mS M)
noncomputable def apartF (A : AA) (k : Int32) : Int32 × AA := cif (isN k 1) (apartV (zM A.1) k, A) (-2, badA A)
noncomputable def soonestF (A : AA) (k : Int32) : Int32 × AA := cif (isN k 1) (soonV (BFS (zM A.1)) (vA k), A) (-2, badA A)
noncomputable def enoughF (A : AA) (e : Int32) : Int32 × AA := cif (EyO (zM A.1) e) (b01 (!ringB (zM A.1) (mS (zM A.1) ||| e)), A) (-2, badA A)
noncomputable def fewestF (A : AA) (k : Int32) : Int32 × AA := cif (isN k 1) (fewA k (fewV (zM A.1)), A) (-2, badA A)
noncomputable def pairV (M : MM) (m p : Nat) : Int32 := cif (Pc M (mS M) (10 * m + p)) (if 10 ≤ m ∧ rngB M (mS M) (10 * (m - 10) + p) = true then 2 else 1) 0
noncomputable def pairF (A : AA) (m p : Int32) : Int32 × AA := cif (isN m 19 ∧ isN p 9) (pairV (zM A.1) (cl m) (cl p), A) (-2, badA A)
def textA (A : AA) (t : Nat × (Nat → Nat)) : AA := (A.1, A.2.1, A.2.2.1, t, A.2.2.2.2)
noncomputable def typeF (A : AA) (c : Int32) : Int32 × AA := cif (isN c 127) (cif (tlA A < 120) (nI (tlA A + 1), textA A (tlA A + 1, va_up (TA A) (tlA A) (cl c))) (-4, fullA A)) (-2, badA A)
def clearF (A : AA) : Int32 × AA := (nI (tlA A), textA A (0, TA A))
noncomputable def readsF (A : AA) : Int32 × AA := match RES (TA A) (tlA A) 0 (q0 (zM A.1)) with
  | .inl p => ((-10) - nI p, A)
  | .inr (n, D) => (nI n, newA A D)
noncomputable def backF (A : AA) : Int32 × AA := if hcA A = 0 then (-3, noA A) else (nI (hcA A - 1), (hiA A 0, hcA A - 1, (fun i => hiA A (i + 1)), A.2.2.2))
def toldV (A : AA) (k : Int32) : Int32 := if k = 0 then A.2.2.2.2.1 else if k = 1 then A.2.2.2.2.2.1 else if k = 2 then A.2.2.2.2.2.2 else if k = 3 then nI (tlA A) else if k = 4 then nI (mN (zM A.1)) else if k = 5 then mS (zM A.1) else if k = 6 then mX (zM A.1) else nI (hcA A)
noncomputable def toldF (A : AA) (k : Int32) : Int32 × AA := cif (isN k 7) (toldV A k, A) (-2, badA A)
/-! the model's object -/
def RestR (σ : ft_St) (B : BB) : Prop := RepRH σ B.1 B.2.1 ∧ RepRT σ B.2.2.1.1 B.2.2.1.2 ∧ σ.2.1 1 0 = B.2.2.2.1 ∧ σ.2.1 1 1 = B.2.2.2.2.1 ∧ σ.2.1 1 2 = B.2.2.2.2.2
def RepR (σ : ft_St) (A : AA) : Prop := RepRZ σ A.1 ∧ RestR σ A.2
theorem RestR.oth {σ σ' : ft_St} {B : BB} (h : RestR σ B) (k : Oth σ σ') : RestR σ' B := by
  obtain ⟨h1, h2, h3⟩ := h
  refine ⟨⟨h1.1, by rw [k.2.1.2]; exact h1.2.1, fun i hi => by rw [k.2.1.1]; exact h1.2.2 i hi⟩, h2.oth k, ?_⟩
  rw [k.2.2.1]; exact h3
theorem KeepR.oth {σ σ' : ft_St} (k : KeepR σ σ') : Oth σ σ' := ⟨⟨k.1 7 (by decide) (by decide) (by decide), k.1 8 (by decide) (by decide) (by decide), k.2 5 (by decide)⟩, ⟨k.2 6 (by decide), k.1 10 (by decide) (by decide) (by decide)⟩, k.2 1 (by decide), k.2 15 (by decide), k.1 22 (by decide) (by decide) (by decide)⟩
theorem RepR.of {σ σ' : ft_St} {A : AA} (h : RepR σ A) (hM : RepRM σ' (zM A.1)) (k : Oth σ σ') : RepR σ' A := by
  obtain ⟨⟨h1, h2, h3, h4⟩, h5⟩ := h
  refine ⟨⟨hM, by rw [k.1.1]; exact h2, by rw [k.1.2.1]; exact h3, fun i hi => by rw [k.1.2.2]; exact h4 i hi⟩, h5.oth k⟩
theorem RepR.keep {σ σ' : ft_St} {A : AA} (h : RepR σ A) (k : KeepR σ σ') : RepR σ' A := h.of (h.1.1.keep k) k.oth
theorem r_leavesA {σ : ft_St} {A : AA} {Φ : ft_St → Prop} (hR : RepR σ A) (hok : AOk A) (h : ∀ σ', RepR σ' (A.1, keptB A) → (∀ j, j ≠ 10 → σ'.1 0 j = σ.1 0 j) → (∀ a, a ≠ 6 → σ'.2.1 a = σ.2.1 a) → Φ σ') : w_X10_leavesState σ Φ := by
  refine r_leavesState hR.1 hok.1 hR.2.1 hok.2.1 (fun f' hf => h _ ?_ (fun j hj => ?_) (fun a ha => ?_))
  · obtain ⟨⟨h1, h2, h3, h4⟩, h5, h6, h7⟩ := hR
    refine ⟨⟨⟨h1.1, h1.2.1, h1.2.2.1, h1.2.2.2⟩, h2, h3, h4⟩, ⟨?_, sF_s _ _ _ _, ?_⟩, ⟨h6.1, h6.2⟩, h7⟩
    · show (if hcA A < 6 then hcA A + 1 else 6) ≤ 6
      split <;> omega
    · intro i hi
      rw [sF_2, sA_s]; exact hf i hi
  · rw [sF_1, if_neg hj]; rfl
  · rw [sF_2]; exact sA_n σ f' ha
theorem r_beginsA {σ : ft_St} {M : MM} {B : BB} {Φ : ft_St → Prop} (hM : RepRM σ M) (hok : MOk M) (hB : RestR σ B) (h : ∀ σ', RepR σ' (newZ M (FST M), B) → σ'.1 0 1 = σ.1 0 1 → Φ σ') : w_X10_begins σ Φ := by
  refine r_begins2 hM hok (fun σ' h1 h2 h3 => h σ' ⟨h1, ?_⟩ h2)
  obtain ⟨b1, b2, b3⟩ := hB
  obtain ⟨k1, k2, k3⟩ := h3
  refine ⟨⟨b1.1, by rw [k2]; exact b1.2.1, fun i hi => by rw [k1]; exact b1.2.2 i hi⟩, ⟨by rw [k3]; exact b2.1, fun i hi => by rw [k1]; exact b2.2 i hi⟩, ?_⟩
  rw [k1]; exact b3
theorem r_badA {σ : ft_St} {A : AA} {Φ : Int32 → ft_St → Prop} (hR : RepR σ A) (h : ∀ σ', RepR σ' (badA A) → Φ (-2) σ') : w_X10_bad σ Φ := by
  refine r_bad (h _ ?_)
  obtain ⟨h1, h5, h6, h7, h8, h9⟩ := hR
  refine ⟨h1, h5, h6, ?_, ?_, ?_⟩
  · rw [sA_s, upd_s, h7]; rfl
  · rw [sA_s, upd_n (by decide), h8]; rfl
  · rw [sA_s, upd_n (by decide), h9]; rfl
theorem r_noA {σ : ft_St} {A : AA} {Φ : Int32 → ft_St → Prop} (hR : RepR σ A) (h : ∀ σ', RepR σ' (noA A) → Φ (-3) σ') : w_X10_no σ Φ := by
  refine r_no (h _ ?_)
  obtain ⟨h1, h5, h6, h7, h8, h9⟩ := hR
  refine ⟨h1, h5, h6, ?_, ?_, ?_⟩
  · rw [sA_s, upd_n (by decide), h7]; rfl
  · rw [sA_s, upd_s, h8]; rfl
  · rw [sA_s, upd_n (by decide), h9]; rfl
theorem r_fullA {σ : ft_St} {A : AA} {Φ : Int32 → ft_St → Prop} (hR : RepR σ A) (h : ∀ σ', RepR σ' (fullA A) → Φ (-4) σ') : w_X10_full σ Φ := by
  refine r_full (h _ ?_)
  obtain ⟨h1, h5, h6, h7, h8, h9⟩ := hR
  refine ⟨h1, h5, h6, ?_, ?_, ?_⟩
  · rw [sA_s, upd_n (by decide), h7]; rfl
  · rw [sA_s, upd_n (by decide), h8]; rfl
  · rw [sA_s, upd_s, h9]; rfl
