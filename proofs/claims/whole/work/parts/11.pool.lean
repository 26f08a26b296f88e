/-! ===== the C pool ===== -/
def cC_K (k : Nat) : Nat := ([9, 4, 1, 12, 12, 12, 8, 12, 0, 14, 4, 1, 12, 12, 12, 8, 12, 4, 1, 12, 12, 12, 8, 12, 4, 1, 12, 12, 12, 8, 12, 4, 1, 12, 12, 12, 8, 12, 4, 1, 12, 12, 12, 8, 12, 4, 1, 12, 12, 12, 8, 12, 7, 12, 12, 3, 12, 12, 12, 6, 12, 12, 12, 12, 12, 12, 6, 12, 12, 12, 12, 12, 12, 5, 11, 2, 1, 12, 12, 12] : List Nat).getD k 99
def cC_N (k : Nat) : Nat := ([0, 0, 0, 24, 24, 24, 0, 8, 0, 6, 0, 0, 24, 24, 24, 0, 8, 0, 0, 24, 24, 24, 0, 8, 0, 0, 24, 24, 24, 0, 8, 0, 0, 24, 24, 24, 0, 8, 0, 0, 24, 24, 24, 0, 8, 0, 0, 24, 24, 24, 0, 8, 0, 20, 160, 0, 500, 500, 1024, 0, 10, 80, 20, 10, 10, 10, 0, 10, 80, 20, 10, 10, 10, 0, 120, 0, 0, 24, 24, 24] : List Nat).getD k 0
def cC_E (Γ : ft_G) (σ : ft_St) (k : Nat) : va_E :=
  if cC_K k = 12 then .inl (Γ.2.1.2.1, cC_N k, .inl (σ.2.1 k)) else
  if cC_K k = 11 then .inl (Γ.2.1.1, cC_N k, .inl (σ.2.1 k)) else
  if cC_K k = 14 then .inl (Γ.2.1.2.2.2, cC_N k, .inr (.inr (.inr (.inr (fun j => some (Γ.2.2 (k + 1 + 7 * j))))))) else
  if cC_K k = 0 then .inr (0, [.ref (Γ.2.2 (k + 1)), .int (σ.1 k 1), .int (σ.1 k 2)]) else
  if cC_K k = 1 then .inr (1, [.ref (Γ.2.2 (k + 1)), .ref (Γ.2.2 (k + 2)), .ref (Γ.2.2 (k + 3)), .int (σ.1 k 3), .int (σ.1 k 4), .int (σ.1 k 5)]) else
  if cC_K k = 2 then .inr (2, [.ref (Γ.2.2 (k + 1)), .int (σ.1 k 1), .int (σ.1 k 2), .int (σ.1 k 3), .int (σ.1 k 4), .int (σ.1 k 5), .int (σ.1 k 6)]) else
  if cC_K k = 3 then .inr (3, [.ref (Γ.2.2 (k + 1)), .ref (Γ.2.2 (k + 2)), .ref (Γ.2.2 (k + 3)), .int (σ.1 k 3)]) else
  if cC_K k = 4 then .inr (4, [.ref (Γ.2.2 (k + 1)), .ref (Γ.2.2 (k + 5))]) else
  if cC_K k = 5 then .inr (5, [.ref (Γ.2.2 (k + 1)), .int (σ.1 k 1)]) else
  if cC_K k = 6 then .inr (6, [.ref (Γ.2.2 2), .int (σ.1 k 1), .ref (Γ.2.2 (k + 1)), .ref (Γ.2.2 (k + 2)), .ref (Γ.2.2 (k + 3)), .int (σ.1 k 5), .ref (Γ.2.2 (k + 4)), .ref (Γ.2.2 (k + 5)), .ref (Γ.2.2 (k + 6))]) else
  if cC_K k = 7 then .inr (7, [.ref (Γ.2.2 (k + 1)), .ref (Γ.2.2 (k + 2)), .int (σ.1 k 2)]) else
  if cC_K k = 8 then .inr (8, [.ref (Γ.2.2 (k + 1)), .int (σ.1 k 1), .int (σ.1 k 2)]) else
  if cC_K k = 9 then .inr (9, [.ref (Γ.2.2 1), .ref (Γ.2.2 8), .ref (Γ.2.2 52), .ref (Γ.2.2 55), .ref (Γ.2.2 59), .ref (Γ.2.2 66), .ref (Γ.2.2 73), .ref (Γ.2.2 75), .int (σ.1 k 8), .int (σ.1 k 9), .int (σ.1 k 10), .int (σ.1 k 11), .int (σ.1 k 12), .int (σ.1 k 13), .int (σ.1 k 14)]) else
  .inr (99, [])
theorem cC_E12 {Γ : ft_G} {σ : ft_St} {k : Nat} (h : cC_K k = 12) : cC_E Γ σ k = .inl (Γ.2.1.2.1, cC_N k, .inl (σ.2.1 k)) := by simp [cC_E, h]
theorem cC_E11 {Γ : ft_G} {σ : ft_St} {k : Nat} (h : cC_K k = 11) : cC_E Γ σ k = .inl (Γ.2.1.1, cC_N k, .inl (σ.2.1 k)) := by simp [cC_E, h]
theorem cC_E14 {Γ : ft_G} {σ : ft_St} {k : Nat} (h : cC_K k = 14) : cC_E Γ σ k = .inl (Γ.2.1.2.2.2, cC_N k, .inr (.inr (.inr (.inr (fun j => some (Γ.2.2 (k + 1 + 7 * j))))))) := by simp [cC_E, h]
theorem cC_E0 {Γ : ft_G} {σ : ft_St} {k : Nat} (h : cC_K k = 0) : cC_E Γ σ k = .inr (0, [.ref (Γ.2.2 (k + 1)), .int (σ.1 k 1), .int (σ.1 k 2)]) := by simp [cC_E, h]
theorem cC_E1 {Γ : ft_G} {σ : ft_St} {k : Nat} (h : cC_K k = 1) : cC_E Γ σ k = .inr (1, [.ref (Γ.2.2 (k + 1)), .ref (Γ.2.2 (k + 2)), .ref (Γ.2.2 (k + 3)), .int (σ.1 k 3), .int (σ.1 k 4), .int (σ.1 k 5)]) := by simp [cC_E, h]
theorem cC_E2 {Γ : ft_G} {σ : ft_St} {k : Nat} (h : cC_K k = 2) : cC_E Γ σ k = .inr (2, [.ref (Γ.2.2 (k + 1)), .int (σ.1 k 1), .int (σ.1 k 2), .int (σ.1 k 3), .int (σ.1 k 4), .int (σ.1 k 5), .int (σ.1 k 6)]) := by simp [cC_E, h]
theorem cC_E3 {Γ : ft_G} {σ : ft_St} {k : Nat} (h : cC_K k = 3) : cC_E Γ σ k = .inr (3, [.ref (Γ.2.2 (k + 1)), .ref (Γ.2.2 (k + 2)), .ref (Γ.2.2 (k + 3)), .int (σ.1 k 3)]) := by simp [cC_E, h]
theorem cC_E4 {Γ : ft_G} {σ : ft_St} {k : Nat} (h : cC_K k = 4) : cC_E Γ σ k = .inr (4, [.ref (Γ.2.2 (k + 1)), .ref (Γ.2.2 (k + 5))]) := by simp [cC_E, h]
theorem cC_E5 {Γ : ft_G} {σ : ft_St} {k : Nat} (h : cC_K k = 5) : cC_E Γ σ k = .inr (5, [.ref (Γ.2.2 (k + 1)), .int (σ.1 k 1)]) := by simp [cC_E, h]
theorem cC_E6 {Γ : ft_G} {σ : ft_St} {k : Nat} (h : cC_K k = 6) : cC_E Γ σ k = .inr (6, [.ref (Γ.2.2 2), .int (σ.1 k 1), .ref (Γ.2.2 (k + 1)), .ref (Γ.2.2 (k + 2)), .ref (Γ.2.2 (k + 3)), .int (σ.1 k 5), .ref (Γ.2.2 (k + 4)), .ref (Γ.2.2 (k + 5)), .ref (Γ.2.2 (k + 6))]) := by simp [cC_E, h]
theorem cC_E7 {Γ : ft_G} {σ : ft_St} {k : Nat} (h : cC_K k = 7) : cC_E Γ σ k = .inr (7, [.ref (Γ.2.2 (k + 1)), .ref (Γ.2.2 (k + 2)), .int (σ.1 k 2)]) := by simp [cC_E, h]
theorem cC_E8 {Γ : ft_G} {σ : ft_St} {k : Nat} (h : cC_K k = 8) : cC_E Γ σ k = .inr (8, [.ref (Γ.2.2 (k + 1)), .int (σ.1 k 1), .int (σ.1 k 2)]) := by simp [cC_E, h]
theorem cC_E9 {Γ : ft_G} {σ : ft_St} {k : Nat} (h : cC_K k = 9) : cC_E Γ σ k = .inr (9, [.ref (Γ.2.2 1), .ref (Γ.2.2 8), .ref (Γ.2.2 52), .ref (Γ.2.2 55), .ref (Γ.2.2 59), .ref (Γ.2.2 66), .ref (Γ.2.2 73), .ref (Γ.2.2 75), .int (σ.1 k 8), .int (σ.1 k 9), .int (σ.1 k 10), .int (σ.1 k 11), .int (σ.1 k 12), .int (σ.1 k 13), .int (σ.1 k 14)]) := by simp [cC_E, h]
theorem cC_lt {k x : Nat} (h : cC_K k = x) (hx : x < 99) : k < 80 := by
  rcases Nat.lt_or_ge k 80 with q | q
  · exact q
  · have h2 : cC_K k = 99 := by
      unfold cC_K
      rw [List.getD_eq_getElem?_getD, List.getElem?_eq_none (by simpa using q)]
      rfl
    omega
theorem cC_E_sF (Γ : ft_G) (σ : ft_St) (k j : Nat) (v : Int32) (i : Nat) (h : i ≠ k) : cC_E Γ (ft_sF σ k j v) i = cC_E Γ σ i := by simp [cC_E, ft_sF, h]
theorem cC_E_sA (Γ : ft_G) (σ : ft_St) (k : Nat) (f : Nat → Int32) (i : Nat) (h : i ≠ k) : cC_E Γ (ft_sA σ k f) i = cC_E Γ σ i := by simp [cC_E, ft_sA, h]
theorem cC_E_sL (Γ : ft_G) (σ : ft_St) (k : Nat) (f : Nat → Int64) (i : Nat) (h : i ≠ k) : cC_E Γ (ft_sL σ k f) i = cC_E Γ σ i := by simp [cC_E, ft_sL, h]
theorem tC_0_0 {k : Nat} (h : cC_K k = 0) : cC_K (k + 1) = 14 := by
  have hk := cC_lt h (by decide)
  revert h
  revert k
  decide
theorem nC_0_0 {k : Nat} (h : cC_K k = 0) : cC_N (k + 1) = 6 := by
  have hk := cC_lt h (by decide)
  revert h
  revert k
  decide
theorem tC_1_0 {k : Nat} (h : cC_K k = 1) : cC_K (k + 1) = 12 := by
  have hk := cC_lt h (by decide)
  revert h
  revert k
  decide
theorem nC_1_0 {k : Nat} (h : cC_K k = 1) : cC_N (k + 1) = 24 := by
  have hk := cC_lt h (by decide)
  revert h
  revert k
  decide
theorem tC_1_1 {k : Nat} (h : cC_K k = 1) : cC_K (k + 2) = 12 := by
  have hk := cC_lt h (by decide)
  revert h
  revert k
  decide
theorem nC_1_1 {k : Nat} (h : cC_K k = 1) : cC_N (k + 2) = 24 := by
  have hk := cC_lt h (by decide)
  revert h
  revert k
  decide
theorem tC_1_2 {k : Nat} (h : cC_K k = 1) : cC_K (k + 3) = 12 := by
  have hk := cC_lt h (by decide)
  revert h
  revert k
  decide
theorem nC_1_2 {k : Nat} (h : cC_K k = 1) : cC_N (k + 3) = 24 := by
  have hk := cC_lt h (by decide)
  revert h
  revert k
  decide
theorem tC_2_0 {k : Nat} (h : cC_K k = 2) : cC_K (k + 1) = 1 := by
  have hk := cC_lt h (by decide)
  revert h
  revert k
  decide
theorem tC_3_0 {k : Nat} (h : cC_K k = 3) : cC_K (k + 1) = 12 := by
  have hk := cC_lt h (by decide)
  revert h
  revert k
  decide
theorem nC_3_0 {k : Nat} (h : cC_K k = 3) : cC_N (k + 1) = 500 := by
  have hk := cC_lt h (by decide)
  revert h
  revert k
  decide
theorem tC_3_1 {k : Nat} (h : cC_K k = 3) : cC_K (k + 2) = 12 := by
  have hk := cC_lt h (by decide)
  revert h
  revert k
  decide
theorem nC_3_1 {k : Nat} (h : cC_K k = 3) : cC_N (k + 2) = 500 := by
  have hk := cC_lt h (by decide)
  revert h
  revert k
  decide
theorem tC_3_2 {k : Nat} (h : cC_K k = 3) : cC_K (k + 3) = 12 := by
  have hk := cC_lt h (by decide)
  revert h
  revert k
  decide
theorem nC_3_2 {k : Nat} (h : cC_K k = 3) : cC_N (k + 3) = 1024 := by
  have hk := cC_lt h (by decide)
  revert h
  revert k
  decide
theorem tC_4_0 {k : Nat} (h : cC_K k = 4) : cC_K (k + 1) = 1 := by
  have hk := cC_lt h (by decide)
  revert h
  revert k
  decide
theorem tC_4_1 {k : Nat} (h : cC_K k = 4) : cC_K (k + 5) = 8 := by
  have hk := cC_lt h (by decide)
  revert h
  revert k
  decide
theorem tC_5_0 {k : Nat} (h : cC_K k = 5) : cC_K (k + 1) = 11 := by
  have hk := cC_lt h (by decide)
  revert h
  revert k
  decide
theorem nC_5_0 {k : Nat} (h : cC_K k = 5) : cC_N (k + 1) = 120 := by
  have hk := cC_lt h (by decide)
  revert h
  revert k
  decide
theorem tC_6_0 {k : Nat} (h : cC_K k = 6) : cC_K 2 = 1 := by
  decide
theorem tC_6_2 {k : Nat} (h : cC_K k = 6) : cC_K (k + 1) = 12 := by
  have hk := cC_lt h (by decide)
  revert h
  revert k
  decide
theorem nC_6_2 {k : Nat} (h : cC_K k = 6) : cC_N (k + 1) = 10 := by
  have hk := cC_lt h (by decide)
  revert h
  revert k
  decide
theorem tC_6_3 {k : Nat} (h : cC_K k = 6) : cC_K (k + 2) = 12 := by
  have hk := cC_lt h (by decide)
  revert h
  revert k
  decide
theorem nC_6_3 {k : Nat} (h : cC_K k = 6) : cC_N (k + 2) = 80 := by
  have hk := cC_lt h (by decide)
  revert h
  revert k
  decide
theorem tC_6_4 {k : Nat} (h : cC_K k = 6) : cC_K (k + 3) = 12 := by
  have hk := cC_lt h (by decide)
  revert h
  revert k
  decide
theorem nC_6_4 {k : Nat} (h : cC_K k = 6) : cC_N (k + 3) = 20 := by
  have hk := cC_lt h (by decide)
  revert h
  revert k
  decide
theorem tC_6_6 {k : Nat} (h : cC_K k = 6) : cC_K (k + 4) = 12 := by
  have hk := cC_lt h (by decide)
  revert h
  revert k
  decide
theorem nC_6_6 {k : Nat} (h : cC_K k = 6) : cC_N (k + 4) = 10 := by
  have hk := cC_lt h (by decide)
  revert h
  revert k
  decide
theorem tC_6_7 {k : Nat} (h : cC_K k = 6) : cC_K (k + 5) = 12 := by
  have hk := cC_lt h (by decide)
  revert h
  revert k
  decide
theorem nC_6_7 {k : Nat} (h : cC_K k = 6) : cC_N (k + 5) = 10 := by
  have hk := cC_lt h (by decide)
  revert h
  revert k
  decide
theorem tC_6_8 {k : Nat} (h : cC_K k = 6) : cC_K (k + 6) = 12 := by
  have hk := cC_lt h (by decide)
  revert h
  revert k
  decide
theorem nC_6_8 {k : Nat} (h : cC_K k = 6) : cC_N (k + 6) = 10 := by
  have hk := cC_lt h (by decide)
  revert h
  revert k
  decide
theorem tC_7_0 {k : Nat} (h : cC_K k = 7) : cC_K (k + 1) = 12 := by
  have hk := cC_lt h (by decide)
  revert h
  revert k
  decide
theorem nC_7_0 {k : Nat} (h : cC_K k = 7) : cC_N (k + 1) = 20 := by
  have hk := cC_lt h (by decide)
  revert h
  revert k
  decide
theorem tC_7_1 {k : Nat} (h : cC_K k = 7) : cC_K (k + 2) = 12 := by
  have hk := cC_lt h (by decide)
  revert h
  revert k
  decide
theorem nC_7_1 {k : Nat} (h : cC_K k = 7) : cC_N (k + 2) = 160 := by
  have hk := cC_lt h (by decide)
  revert h
  revert k
  decide
theorem tC_8_0 {k : Nat} (h : cC_K k = 8) : cC_K (k + 1) = 12 := by
  have hk := cC_lt h (by decide)
  revert h
  revert k
  decide
theorem nC_8_0 {k : Nat} (h : cC_K k = 8) : cC_N (k + 1) = 8 := by
  have hk := cC_lt h (by decide)
  revert h
  revert k
  decide
theorem tC_9_0 {k : Nat} (h : cC_K k = 9) : cC_K 1 = 4 := by
  decide
theorem tC_9_1 {k : Nat} (h : cC_K k = 9) : cC_K 8 = 0 := by
  decide
theorem tC_9_2 {k : Nat} (h : cC_K k = 9) : cC_K 52 = 7 := by
  decide
theorem tC_9_3 {k : Nat} (h : cC_K k = 9) : cC_K 55 = 3 := by
  decide
theorem tC_9_4 {k : Nat} (h : cC_K k = 9) : cC_K 59 = 6 := by
  decide
theorem tC_9_5 {k : Nat} (h : cC_K k = 9) : cC_K 66 = 6 := by
  decide
theorem tC_9_6 {k : Nat} (h : cC_K k = 9) : cC_K 73 = 5 := by
  decide
theorem tC_9_7 {k : Nat} (h : cC_K k = 9) : cC_K 75 = 2 := by
  decide
theorem tC_14 {k : Nat} (h : cC_K k = 14) {j : Nat} (hj : j < 6) : cC_K (k + 1 + 7 * j) = 4 := by
  have hk := cC_lt h (by decide)
  revert h hj
  have hh : ∀ k, k < 80 → cC_K k = 14 → ∀ j, j < 6 → cC_K (k + 1 + 7 * j) = 4 := by decide
  exact fun a b => hh k hk a j b
def cC_P (Γ : ft_G) (s : State) (σ : ft_St) (H : Heap) (locs : List Loc) : Prop := va_P Γ.1 vwCl (ft_W 80 Γ.2.2 (cC_E Γ σ)) H ∧ va_S (ft_A 80 Γ.2.2) s.heap H locs
def cC_I (Γ : ft_G) : Prop := ft_I 80 Γ.2.2
section FTPC
variable {p : Program} {l : Launch} {e : Env} {R : Room} {s : State} {m : MethodId} {args : Array Value} {below : List Frame} {meth : Method} {c : Code} {H : Heap} {locs : List Loc} {cells slots : Nat} {Q : State → Prop}
variable {cc : ByteArray} {pc : Nat} {ls : Array Slot} {rest : List Value} {Γ : ft_G} {σ : ft_St} {k : Nat} {own : String} {index : Nat} {Ts : List Cond}
theorem gC_0_0 (hx : p.tables.exec = Jvm.exec) (hb : c.code = cc) (hts : ∀ w ∈ Ts, w.before args s = true) (hin : ∀ w ∈ wsX00, w ∈ Ts) (hown : s.vm.findClass own = some m.cls) (hK : va_K Γ.1 vwCl (ft_ty Γ) s) (hP : cC_P Γ s σ H locs) (hk : cC_K k = 0) (hlink : (Cond.fieldLink own index "FaultTwins$History" "states" "[LFaultTwins$State;").before args s = true) (hdg : decode cc pc = .ok (.getfield index, 3)) (kk : W p l e R s m args below meth c H locs cells slots Q (F0 m (pc + 3) ls (.ref (Γ.2.2 (k + 1)) :: rest))) : W p l e R s m args below meth c H locs cells slots Q (F0 m pc ls (.ref (Γ.2.2 k) :: rest)) := ft_get hx hb hts hin hown hK hP.1 (cC_lt hk (by decide)) (cC_E0 hk) rfl 0 (by decide) hlink rfl rfl hdg kk
theorem gC_0_1 (hx : p.tables.exec = Jvm.exec) (hb : c.code = cc) (hts : ∀ w ∈ Ts, w.before args s = true) (hin : ∀ w ∈ wsX00, w ∈ Ts) (hown : s.vm.findClass own = some m.cls) (hK : va_K Γ.1 vwCl (ft_ty Γ) s) (hP : cC_P Γ s σ H locs) (hk : cC_K k = 0) (hlink : (Cond.fieldLink own index "FaultTwins$History" "next" "I").before args s = true) (hdg : decode cc pc = .ok (.getfield index, 3)) (kk : W p l e R s m args below meth c H locs cells slots Q (F0 m (pc + 3) ls (.int (σ.1 k 1) :: rest))) : W p l e R s m args below meth c H locs cells slots Q (F0 m pc ls (.ref (Γ.2.2 k) :: rest)) := ft_get hx hb hts hin hown hK hP.1 (cC_lt hk (by decide)) (cC_E0 hk) rfl 1 (by decide) hlink rfl rfl hdg kk
theorem pC_0_1 {v : Int32} (hx : p.tables.exec = Jvm.exec) (hb : c.code = cc) (hts : ∀ w ∈ Ts, w.before args s = true) (hin : ∀ w ∈ wsX00, w ∈ Ts) (hown : s.vm.findClass own = some m.cls) (hK : va_K Γ.1 vwCl (ft_ty Γ) s) (hI : cC_I Γ) (hP : cC_P Γ s σ H locs) (hk : cC_K k = 0) (hlink : (Cond.fieldLink own index "FaultTwins$History" "next" "I").before args s = true) (hdg : decode cc pc = .ok (.putfield index, 3)) (kk : ∀ (H1 : Heap) (locs1 : List Loc), cC_P Γ s (ft_sF σ k 1 v) H1 locs1 → W p l e R s m args below meth c H1 locs1 cells slots Q (F0 m (pc + 3) ls rest)) : W p l e R s m args below meth c H locs cells slots Q (F0 m pc ls (.int v :: .ref (Γ.2.2 k) :: rest)) := ft_put (ty := .int) hx hb hts hin tyX0 tyX0_ok nmX0 hown hK hI hP.1 hP.2 (cC_lt hk (by decide)) (cC_E0 hk) rfl 1 (by decide) hlink rfl rfl (by decide +kernel) rfl rfl (Nat.le_of_ble_eq_true rfl) ((cC_E0 hk).trans (by simp [ft_sF])) (cC_E_sF Γ σ k 1 v) hdg (fun H1 locs1 a b => kk H1 locs1 ⟨a, b⟩)
theorem gC_0_2 (hx : p.tables.exec = Jvm.exec) (hb : c.code = cc) (hts : ∀ w ∈ Ts, w.before args s = true) (hin : ∀ w ∈ wsX00, w ∈ Ts) (hown : s.vm.findClass own = some m.cls) (hK : va_K Γ.1 vwCl (ft_ty Γ) s) (hP : cC_P Γ s σ H locs) (hk : cC_K k = 0) (hlink : (Cond.fieldLink own index "FaultTwins$History" "count" "I").before args s = true) (hdg : decode cc pc = .ok (.getfield index, 3)) (kk : W p l e R s m args below meth c H locs cells slots Q (F0 m (pc + 3) ls (.int (σ.1 k 2) :: rest))) : W p l e R s m args below meth c H locs cells slots Q (F0 m pc ls (.ref (Γ.2.2 k) :: rest)) := ft_get hx hb hts hin hown hK hP.1 (cC_lt hk (by decide)) (cC_E0 hk) rfl 2 (by decide) hlink rfl rfl hdg kk
theorem pC_0_2 {v : Int32} (hx : p.tables.exec = Jvm.exec) (hb : c.code = cc) (hts : ∀ w ∈ Ts, w.before args s = true) (hin : ∀ w ∈ wsX00, w ∈ Ts) (hown : s.vm.findClass own = some m.cls) (hK : va_K Γ.1 vwCl (ft_ty Γ) s) (hI : cC_I Γ) (hP : cC_P Γ s σ H locs) (hk : cC_K k = 0) (hlink : (Cond.fieldLink own index "FaultTwins$History" "count" "I").before args s = true) (hdg : decode cc pc = .ok (.putfield index, 3)) (kk : ∀ (H1 : Heap) (locs1 : List Loc), cC_P Γ s (ft_sF σ k 2 v) H1 locs1 → W p l e R s m args below meth c H1 locs1 cells slots Q (F0 m (pc + 3) ls rest)) : W p l e R s m args below meth c H locs cells slots Q (F0 m pc ls (.int v :: .ref (Γ.2.2 k) :: rest)) := ft_put (ty := .int) hx hb hts hin tyX0 tyX0_ok nmX0 hown hK hI hP.1 hP.2 (cC_lt hk (by decide)) (cC_E0 hk) rfl 2 (by decide) hlink rfl rfl (by decide +kernel) rfl rfl (Nat.le_of_ble_eq_true rfl) ((cC_E0 hk).trans (by simp [ft_sF])) (cC_E_sF Γ σ k 2 v) hdg (fun H1 locs1 a b => kk H1 locs1 ⟨a, b⟩)
theorem gC_1_0 (hx : p.tables.exec = Jvm.exec) (hb : c.code = cc) (hts : ∀ w ∈ Ts, w.before args s = true) (hin : ∀ w ∈ wsX10, w ∈ Ts) (hown : s.vm.findClass own = some m.cls) (hK : va_K Γ.1 vwCl (ft_ty Γ) s) (hP : cC_P Γ s σ H locs) (hk : cC_K k = 1) (hlink : (Cond.fieldLink own index "FaultTwins$Machine" "from" "[I").before args s = true) (hdg : decode cc pc = .ok (.getfield index, 3)) (kk : W p l e R s m args below meth c H locs cells slots Q (F0 m (pc + 3) ls (.ref (Γ.2.2 (k + 1)) :: rest))) : W p l e R s m args below meth c H locs cells slots Q (F0 m pc ls (.ref (Γ.2.2 k) :: rest)) := ft_get hx hb hts hin hown hK hP.1 (cC_lt hk (by decide)) (cC_E1 hk) rfl 0 (by decide) hlink rfl rfl hdg kk
theorem gC_1_1 (hx : p.tables.exec = Jvm.exec) (hb : c.code = cc) (hts : ∀ w ∈ Ts, w.before args s = true) (hin : ∀ w ∈ wsX10, w ∈ Ts) (hown : s.vm.findClass own = some m.cls) (hK : va_K Γ.1 vwCl (ft_ty Γ) s) (hP : cC_P Γ s σ H locs) (hk : cC_K k = 1) (hlink : (Cond.fieldLink own index "FaultTwins$Machine" "by" "[I").before args s = true) (hdg : decode cc pc = .ok (.getfield index, 3)) (kk : W p l e R s m args below meth c H locs cells slots Q (F0 m (pc + 3) ls (.ref (Γ.2.2 (k + 2)) :: rest))) : W p l e R s m args below meth c H locs cells slots Q (F0 m pc ls (.ref (Γ.2.2 k) :: rest)) := ft_get hx hb hts hin hown hK hP.1 (cC_lt hk (by decide)) (cC_E1 hk) rfl 1 (by decide) hlink rfl rfl hdg kk
theorem gC_1_2 (hx : p.tables.exec = Jvm.exec) (hb : c.code = cc) (hts : ∀ w ∈ Ts, w.before args s = true) (hin : ∀ w ∈ wsX10, w ∈ Ts) (hown : s.vm.findClass own = some m.cls) (hK : va_K Γ.1 vwCl (ft_ty Γ) s) (hP : cC_P Γ s σ H locs) (hk : cC_K k = 1) (hlink : (Cond.fieldLink own index "FaultTwins$Machine" "to" "[I").before args s = true) (hdg : decode cc pc = .ok (.getfield index, 3)) (kk : W p l e R s m args below meth c H locs cells slots Q (F0 m (pc + 3) ls (.ref (Γ.2.2 (k + 3)) :: rest))) : W p l e R s m args below meth c H locs cells slots Q (F0 m pc ls (.ref (Γ.2.2 k) :: rest)) := ft_get hx hb hts hin hown hK hP.1 (cC_lt hk (by decide)) (cC_E1 hk) rfl 2 (by decide) hlink rfl rfl hdg kk
theorem gC_1_3 (hx : p.tables.exec = Jvm.exec) (hb : c.code = cc) (hts : ∀ w ∈ Ts, w.before args s = true) (hin : ∀ w ∈ wsX10, w ∈ Ts) (hown : s.vm.findClass own = some m.cls) (hK : va_K Γ.1 vwCl (ft_ty Γ) s) (hP : cC_P Γ s σ H locs) (hk : cC_K k = 1) (hlink : (Cond.fieldLink own index "FaultTwins$Machine" "ways" "I").before args s = true) (hdg : decode cc pc = .ok (.getfield index, 3)) (kk : W p l e R s m args below meth c H locs cells slots Q (F0 m (pc + 3) ls (.int (σ.1 k 3) :: rest))) : W p l e R s m args below meth c H locs cells slots Q (F0 m pc ls (.ref (Γ.2.2 k) :: rest)) := ft_get hx hb hts hin hown hK hP.1 (cC_lt hk (by decide)) (cC_E1 hk) rfl 3 (by decide) hlink rfl rfl hdg kk
theorem pC_1_3 {v : Int32} (hx : p.tables.exec = Jvm.exec) (hb : c.code = cc) (hts : ∀ w ∈ Ts, w.before args s = true) (hin : ∀ w ∈ wsX10, w ∈ Ts) (hown : s.vm.findClass own = some m.cls) (hK : va_K Γ.1 vwCl (ft_ty Γ) s) (hI : cC_I Γ) (hP : cC_P Γ s σ H locs) (hk : cC_K k = 1) (hlink : (Cond.fieldLink own index "FaultTwins$Machine" "ways" "I").before args s = true) (hdg : decode cc pc = .ok (.putfield index, 3)) (kk : ∀ (H1 : Heap) (locs1 : List Loc), cC_P Γ s (ft_sF σ k 3 v) H1 locs1 → W p l e R s m args below meth c H1 locs1 cells slots Q (F0 m (pc + 3) ls rest)) : W p l e R s m args below meth c H locs cells slots Q (F0 m pc ls (.int v :: .ref (Γ.2.2 k) :: rest)) := ft_put (ty := .int) hx hb hts hin tyX1 tyX1_ok nmX1 hown hK hI hP.1 hP.2 (cC_lt hk (by decide)) (cC_E1 hk) rfl 3 (by decide) hlink rfl rfl (by decide +kernel) rfl rfl (Nat.le_of_ble_eq_true rfl) ((cC_E1 hk).trans (by simp [ft_sF])) (cC_E_sF Γ σ k 3 v) hdg (fun H1 locs1 a b => kk H1 locs1 ⟨a, b⟩)
theorem gC_1_4 (hx : p.tables.exec = Jvm.exec) (hb : c.code = cc) (hts : ∀ w ∈ Ts, w.before args s = true) (hin : ∀ w ∈ wsX10, w ∈ Ts) (hown : s.vm.findClass own = some m.cls) (hK : va_K Γ.1 vwCl (ft_ty Γ) s) (hP : cC_P Γ s σ H locs) (hk : cC_K k = 1) (hlink : (Cond.fieldLink own index "FaultTwins$Machine" "seen" "I").before args s = true) (hdg : decode cc pc = .ok (.getfield index, 3)) (kk : W p l e R s m args below meth c H locs cells slots Q (F0 m (pc + 3) ls (.int (σ.1 k 4) :: rest))) : W p l e R s m args below meth c H locs cells slots Q (F0 m pc ls (.ref (Γ.2.2 k) :: rest)) := ft_get hx hb hts hin hown hK hP.1 (cC_lt hk (by decide)) (cC_E1 hk) rfl 4 (by decide) hlink rfl rfl hdg kk
theorem pC_1_4 {v : Int32} (hx : p.tables.exec = Jvm.exec) (hb : c.code = cc) (hts : ∀ w ∈ Ts, w.before args s = true) (hin : ∀ w ∈ wsX10, w ∈ Ts) (hown : s.vm.findClass own = some m.cls) (hK : va_K Γ.1 vwCl (ft_ty Γ) s) (hI : cC_I Γ) (hP : cC_P Γ s σ H locs) (hk : cC_K k = 1) (hlink : (Cond.fieldLink own index "FaultTwins$Machine" "seen" "I").before args s = true) (hdg : decode cc pc = .ok (.putfield index, 3)) (kk : ∀ (H1 : Heap) (locs1 : List Loc), cC_P Γ s (ft_sF σ k 4 v) H1 locs1 → W p l e R s m args below meth c H1 locs1 cells slots Q (F0 m (pc + 3) ls rest)) : W p l e R s m args below meth c H locs cells slots Q (F0 m pc ls (.int v :: .ref (Γ.2.2 k) :: rest)) := ft_put (ty := .int) hx hb hts hin tyX1 tyX1_ok nmX1 hown hK hI hP.1 hP.2 (cC_lt hk (by decide)) (cC_E1 hk) rfl 4 (by decide) hlink rfl rfl (by decide +kernel) rfl rfl (Nat.le_of_ble_eq_true rfl) ((cC_E1 hk).trans (by simp [ft_sF])) (cC_E_sF Γ σ k 4 v) hdg (fun H1 locs1 a b => kk H1 locs1 ⟨a, b⟩)
theorem gC_1_5 (hx : p.tables.exec = Jvm.exec) (hb : c.code = cc) (hts : ∀ w ∈ Ts, w.before args s = true) (hin : ∀ w ∈ wsX10, w ∈ Ts) (hown : s.vm.findClass own = some m.cls) (hK : va_K Γ.1 vwCl (ft_ty Γ) s) (hP : cC_P Γ s σ H locs) (hk : cC_K k = 1) (hlink : (Cond.fieldLink own index "FaultTwins$Machine" "faults" "I").before args s = true) (hdg : decode cc pc = .ok (.getfield index, 3)) (kk : W p l e R s m args below meth c H locs cells slots Q (F0 m (pc + 3) ls (.int (σ.1 k 5) :: rest))) : W p l e R s m args below meth c H locs cells slots Q (F0 m pc ls (.ref (Γ.2.2 k) :: rest)) := ft_get hx hb hts hin hown hK hP.1 (cC_lt hk (by decide)) (cC_E1 hk) rfl 5 (by decide) hlink rfl rfl hdg kk
theorem pC_1_5 {v : Int32} (hx : p.tables.exec = Jvm.exec) (hb : c.code = cc) (hts : ∀ w ∈ Ts, w.before args s = true) (hin : ∀ w ∈ wsX10, w ∈ Ts) (hown : s.vm.findClass own = some m.cls) (hK : va_K Γ.1 vwCl (ft_ty Γ) s) (hI : cC_I Γ) (hP : cC_P Γ s σ H locs) (hk : cC_K k = 1) (hlink : (Cond.fieldLink own index "FaultTwins$Machine" "faults" "I").before args s = true) (hdg : decode cc pc = .ok (.putfield index, 3)) (kk : ∀ (H1 : Heap) (locs1 : List Loc), cC_P Γ s (ft_sF σ k 5 v) H1 locs1 → W p l e R s m args below meth c H1 locs1 cells slots Q (F0 m (pc + 3) ls rest)) : W p l e R s m args below meth c H locs cells slots Q (F0 m pc ls (.int v :: .ref (Γ.2.2 k) :: rest)) := ft_put (ty := .int) hx hb hts hin tyX1 tyX1_ok nmX1 hown hK hI hP.1 hP.2 (cC_lt hk (by decide)) (cC_E1 hk) rfl 5 (by decide) hlink rfl rfl (by decide +kernel) rfl rfl (Nat.le_of_ble_eq_true rfl) ((cC_E1 hk).trans (by simp [ft_sF])) (cC_E_sF Γ σ k 5 v) hdg (fun H1 locs1 a b => kk H1 locs1 ⟨a, b⟩)
theorem gC_2_0 (hx : p.tables.exec = Jvm.exec) (hb : c.code = cc) (hts : ∀ w ∈ Ts, w.before args s = true) (hin : ∀ w ∈ wsX20, w ∈ Ts) (hown : s.vm.findClass own = some m.cls) (hK : va_K Γ.1 vwCl (ft_ty Γ) s) (hP : cC_P Γ s σ H locs) (hk : cC_K k = 2) (hlink : (Cond.fieldLink own index "FaultTwins$Reader" "draft" "LFaultTwins$Machine;").before args s = true) (hdg : decode cc pc = .ok (.getfield index, 3)) (kk : W p l e R s m args below meth c H locs cells slots Q (F0 m (pc + 3) ls (.ref (Γ.2.2 (k + 1)) :: rest))) : W p l e R s m args below meth c H locs cells slots Q (F0 m pc ls (.ref (Γ.2.2 k) :: rest)) := ft_get hx hb hts hin hown hK hP.1 (cC_lt hk (by decide)) (cC_E2 hk) rfl 0 (by decide) hlink rfl rfl hdg kk
theorem gC_2_1 (hx : p.tables.exec = Jvm.exec) (hb : c.code = cc) (hts : ∀ w ∈ Ts, w.before args s = true) (hin : ∀ w ∈ wsX20, w ∈ Ts) (hown : s.vm.findClass own = some m.cls) (hK : va_K Γ.1 vwCl (ft_ty Γ) s) (hP : cC_P Γ s σ H locs) (hk : cC_K k = 2) (hlink : (Cond.fieldLink own index "FaultTwins$Reader" "stage" "I").before args s = true) (hdg : decode cc pc = .ok (.getfield index, 3)) (kk : W p l e R s m args below meth c H locs cells slots Q (F0 m (pc + 3) ls (.int (σ.1 k 1) :: rest))) : W p l e R s m args below meth c H locs cells slots Q (F0 m pc ls (.ref (Γ.2.2 k) :: rest)) := ft_get hx hb hts hin hown hK hP.1 (cC_lt hk (by decide)) (cC_E2 hk) rfl 1 (by decide) hlink rfl rfl hdg kk
theorem pC_2_1 {v : Int32} (hx : p.tables.exec = Jvm.exec) (hb : c.code = cc) (hts : ∀ w ∈ Ts, w.before args s = true) (hin : ∀ w ∈ wsX20, w ∈ Ts) (hown : s.vm.findClass own = some m.cls) (hK : va_K Γ.1 vwCl (ft_ty Γ) s) (hI : cC_I Γ) (hP : cC_P Γ s σ H locs) (hk : cC_K k = 2) (hlink : (Cond.fieldLink own index "FaultTwins$Reader" "stage" "I").before args s = true) (hdg : decode cc pc = .ok (.putfield index, 3)) (kk : ∀ (H1 : Heap) (locs1 : List Loc), cC_P Γ s (ft_sF σ k 1 v) H1 locs1 → W p l e R s m args below meth c H1 locs1 cells slots Q (F0 m (pc + 3) ls rest)) : W p l e R s m args below meth c H locs cells slots Q (F0 m pc ls (.int v :: .ref (Γ.2.2 k) :: rest)) := ft_put (ty := .int) hx hb hts hin tyX2 tyX2_ok nmX2 hown hK hI hP.1 hP.2 (cC_lt hk (by decide)) (cC_E2 hk) rfl 1 (by decide) hlink rfl rfl (by decide +kernel) rfl rfl (Nat.le_of_ble_eq_true rfl) ((cC_E2 hk).trans (by simp [ft_sF])) (cC_E_sF Γ σ k 1 v) hdg (fun H1 locs1 a b => kk H1 locs1 ⟨a, b⟩)
theorem gC_2_2 (hx : p.tables.exec = Jvm.exec) (hb : c.code = cc) (hts : ∀ w ∈ Ts, w.before args s = true) (hin : ∀ w ∈ wsX20, w ∈ Ts) (hown : s.vm.findClass own = some m.cls) (hK : va_K Γ.1 vwCl (ft_ty Γ) s) (hP : cC_P Γ s σ H locs) (hk : cC_K k = 2) (hlink : (Cond.fieldLink own index "FaultTwins$Reader" "orders" "I").before args s = true) (hdg : decode cc pc = .ok (.getfield index, 3)) (kk : W p l e R s m args below meth c H locs cells slots Q (F0 m (pc + 3) ls (.int (σ.1 k 2) :: rest))) : W p l e R s m args below meth c H locs cells slots Q (F0 m pc ls (.ref (Γ.2.2 k) :: rest)) := ft_get hx hb hts hin hown hK hP.1 (cC_lt hk (by decide)) (cC_E2 hk) rfl 2 (by decide) hlink rfl rfl hdg kk
theorem pC_2_2 {v : Int32} (hx : p.tables.exec = Jvm.exec) (hb : c.code = cc) (hts : ∀ w ∈ Ts, w.before args s = true) (hin : ∀ w ∈ wsX20, w ∈ Ts) (hown : s.vm.findClass own = some m.cls) (hK : va_K Γ.1 vwCl (ft_ty Γ) s) (hI : cC_I Γ) (hP : cC_P Γ s σ H locs) (hk : cC_K k = 2) (hlink : (Cond.fieldLink own index "FaultTwins$Reader" "orders" "I").before args s = true) (hdg : decode cc pc = .ok (.putfield index, 3)) (kk : ∀ (H1 : Heap) (locs1 : List Loc), cC_P Γ s (ft_sF σ k 2 v) H1 locs1 → W p l e R s m args below meth c H1 locs1 cells slots Q (F0 m (pc + 3) ls rest)) : W p l e R s m args below meth c H locs cells slots Q (F0 m pc ls (.int v :: .ref (Γ.2.2 k) :: rest)) := ft_put (ty := .int) hx hb hts hin tyX2 tyX2_ok nmX2 hown hK hI hP.1 hP.2 (cC_lt hk (by decide)) (cC_E2 hk) rfl 2 (by decide) hlink rfl rfl (by decide +kernel) rfl rfl (Nat.le_of_ble_eq_true rfl) ((cC_E2 hk).trans (by simp [ft_sF])) (cC_E_sF Γ σ k 2 v) hdg (fun H1 locs1 a b => kk H1 locs1 ⟨a, b⟩)
theorem gC_2_3 (hx : p.tables.exec = Jvm.exec) (hb : c.code = cc) (hts : ∀ w ∈ Ts, w.before args s = true) (hin : ∀ w ∈ wsX20, w ∈ Ts) (hown : s.vm.findClass own = some m.cls) (hK : va_K Γ.1 vwCl (ft_ty Γ) s) (hP : cC_P Γ s σ H locs) (hk : cC_K k = 2) (hlink : (Cond.fieldLink own index "FaultTwins$Reader" "wayPlace" "I").before args s = true) (hdg : decode cc pc = .ok (.getfield index, 3)) (kk : W p l e R s m args below meth c H locs cells slots Q (F0 m (pc + 3) ls (.int (σ.1 k 3) :: rest))) : W p l e R s m args below meth c H locs cells slots Q (F0 m pc ls (.ref (Γ.2.2 k) :: rest)) := ft_get hx hb hts hin hown hK hP.1 (cC_lt hk (by decide)) (cC_E2 hk) rfl 3 (by decide) hlink rfl rfl hdg kk
theorem pC_2_3 {v : Int32} (hx : p.tables.exec = Jvm.exec) (hb : c.code = cc) (hts : ∀ w ∈ Ts, w.before args s = true) (hin : ∀ w ∈ wsX20, w ∈ Ts) (hown : s.vm.findClass own = some m.cls) (hK : va_K Γ.1 vwCl (ft_ty Γ) s) (hI : cC_I Γ) (hP : cC_P Γ s σ H locs) (hk : cC_K k = 2) (hlink : (Cond.fieldLink own index "FaultTwins$Reader" "wayPlace" "I").before args s = true) (hdg : decode cc pc = .ok (.putfield index, 3)) (kk : ∀ (H1 : Heap) (locs1 : List Loc), cC_P Γ s (ft_sF σ k 3 v) H1 locs1 → W p l e R s m args below meth c H1 locs1 cells slots Q (F0 m (pc + 3) ls rest)) : W p l e R s m args below meth c H locs cells slots Q (F0 m pc ls (.int v :: .ref (Γ.2.2 k) :: rest)) := ft_put (ty := .int) hx hb hts hin tyX2 tyX2_ok nmX2 hown hK hI hP.1 hP.2 (cC_lt hk (by decide)) (cC_E2 hk) rfl 3 (by decide) hlink rfl rfl (by decide +kernel) rfl rfl (Nat.le_of_ble_eq_true rfl) ((cC_E2 hk).trans (by simp [ft_sF])) (cC_E_sF Γ σ k 3 v) hdg (fun H1 locs1 a b => kk H1 locs1 ⟨a, b⟩)
theorem gC_2_4 (hx : p.tables.exec = Jvm.exec) (hb : c.code = cc) (hts : ∀ w ∈ Ts, w.before args s = true) (hin : ∀ w ∈ wsX20, w ∈ Ts) (hown : s.vm.findClass own = some m.cls) (hK : va_K Γ.1 vwCl (ft_ty Γ) s) (hP : cC_P Γ s σ H locs) (hk : cC_K k = 2) (hlink : (Cond.fieldLink own index "FaultTwins$Reader" "wayFrom" "I").before args s = true) (hdg : decode cc pc = .ok (.getfield index, 3)) (kk : W p l e R s m args below meth c H locs cells slots Q (F0 m (pc + 3) ls (.int (σ.1 k 4) :: rest))) : W p l e R s m args below meth c H locs cells slots Q (F0 m pc ls (.ref (Γ.2.2 k) :: rest)) := ft_get hx hb hts hin hown hK hP.1 (cC_lt hk (by decide)) (cC_E2 hk) rfl 4 (by decide) hlink rfl rfl hdg kk
theorem pC_2_4 {v : Int32} (hx : p.tables.exec = Jvm.exec) (hb : c.code = cc) (hts : ∀ w ∈ Ts, w.before args s = true) (hin : ∀ w ∈ wsX20, w ∈ Ts) (hown : s.vm.findClass own = some m.cls) (hK : va_K Γ.1 vwCl (ft_ty Γ) s) (hI : cC_I Γ) (hP : cC_P Γ s σ H locs) (hk : cC_K k = 2) (hlink : (Cond.fieldLink own index "FaultTwins$Reader" "wayFrom" "I").before args s = true) (hdg : decode cc pc = .ok (.putfield index, 3)) (kk : ∀ (H1 : Heap) (locs1 : List Loc), cC_P Γ s (ft_sF σ k 4 v) H1 locs1 → W p l e R s m args below meth c H1 locs1 cells slots Q (F0 m (pc + 3) ls rest)) : W p l e R s m args below meth c H locs cells slots Q (F0 m pc ls (.int v :: .ref (Γ.2.2 k) :: rest)) := ft_put (ty := .int) hx hb hts hin tyX2 tyX2_ok nmX2 hown hK hI hP.1 hP.2 (cC_lt hk (by decide)) (cC_E2 hk) rfl 4 (by decide) hlink rfl rfl (by decide +kernel) rfl rfl (Nat.le_of_ble_eq_true rfl) ((cC_E2 hk).trans (by simp [ft_sF])) (cC_E_sF Γ σ k 4 v) hdg (fun H1 locs1 a b => kk H1 locs1 ⟨a, b⟩)
theorem gC_2_5 (hx : p.tables.exec = Jvm.exec) (hb : c.code = cc) (hts : ∀ w ∈ Ts, w.before args s = true) (hin : ∀ w ∈ wsX20, w ∈ Ts) (hown : s.vm.findClass own = some m.cls) (hK : va_K Γ.1 vwCl (ft_ty Γ) s) (hP : cC_P Γ s σ H locs) (hk : cC_K k = 2) (hlink : (Cond.fieldLink own index "FaultTwins$Reader" "wayDeed" "I").before args s = true) (hdg : decode cc pc = .ok (.getfield index, 3)) (kk : W p l e R s m args below meth c H locs cells slots Q (F0 m (pc + 3) ls (.int (σ.1 k 5) :: rest))) : W p l e R s m args below meth c H locs cells slots Q (F0 m pc ls (.ref (Γ.2.2 k) :: rest)) := ft_get hx hb hts hin hown hK hP.1 (cC_lt hk (by decide)) (cC_E2 hk) rfl 5 (by decide) hlink rfl rfl hdg kk
theorem pC_2_5 {v : Int32} (hx : p.tables.exec = Jvm.exec) (hb : c.code = cc) (hts : ∀ w ∈ Ts, w.before args s = true) (hin : ∀ w ∈ wsX20, w ∈ Ts) (hown : s.vm.findClass own = some m.cls) (hK : va_K Γ.1 vwCl (ft_ty Γ) s) (hI : cC_I Γ) (hP : cC_P Γ s σ H locs) (hk : cC_K k = 2) (hlink : (Cond.fieldLink own index "FaultTwins$Reader" "wayDeed" "I").before args s = true) (hdg : decode cc pc = .ok (.putfield index, 3)) (kk : ∀ (H1 : Heap) (locs1 : List Loc), cC_P Γ s (ft_sF σ k 5 v) H1 locs1 → W p l e R s m args below meth c H1 locs1 cells slots Q (F0 m (pc + 3) ls rest)) : W p l e R s m args below meth c H locs cells slots Q (F0 m pc ls (.int v :: .ref (Γ.2.2 k) :: rest)) := ft_put (ty := .int) hx hb hts hin tyX2 tyX2_ok nmX2 hown hK hI hP.1 hP.2 (cC_lt hk (by decide)) (cC_E2 hk) rfl 5 (by decide) hlink rfl rfl (by decide +kernel) rfl rfl (Nat.le_of_ble_eq_true rfl) ((cC_E2 hk).trans (by simp [ft_sF])) (cC_E_sF Γ σ k 5 v) hdg (fun H1 locs1 a b => kk H1 locs1 ⟨a, b⟩)
theorem gC_2_6 (hx : p.tables.exec = Jvm.exec) (hb : c.code = cc) (hts : ∀ w ∈ Ts, w.before args s = true) (hin : ∀ w ∈ wsX20, w ∈ Ts) (hown : s.vm.findClass own = some m.cls) (hK : va_K Γ.1 vwCl (ft_ty Γ) s) (hP : cC_P Γ s σ H locs) (hk : cC_K k = 2) (hlink : (Cond.fieldLink own index "FaultTwins$Reader" "letters" "I").before args s = true) (hdg : decode cc pc = .ok (.getfield index, 3)) (kk : W p l e R s m args below meth c H locs cells slots Q (F0 m (pc + 3) ls (.int (σ.1 k 6) :: rest))) : W p l e R s m args below meth c H locs cells slots Q (F0 m pc ls (.ref (Γ.2.2 k) :: rest)) := ft_get hx hb hts hin hown hK hP.1 (cC_lt hk (by decide)) (cC_E2 hk) rfl 6 (by decide) hlink rfl rfl hdg kk
theorem pC_2_6 {v : Int32} (hx : p.tables.exec = Jvm.exec) (hb : c.code = cc) (hts : ∀ w ∈ Ts, w.before args s = true) (hin : ∀ w ∈ wsX20, w ∈ Ts) (hown : s.vm.findClass own = some m.cls) (hK : va_K Γ.1 vwCl (ft_ty Γ) s) (hI : cC_I Γ) (hP : cC_P Γ s σ H locs) (hk : cC_K k = 2) (hlink : (Cond.fieldLink own index "FaultTwins$Reader" "letters" "I").before args s = true) (hdg : decode cc pc = .ok (.putfield index, 3)) (kk : ∀ (H1 : Heap) (locs1 : List Loc), cC_P Γ s (ft_sF σ k 6 v) H1 locs1 → W p l e R s m args below meth c H1 locs1 cells slots Q (F0 m (pc + 3) ls rest)) : W p l e R s m args below meth c H locs cells slots Q (F0 m pc ls (.int v :: .ref (Γ.2.2 k) :: rest)) := ft_put (ty := .int) hx hb hts hin tyX2 tyX2_ok nmX2 hown hK hI hP.1 hP.2 (cC_lt hk (by decide)) (cC_E2 hk) rfl 6 (by decide) hlink rfl rfl (by decide +kernel) rfl rfl (Nat.le_of_ble_eq_true rfl) ((cC_E2 hk).trans (by simp [ft_sF])) (cC_E_sF Γ σ k 6 v) hdg (fun H1 locs1 a b => kk H1 locs1 ⟨a, b⟩)
theorem gC_3_0 (hx : p.tables.exec = Jvm.exec) (hb : c.code = cc) (hts : ∀ w ∈ Ts, w.before args s = true) (hin : ∀ w ∈ wsX30, w ∈ Ts) (hown : s.vm.findClass own = some m.cls) (hK : va_K Γ.1 vwCl (ft_ty Γ) s) (hP : cC_P Γ s σ H locs) (hk : cC_K k = 3) (hlink : (Cond.fieldLink own index "FaultTwins$Sets" "found" "[I").before args s = true) (hdg : decode cc pc = .ok (.getfield index, 3)) (kk : W p l e R s m args below meth c H locs cells slots Q (F0 m (pc + 3) ls (.ref (Γ.2.2 (k + 1)) :: rest))) : W p l e R s m args below meth c H locs cells slots Q (F0 m pc ls (.ref (Γ.2.2 k) :: rest)) := ft_get hx hb hts hin hown hK hP.1 (cC_lt hk (by decide)) (cC_E3 hk) rfl 0 (by decide) hlink rfl rfl hdg kk
theorem gC_3_1 (hx : p.tables.exec = Jvm.exec) (hb : c.code = cc) (hts : ∀ w ∈ Ts, w.before args s = true) (hin : ∀ w ∈ wsX30, w ∈ Ts) (hown : s.vm.findClass own = some m.cls) (hK : va_K Γ.1 vwCl (ft_ty Γ) s) (hP : cC_P Γ s σ H locs) (hk : cC_K k = 3) (hlink : (Cond.fieldLink own index "FaultTwins$Sets" "sights" "[I").before args s = true) (hdg : decode cc pc = .ok (.getfield index, 3)) (kk : W p l e R s m args below meth c H locs cells slots Q (F0 m (pc + 3) ls (.ref (Γ.2.2 (k + 2)) :: rest))) : W p l e R s m args below meth c H locs cells slots Q (F0 m pc ls (.ref (Γ.2.2 k) :: rest)) := ft_get hx hb hts hin hown hK hP.1 (cC_lt hk (by decide)) (cC_E3 hk) rfl 1 (by decide) hlink rfl rfl hdg kk
theorem gC_3_2 (hx : p.tables.exec = Jvm.exec) (hb : c.code = cc) (hts : ∀ w ∈ Ts, w.before args s = true) (hin : ∀ w ∈ wsX30, w ∈ Ts) (hown : s.vm.findClass own = some m.cls) (hK : va_K Γ.1 vwCl (ft_ty Γ) s) (hP : cC_P Γ s σ H locs) (hk : cC_K k = 3) (hlink : (Cond.fieldLink own index "FaultTwins$Sets" "slots" "[I").before args s = true) (hdg : decode cc pc = .ok (.getfield index, 3)) (kk : W p l e R s m args below meth c H locs cells slots Q (F0 m (pc + 3) ls (.ref (Γ.2.2 (k + 3)) :: rest))) : W p l e R s m args below meth c H locs cells slots Q (F0 m pc ls (.ref (Γ.2.2 k) :: rest)) := ft_get hx hb hts hin hown hK hP.1 (cC_lt hk (by decide)) (cC_E3 hk) rfl 2 (by decide) hlink rfl rfl hdg kk
theorem gC_3_3 (hx : p.tables.exec = Jvm.exec) (hb : c.code = cc) (hts : ∀ w ∈ Ts, w.before args s = true) (hin : ∀ w ∈ wsX30, w ∈ Ts) (hown : s.vm.findClass own = some m.cls) (hK : va_K Γ.1 vwCl (ft_ty Γ) s) (hP : cC_P Γ s σ H locs) (hk : cC_K k = 3) (hlink : (Cond.fieldLink own index "FaultTwins$Sets" "count" "I").before args s = true) (hdg : decode cc pc = .ok (.getfield index, 3)) (kk : W p l e R s m args below meth c H locs cells slots Q (F0 m (pc + 3) ls (.int (σ.1 k 3) :: rest))) : W p l e R s m args below meth c H locs cells slots Q (F0 m pc ls (.ref (Γ.2.2 k) :: rest)) := ft_get hx hb hts hin hown hK hP.1 (cC_lt hk (by decide)) (cC_E3 hk) rfl 3 (by decide) hlink rfl rfl hdg kk
theorem pC_3_3 {v : Int32} (hx : p.tables.exec = Jvm.exec) (hb : c.code = cc) (hts : ∀ w ∈ Ts, w.before args s = true) (hin : ∀ w ∈ wsX30, w ∈ Ts) (hown : s.vm.findClass own = some m.cls) (hK : va_K Γ.1 vwCl (ft_ty Γ) s) (hI : cC_I Γ) (hP : cC_P Γ s σ H locs) (hk : cC_K k = 3) (hlink : (Cond.fieldLink own index "FaultTwins$Sets" "count" "I").before args s = true) (hdg : decode cc pc = .ok (.putfield index, 3)) (kk : ∀ (H1 : Heap) (locs1 : List Loc), cC_P Γ s (ft_sF σ k 3 v) H1 locs1 → W p l e R s m args below meth c H1 locs1 cells slots Q (F0 m (pc + 3) ls rest)) : W p l e R s m args below meth c H locs cells slots Q (F0 m pc ls (.int v :: .ref (Γ.2.2 k) :: rest)) := ft_put (ty := .int) hx hb hts hin tyX3 tyX3_ok nmX3 hown hK hI hP.1 hP.2 (cC_lt hk (by decide)) (cC_E3 hk) rfl 3 (by decide) hlink rfl rfl (by decide +kernel) rfl rfl (Nat.le_of_ble_eq_true rfl) ((cC_E3 hk).trans (by simp [ft_sF])) (cC_E_sF Γ σ k 3 v) hdg (fun H1 locs1 a b => kk H1 locs1 ⟨a, b⟩)
theorem gC_4_0 (hx : p.tables.exec = Jvm.exec) (hb : c.code = cc) (hts : ∀ w ∈ Ts, w.before args s = true) (hin : ∀ w ∈ wsX40, w ∈ Ts) (hown : s.vm.findClass own = some m.cls) (hK : va_K Γ.1 vwCl (ft_ty Γ) s) (hP : cC_P Γ s σ H locs) (hk : cC_K k = 4) (hlink : (Cond.fieldLink own index "FaultTwins$State" "machine" "LFaultTwins$Machine;").before args s = true) (hdg : decode cc pc = .ok (.getfield index, 3)) (kk : W p l e R s m args below meth c H locs cells slots Q (F0 m (pc + 3) ls (.ref (Γ.2.2 (k + 1)) :: rest))) : W p l e R s m args below meth c H locs cells slots Q (F0 m pc ls (.ref (Γ.2.2 k) :: rest)) := ft_get hx hb hts hin hown hK hP.1 (cC_lt hk (by decide)) (cC_E4 hk) rfl 0 (by decide) hlink rfl rfl hdg kk
theorem gC_4_1 (hx : p.tables.exec = Jvm.exec) (hb : c.code = cc) (hts : ∀ w ∈ Ts, w.before args s = true) (hin : ∀ w ∈ wsX40, w ∈ Ts) (hown : s.vm.findClass own = some m.cls) (hK : va_K Γ.1 vwCl (ft_ty Γ) s) (hP : cC_P Γ s σ H locs) (hk : cC_K k = 4) (hlink : (Cond.fieldLink own index "FaultTwins$State" "watch" "LFaultTwins$Watch;").before args s = true) (hdg : decode cc pc = .ok (.getfield index, 3)) (kk : W p l e R s m args below meth c H locs cells slots Q (F0 m (pc + 3) ls (.ref (Γ.2.2 (k + 5)) :: rest))) : W p l e R s m args below meth c H locs cells slots Q (F0 m pc ls (.ref (Γ.2.2 k) :: rest)) := ft_get hx hb hts hin hown hK hP.1 (cC_lt hk (by decide)) (cC_E4 hk) rfl 1 (by decide) hlink rfl rfl hdg kk
theorem gC_5_0 (hx : p.tables.exec = Jvm.exec) (hb : c.code = cc) (hts : ∀ w ∈ Ts, w.before args s = true) (hin : ∀ w ∈ wsX50, w ∈ Ts) (hown : s.vm.findClass own = some m.cls) (hK : va_K Γ.1 vwCl (ft_ty Γ) s) (hP : cC_P Γ s σ H locs) (hk : cC_K k = 5) (hlink : (Cond.fieldLink own index "FaultTwins$Text" "bytes" "[B").before args s = true) (hdg : decode cc pc = .ok (.getfield index, 3)) (kk : W p l e R s m args below meth c H locs cells slots Q (F0 m (pc + 3) ls (.ref (Γ.2.2 (k + 1)) :: rest))) : W p l e R s m args below meth c H locs cells slots Q (F0 m pc ls (.ref (Γ.2.2 k) :: rest)) := ft_get hx hb hts hin hown hK hP.1 (cC_lt hk (by decide)) (cC_E5 hk) rfl 0 (by decide) hlink rfl rfl hdg kk
theorem gC_5_1 (hx : p.tables.exec = Jvm.exec) (hb : c.code = cc) (hts : ∀ w ∈ Ts, w.before args s = true) (hin : ∀ w ∈ wsX50, w ∈ Ts) (hown : s.vm.findClass own = some m.cls) (hK : va_K Γ.1 vwCl (ft_ty Γ) s) (hP : cC_P Γ s σ H locs) (hk : cC_K k = 5) (hlink : (Cond.fieldLink own index "FaultTwins$Text" "length" "I").before args s = true) (hdg : decode cc pc = .ok (.getfield index, 3)) (kk : W p l e R s m args below meth c H locs cells slots Q (F0 m (pc + 3) ls (.int (σ.1 k 1) :: rest))) : W p l e R s m args below meth c H locs cells slots Q (F0 m pc ls (.ref (Γ.2.2 k) :: rest)) := ft_get hx hb hts hin hown hK hP.1 (cC_lt hk (by decide)) (cC_E5 hk) rfl 1 (by decide) hlink rfl rfl hdg kk
theorem pC_5_1 {v : Int32} (hx : p.tables.exec = Jvm.exec) (hb : c.code = cc) (hts : ∀ w ∈ Ts, w.before args s = true) (hin : ∀ w ∈ wsX50, w ∈ Ts) (hown : s.vm.findClass own = some m.cls) (hK : va_K Γ.1 vwCl (ft_ty Γ) s) (hI : cC_I Γ) (hP : cC_P Γ s σ H locs) (hk : cC_K k = 5) (hlink : (Cond.fieldLink own index "FaultTwins$Text" "length" "I").before args s = true) (hdg : decode cc pc = .ok (.putfield index, 3)) (kk : ∀ (H1 : Heap) (locs1 : List Loc), cC_P Γ s (ft_sF σ k 1 v) H1 locs1 → W p l e R s m args below meth c H1 locs1 cells slots Q (F0 m (pc + 3) ls rest)) : W p l e R s m args below meth c H locs cells slots Q (F0 m pc ls (.int v :: .ref (Γ.2.2 k) :: rest)) := ft_put (ty := .int) hx hb hts hin tyX5 tyX5_ok nmX5 hown hK hI hP.1 hP.2 (cC_lt hk (by decide)) (cC_E5 hk) rfl 1 (by decide) hlink rfl rfl (by decide +kernel) rfl rfl (Nat.le_of_ble_eq_true rfl) ((cC_E5 hk).trans (by simp [ft_sF])) (cC_E_sF Γ σ k 1 v) hdg (fun H1 locs1 a b => kk H1 locs1 ⟨a, b⟩)
theorem gC_6_0 (hx : p.tables.exec = Jvm.exec) (hb : c.code = cc) (hts : ∀ w ∈ Ts, w.before args s = true) (hin : ∀ w ∈ wsX60, w ∈ Ts) (hown : s.vm.findClass own = some m.cls) (hK : va_K Γ.1 vwCl (ft_ty Γ) s) (hP : cC_P Γ s σ H locs) (hk : cC_K k = 6) (hlink : (Cond.fieldLink own index "FaultTwins$Twins" "machine" "LFaultTwins$Machine;").before args s = true) (hdg : decode cc pc = .ok (.getfield index, 3)) (kk : W p l e R s m args below meth c H locs cells slots Q (F0 m (pc + 3) ls (.ref (Γ.2.2 2) :: rest))) : W p l e R s m args below meth c H locs cells slots Q (F0 m pc ls (.ref (Γ.2.2 k) :: rest)) := ft_get hx hb hts hin hown hK hP.1 (cC_lt hk (by decide)) (cC_E6 hk) rfl 0 (by decide) hlink rfl rfl hdg kk
theorem gC_6_1 (hx : p.tables.exec = Jvm.exec) (hb : c.code = cc) (hts : ∀ w ∈ Ts, w.before args s = true) (hin : ∀ w ∈ wsX60, w ∈ Ts) (hown : s.vm.findClass own = some m.cls) (hK : va_K Γ.1 vwCl (ft_ty Γ) s) (hP : cC_P Γ s σ H locs) (hk : cC_K k = 6) (hlink : (Cond.fieldLink own index "FaultTwins$Twins" "seen" "I").before args s = true) (hdg : decode cc pc = .ok (.getfield index, 3)) (kk : W p l e R s m args below meth c H locs cells slots Q (F0 m (pc + 3) ls (.int (σ.1 k 1) :: rest))) : W p l e R s m args below meth c H locs cells slots Q (F0 m pc ls (.ref (Γ.2.2 k) :: rest)) := ft_get hx hb hts hin hown hK hP.1 (cC_lt hk (by decide)) (cC_E6 hk) rfl 1 (by decide) hlink rfl rfl hdg kk
theorem pC_6_1 {v : Int32} (hx : p.tables.exec = Jvm.exec) (hb : c.code = cc) (hts : ∀ w ∈ Ts, w.before args s = true) (hin : ∀ w ∈ wsX60, w ∈ Ts) (hown : s.vm.findClass own = some m.cls) (hK : va_K Γ.1 vwCl (ft_ty Γ) s) (hI : cC_I Γ) (hP : cC_P Γ s σ H locs) (hk : cC_K k = 6) (hlink : (Cond.fieldLink own index "FaultTwins$Twins" "seen" "I").before args s = true) (hdg : decode cc pc = .ok (.putfield index, 3)) (kk : ∀ (H1 : Heap) (locs1 : List Loc), cC_P Γ s (ft_sF σ k 1 v) H1 locs1 → W p l e R s m args below meth c H1 locs1 cells slots Q (F0 m (pc + 3) ls rest)) : W p l e R s m args below meth c H locs cells slots Q (F0 m pc ls (.int v :: .ref (Γ.2.2 k) :: rest)) := ft_put (ty := .int) hx hb hts hin tyX6 tyX6_ok nmX6 hown hK hI hP.1 hP.2 (cC_lt hk (by decide)) (cC_E6 hk) rfl 1 (by decide) hlink rfl rfl (by decide +kernel) rfl rfl (Nat.le_of_ble_eq_true rfl) ((cC_E6 hk).trans (by simp [ft_sF])) (cC_E_sF Γ σ k 1 v) hdg (fun H1 locs1 a b => kk H1 locs1 ⟨a, b⟩)
theorem gC_6_2 (hx : p.tables.exec = Jvm.exec) (hb : c.code = cc) (hts : ∀ w ∈ Ts, w.before args s = true) (hin : ∀ w ∈ wsX60, w ∈ Ts) (hown : s.vm.findClass own = some m.cls) (hK : va_K Γ.1 vwCl (ft_ty Γ) s) (hP : cC_P Γ s σ H locs) (hk : cC_K k = 6) (hlink : (Cond.fieldLink own index "FaultTwins$Twins" "alone" "[I").before args s = true) (hdg : decode cc pc = .ok (.getfield index, 3)) (kk : W p l e R s m args below meth c H locs cells slots Q (F0 m (pc + 3) ls (.ref (Γ.2.2 (k + 1)) :: rest))) : W p l e R s m args below meth c H locs cells slots Q (F0 m pc ls (.ref (Γ.2.2 k) :: rest)) := ft_get hx hb hts hin hown hK hP.1 (cC_lt hk (by decide)) (cC_E6 hk) rfl 2 (by decide) hlink rfl rfl hdg kk
theorem gC_6_3 (hx : p.tables.exec = Jvm.exec) (hb : c.code = cc) (hts : ∀ w ∈ Ts, w.before args s = true) (hin : ∀ w ∈ wsX60, w ∈ Ts) (hown : s.vm.findClass own = some m.cls) (hK : va_K Γ.1 vwCl (ft_ty Γ) s) (hP : cC_P Γ s σ H locs) (hk : cC_K k = 6) (hlink : (Cond.fieldLink own index "FaultTwins$Twins" "along" "[I").before args s = true) (hdg : decode cc pc = .ok (.getfield index, 3)) (kk : W p l e R s m args below meth c H locs cells slots Q (F0 m (pc + 3) ls (.ref (Γ.2.2 (k + 2)) :: rest))) : W p l e R s m args below meth c H locs cells slots Q (F0 m pc ls (.ref (Γ.2.2 k) :: rest)) := ft_get hx hb hts hin hown hK hP.1 (cC_lt hk (by decide)) (cC_E6 hk) rfl 3 (by decide) hlink rfl rfl hdg kk
theorem gC_6_4 (hx : p.tables.exec = Jvm.exec) (hb : c.code = cc) (hts : ∀ w ∈ Ts, w.before args s = true) (hin : ∀ w ∈ wsX60, w ∈ Ts) (hown : s.vm.findClass own = some m.cls) (hK : va_K Γ.1 vwCl (ft_ty Γ) s) (hP : cC_P Γ s σ H locs) (hk : cC_K k = 6) (hlink : (Cond.fieldLink own index "FaultTwins$Twins" "pairs" "[I").before args s = true) (hdg : decode cc pc = .ok (.getfield index, 3)) (kk : W p l e R s m args below meth c H locs cells slots Q (F0 m (pc + 3) ls (.ref (Γ.2.2 (k + 3)) :: rest))) : W p l e R s m args below meth c H locs cells slots Q (F0 m pc ls (.ref (Γ.2.2 k) :: rest)) := ft_get hx hb hts hin hown hK hP.1 (cC_lt hk (by decide)) (cC_E6 hk) rfl 4 (by decide) hlink rfl rfl hdg kk
theorem gC_6_5 (hx : p.tables.exec = Jvm.exec) (hb : c.code = cc) (hts : ∀ w ∈ Ts, w.before args s = true) (hin : ∀ w ∈ wsX60, w ∈ Ts) (hown : s.vm.findClass own = some m.cls) (hK : va_K Γ.1 vwCl (ft_ty Γ) s) (hP : cC_P Γ s σ H locs) (hk : cC_K k = 6) (hlink : (Cond.fieldLink own index "FaultTwins$Twins" "delay" "I").before args s = true) (hdg : decode cc pc = .ok (.getfield index, 3)) (kk : W p l e R s m args below meth c H locs cells slots Q (F0 m (pc + 3) ls (.int (σ.1 k 5) :: rest))) : W p l e R s m args below meth c H locs cells slots Q (F0 m pc ls (.ref (Γ.2.2 k) :: rest)) := ft_get hx hb hts hin hown hK hP.1 (cC_lt hk (by decide)) (cC_E6 hk) rfl 5 (by decide) hlink rfl rfl hdg kk
theorem pC_6_5 {v : Int32} (hx : p.tables.exec = Jvm.exec) (hb : c.code = cc) (hts : ∀ w ∈ Ts, w.before args s = true) (hin : ∀ w ∈ wsX60, w ∈ Ts) (hown : s.vm.findClass own = some m.cls) (hK : va_K Γ.1 vwCl (ft_ty Γ) s) (hI : cC_I Γ) (hP : cC_P Γ s σ H locs) (hk : cC_K k = 6) (hlink : (Cond.fieldLink own index "FaultTwins$Twins" "delay" "I").before args s = true) (hdg : decode cc pc = .ok (.putfield index, 3)) (kk : ∀ (H1 : Heap) (locs1 : List Loc), cC_P Γ s (ft_sF σ k 5 v) H1 locs1 → W p l e R s m args below meth c H1 locs1 cells slots Q (F0 m (pc + 3) ls rest)) : W p l e R s m args below meth c H locs cells slots Q (F0 m pc ls (.int v :: .ref (Γ.2.2 k) :: rest)) := ft_put (ty := .int) hx hb hts hin tyX6 tyX6_ok nmX6 hown hK hI hP.1 hP.2 (cC_lt hk (by decide)) (cC_E6 hk) rfl 5 (by decide) hlink rfl rfl (by decide +kernel) rfl rfl (Nat.le_of_ble_eq_true rfl) ((cC_E6 hk).trans (by simp [ft_sF])) (cC_E_sF Γ σ k 5 v) hdg (fun H1 locs1 a b => kk H1 locs1 ⟨a, b⟩)
theorem gC_6_6 (hx : p.tables.exec = Jvm.exec) (hb : c.code = cc) (hts : ∀ w ∈ Ts, w.before args s = true) (hin : ∀ w ∈ wsX60, w ∈ Ts) (hown : s.vm.findClass own = some m.cls) (hK : va_K Γ.1 vwCl (ft_ty Γ) s) (hP : cC_P Γ s σ H locs) (hk : cC_K k = 6) (hlink : (Cond.fieldLink own index "FaultTwins$Twins" "here" "[I").before args s = true) (hdg : decode cc pc = .ok (.getfield index, 3)) (kk : W p l e R s m args below meth c H locs cells slots Q (F0 m (pc + 3) ls (.ref (Γ.2.2 (k + 4)) :: rest))) : W p l e R s m args below meth c H locs cells slots Q (F0 m pc ls (.ref (Γ.2.2 k) :: rest)) := ft_get hx hb hts hin hown hK hP.1 (cC_lt hk (by decide)) (cC_E6 hk) rfl 6 (by decide) hlink rfl rfl hdg kk
theorem gC_6_7 (hx : p.tables.exec = Jvm.exec) (hb : c.code = cc) (hts : ∀ w ∈ Ts, w.before args s = true) (hin : ∀ w ∈ wsX60, w ∈ Ts) (hown : s.vm.findClass own = some m.cls) (hK : va_K Γ.1 vwCl (ft_ty Γ) s) (hP : cC_P Γ s σ H locs) (hk : cC_K k = 6) (hlink : (Cond.fieldLink own index "FaultTwins$Twins" "ahead" "[I").before args s = true) (hdg : decode cc pc = .ok (.getfield index, 3)) (kk : W p l e R s m args below meth c H locs cells slots Q (F0 m (pc + 3) ls (.ref (Γ.2.2 (k + 5)) :: rest))) : W p l e R s m args below meth c H locs cells slots Q (F0 m pc ls (.ref (Γ.2.2 k) :: rest)) := ft_get hx hb hts hin hown hK hP.1 (cC_lt hk (by decide)) (cC_E6 hk) rfl 7 (by decide) hlink rfl rfl hdg kk
theorem gC_6_8 (hx : p.tables.exec = Jvm.exec) (hb : c.code = cc) (hts : ∀ w ∈ Ts, w.before args s = true) (hin : ∀ w ∈ wsX60, w ∈ Ts) (hown : s.vm.findClass own = some m.cls) (hK : va_K Γ.1 vwCl (ft_ty Γ) s) (hP : cC_P Γ s σ H locs) (hk : cC_K k = 6) (hlink : (Cond.fieldLink own index "FaultTwins$Twins" "gone" "[I").before args s = true) (hdg : decode cc pc = .ok (.getfield index, 3)) (kk : W p l e R s m args below meth c H locs cells slots Q (F0 m (pc + 3) ls (.ref (Γ.2.2 (k + 6)) :: rest))) : W p l e R s m args below meth c H locs cells slots Q (F0 m pc ls (.ref (Γ.2.2 k) :: rest)) := ft_get hx hb hts hin hown hK hP.1 (cC_lt hk (by decide)) (cC_E6 hk) rfl 8 (by decide) hlink rfl rfl hdg kk
theorem gC_7_0 (hx : p.tables.exec = Jvm.exec) (hb : c.code = cc) (hts : ∀ w ∈ Ts, w.before args s = true) (hin : ∀ w ∈ wsX70, w ∈ Ts) (hown : s.vm.findClass own = some m.cls) (hK : va_K Γ.1 vwCl (ft_ty Γ) s) (hP : cC_P Γ s σ H locs) (hk : cC_K k = 7) (hlink : (Cond.fieldLink own index "FaultTwins$View" "unseen" "[I").before args s = true) (hdg : decode cc pc = .ok (.getfield index, 3)) (kk : W p l e R s m args below meth c H locs cells slots Q (F0 m (pc + 3) ls (.ref (Γ.2.2 (k + 1)) :: rest))) : W p l e R s m args below meth c H locs cells slots Q (F0 m pc ls (.ref (Γ.2.2 k) :: rest)) := ft_get hx hb hts hin hown hK hP.1 (cC_lt hk (by decide)) (cC_E7 hk) rfl 0 (by decide) hlink rfl rfl hdg kk
theorem gC_7_1 (hx : p.tables.exec = Jvm.exec) (hb : c.code = cc) (hts : ∀ w ∈ Ts, w.before args s = true) (hin : ∀ w ∈ wsX70, w ∈ Ts) (hown : s.vm.findClass own = some m.cls) (hK : va_K Γ.1 vwCl (ft_ty Γ) s) (hP : cC_P Γ s σ H locs) (hk : cC_K k = 7) (hlink : (Cond.fieldLink own index "FaultTwins$View" "behind" "[I").before args s = true) (hdg : decode cc pc = .ok (.getfield index, 3)) (kk : W p l e R s m args below meth c H locs cells slots Q (F0 m (pc + 3) ls (.ref (Γ.2.2 (k + 2)) :: rest))) : W p l e R s m args below meth c H locs cells slots Q (F0 m pc ls (.ref (Γ.2.2 k) :: rest)) := ft_get hx hb hts hin hown hK hP.1 (cC_lt hk (by decide)) (cC_E7 hk) rfl 1 (by decide) hlink rfl rfl hdg kk
theorem gC_7_2 (hx : p.tables.exec = Jvm.exec) (hb : c.code = cc) (hts : ∀ w ∈ Ts, w.before args s = true) (hin : ∀ w ∈ wsX70, w ∈ Ts) (hown : s.vm.findClass own = some m.cls) (hK : va_K Γ.1 vwCl (ft_ty Γ) s) (hP : cC_P Γ s σ H locs) (hk : cC_K k = 7) (hlink : (Cond.fieldLink own index "FaultTwins$View" "marks" "I").before args s = true) (hdg : decode cc pc = .ok (.getfield index, 3)) (kk : W p l e R s m args below meth c H locs cells slots Q (F0 m (pc + 3) ls (.int (σ.1 k 2) :: rest))) : W p l e R s m args below meth c H locs cells slots Q (F0 m pc ls (.ref (Γ.2.2 k) :: rest)) := ft_get hx hb hts hin hown hK hP.1 (cC_lt hk (by decide)) (cC_E7 hk) rfl 2 (by decide) hlink rfl rfl hdg kk
theorem pC_7_2 {v : Int32} (hx : p.tables.exec = Jvm.exec) (hb : c.code = cc) (hts : ∀ w ∈ Ts, w.before args s = true) (hin : ∀ w ∈ wsX70, w ∈ Ts) (hown : s.vm.findClass own = some m.cls) (hK : va_K Γ.1 vwCl (ft_ty Γ) s) (hI : cC_I Γ) (hP : cC_P Γ s σ H locs) (hk : cC_K k = 7) (hlink : (Cond.fieldLink own index "FaultTwins$View" "marks" "I").before args s = true) (hdg : decode cc pc = .ok (.putfield index, 3)) (kk : ∀ (H1 : Heap) (locs1 : List Loc), cC_P Γ s (ft_sF σ k 2 v) H1 locs1 → W p l e R s m args below meth c H1 locs1 cells slots Q (F0 m (pc + 3) ls rest)) : W p l e R s m args below meth c H locs cells slots Q (F0 m pc ls (.int v :: .ref (Γ.2.2 k) :: rest)) := ft_put (ty := .int) hx hb hts hin tyX7 tyX7_ok nmX7 hown hK hI hP.1 hP.2 (cC_lt hk (by decide)) (cC_E7 hk) rfl 2 (by decide) hlink rfl rfl (by decide +kernel) rfl rfl (Nat.le_of_ble_eq_true rfl) ((cC_E7 hk).trans (by simp [ft_sF])) (cC_E_sF Γ σ k 2 v) hdg (fun H1 locs1 a b => kk H1 locs1 ⟨a, b⟩)
theorem gC_8_0 (hx : p.tables.exec = Jvm.exec) (hb : c.code = cc) (hts : ∀ w ∈ Ts, w.before args s = true) (hin : ∀ w ∈ wsX80, w ∈ Ts) (hown : s.vm.findClass own = some m.cls) (hK : va_K Γ.1 vwCl (ft_ty Γ) s) (hP : cC_P Γ s σ H locs) (hk : cC_K k = 8) (hlink : (Cond.fieldLink own index "FaultTwins$Watch" "sights" "[I").before args s = true) (hdg : decode cc pc = .ok (.getfield index, 3)) (kk : W p l e R s m args below meth c H locs cells slots Q (F0 m (pc + 3) ls (.ref (Γ.2.2 (k + 1)) :: rest))) : W p l e R s m args below meth c H locs cells slots Q (F0 m pc ls (.ref (Γ.2.2 k) :: rest)) := ft_get hx hb hts hin hown hK hP.1 (cC_lt hk (by decide)) (cC_E8 hk) rfl 0 (by decide) hlink rfl rfl hdg kk
theorem gC_8_1 (hx : p.tables.exec = Jvm.exec) (hb : c.code = cc) (hts : ∀ w ∈ Ts, w.before args s = true) (hin : ∀ w ∈ wsX80, w ∈ Ts) (hown : s.vm.findClass own = some m.cls) (hK : va_K Γ.1 vwCl (ft_ty Γ) s) (hP : cC_P Γ s σ H locs) (hk : cC_K k = 8) (hlink : (Cond.fieldLink own index "FaultTwins$Watch" "count" "I").before args s = true) (hdg : decode cc pc = .ok (.getfield index, 3)) (kk : W p l e R s m args below meth c H locs cells slots Q (F0 m (pc + 3) ls (.int (σ.1 k 1) :: rest))) : W p l e R s m args below meth c H locs cells slots Q (F0 m pc ls (.ref (Γ.2.2 k) :: rest)) := ft_get hx hb hts hin hown hK hP.1 (cC_lt hk (by decide)) (cC_E8 hk) rfl 1 (by decide) hlink rfl rfl hdg kk
theorem pC_8_1 {v : Int32} (hx : p.tables.exec = Jvm.exec) (hb : c.code = cc) (hts : ∀ w ∈ Ts, w.before args s = true) (hin : ∀ w ∈ wsX80, w ∈ Ts) (hown : s.vm.findClass own = some m.cls) (hK : va_K Γ.1 vwCl (ft_ty Γ) s) (hI : cC_I Γ) (hP : cC_P Γ s σ H locs) (hk : cC_K k = 8) (hlink : (Cond.fieldLink own index "FaultTwins$Watch" "count" "I").before args s = true) (hdg : decode cc pc = .ok (.putfield index, 3)) (kk : ∀ (H1 : Heap) (locs1 : List Loc), cC_P Γ s (ft_sF σ k 1 v) H1 locs1 → W p l e R s m args below meth c H1 locs1 cells slots Q (F0 m (pc + 3) ls rest)) : W p l e R s m args below meth c H locs cells slots Q (F0 m pc ls (.int v :: .ref (Γ.2.2 k) :: rest)) := ft_put (ty := .int) hx hb hts hin tyX8 tyX8_ok nmX8 hown hK hI hP.1 hP.2 (cC_lt hk (by decide)) (cC_E8 hk) rfl 1 (by decide) hlink rfl rfl (by decide +kernel) rfl rfl (Nat.le_of_ble_eq_true rfl) ((cC_E8 hk).trans (by simp [ft_sF])) (cC_E_sF Γ σ k 1 v) hdg (fun H1 locs1 a b => kk H1 locs1 ⟨a, b⟩)
theorem gC_8_2 (hx : p.tables.exec = Jvm.exec) (hb : c.code = cc) (hts : ∀ w ∈ Ts, w.before args s = true) (hin : ∀ w ∈ wsX80, w ∈ Ts) (hown : s.vm.findClass own = some m.cls) (hK : va_K Γ.1 vwCl (ft_ty Γ) s) (hP : cC_P Γ s σ H locs) (hk : cC_K k = 8) (hlink : (Cond.fieldLink own index "FaultTwins$Watch" "set" "I").before args s = true) (hdg : decode cc pc = .ok (.getfield index, 3)) (kk : W p l e R s m args below meth c H locs cells slots Q (F0 m (pc + 3) ls (.int (σ.1 k 2) :: rest))) : W p l e R s m args below meth c H locs cells slots Q (F0 m pc ls (.ref (Γ.2.2 k) :: rest)) := ft_get hx hb hts hin hown hK hP.1 (cC_lt hk (by decide)) (cC_E8 hk) rfl 2 (by decide) hlink rfl rfl hdg kk
theorem pC_8_2 {v : Int32} (hx : p.tables.exec = Jvm.exec) (hb : c.code = cc) (hts : ∀ w ∈ Ts, w.before args s = true) (hin : ∀ w ∈ wsX80, w ∈ Ts) (hown : s.vm.findClass own = some m.cls) (hK : va_K Γ.1 vwCl (ft_ty Γ) s) (hI : cC_I Γ) (hP : cC_P Γ s σ H locs) (hk : cC_K k = 8) (hlink : (Cond.fieldLink own index "FaultTwins$Watch" "set" "I").before args s = true) (hdg : decode cc pc = .ok (.putfield index, 3)) (kk : ∀ (H1 : Heap) (locs1 : List Loc), cC_P Γ s (ft_sF σ k 2 v) H1 locs1 → W p l e R s m args below meth c H1 locs1 cells slots Q (F0 m (pc + 3) ls rest)) : W p l e R s m args below meth c H locs cells slots Q (F0 m pc ls (.int v :: .ref (Γ.2.2 k) :: rest)) := ft_put (ty := .int) hx hb hts hin tyX8 tyX8_ok nmX8 hown hK hI hP.1 hP.2 (cC_lt hk (by decide)) (cC_E8 hk) rfl 2 (by decide) hlink rfl rfl (by decide +kernel) rfl rfl (Nat.le_of_ble_eq_true rfl) ((cC_E8 hk).trans (by simp [ft_sF])) (cC_E_sF Γ σ k 2 v) hdg (fun H1 locs1 a b => kk H1 locs1 ⟨a, b⟩)
theorem gC_9_0 (hx : p.tables.exec = Jvm.exec) (hb : c.code = cc) (hts : ∀ w ∈ Ts, w.before args s = true) (hin : ∀ w ∈ wsX90, w ∈ Ts) (hown : s.vm.findClass own = some m.cls) (hK : va_K Γ.1 vwCl (ft_ty Γ) s) (hP : cC_P Γ s σ H locs) (hk : cC_K k = 9) (hlink : (Cond.fieldLink own index "FaultTwins" "now" "LFaultTwins$State;").before args s = true) (hdg : decode cc pc = .ok (.getfield index, 3)) (kk : W p l e R s m args below meth c H locs cells slots Q (F0 m (pc + 3) ls (.ref (Γ.2.2 1) :: rest))) : W p l e R s m args below meth c H locs cells slots Q (F0 m pc ls (.ref (Γ.2.2 k) :: rest)) := ft_get hx hb hts hin hown hK hP.1 (cC_lt hk (by decide)) (cC_E9 hk) rfl 0 (by decide) hlink rfl rfl hdg kk
theorem gC_9_1 (hx : p.tables.exec = Jvm.exec) (hb : c.code = cc) (hts : ∀ w ∈ Ts, w.before args s = true) (hin : ∀ w ∈ wsX90, w ∈ Ts) (hown : s.vm.findClass own = some m.cls) (hK : va_K Γ.1 vwCl (ft_ty Γ) s) (hP : cC_P Γ s σ H locs) (hk : cC_K k = 9) (hlink : (Cond.fieldLink own index "FaultTwins" "history" "LFaultTwins$History;").before args s = true) (hdg : decode cc pc = .ok (.getfield index, 3)) (kk : W p l e R s m args below meth c H locs cells slots Q (F0 m (pc + 3) ls (.ref (Γ.2.2 8) :: rest))) : W p l e R s m args below meth c H locs cells slots Q (F0 m pc ls (.ref (Γ.2.2 k) :: rest)) := ft_get hx hb hts hin hown hK hP.1 (cC_lt hk (by decide)) (cC_E9 hk) rfl 1 (by decide) hlink rfl rfl hdg kk
theorem gC_9_2 (hx : p.tables.exec = Jvm.exec) (hb : c.code = cc) (hts : ∀ w ∈ Ts, w.before args s = true) (hin : ∀ w ∈ wsX90, w ∈ Ts) (hown : s.vm.findClass own = some m.cls) (hK : va_K Γ.1 vwCl (ft_ty Γ) s) (hP : cC_P Γ s σ H locs) (hk : cC_K k = 9) (hlink : (Cond.fieldLink own index "FaultTwins" "view" "LFaultTwins$View;").before args s = true) (hdg : decode cc pc = .ok (.getfield index, 3)) (kk : W p l e R s m args below meth c H locs cells slots Q (F0 m (pc + 3) ls (.ref (Γ.2.2 52) :: rest))) : W p l e R s m args below meth c H locs cells slots Q (F0 m pc ls (.ref (Γ.2.2 k) :: rest)) := ft_get hx hb hts hin hown hK hP.1 (cC_lt hk (by decide)) (cC_E9 hk) rfl 2 (by decide) hlink rfl rfl hdg kk
theorem gC_9_3 (hx : p.tables.exec = Jvm.exec) (hb : c.code = cc) (hts : ∀ w ∈ Ts, w.before args s = true) (hin : ∀ w ∈ wsX90, w ∈ Ts) (hown : s.vm.findClass own = some m.cls) (hK : va_K Γ.1 vwCl (ft_ty Γ) s) (hP : cC_P Γ s σ H locs) (hk : cC_K k = 9) (hlink : (Cond.fieldLink own index "FaultTwins" "sets" "LFaultTwins$Sets;").before args s = true) (hdg : decode cc pc = .ok (.getfield index, 3)) (kk : W p l e R s m args below meth c H locs cells slots Q (F0 m (pc + 3) ls (.ref (Γ.2.2 55) :: rest))) : W p l e R s m args below meth c H locs cells slots Q (F0 m pc ls (.ref (Γ.2.2 k) :: rest)) := ft_get hx hb hts hin hown hK hP.1 (cC_lt hk (by decide)) (cC_E9 hk) rfl 3 (by decide) hlink rfl rfl hdg kk
theorem gC_9_4 (hx : p.tables.exec = Jvm.exec) (hb : c.code = cc) (hts : ∀ w ∈ Ts, w.before args s = true) (hin : ∀ w ∈ wsX90, w ∈ Ts) (hown : s.vm.findClass own = some m.cls) (hK : va_K Γ.1 vwCl (ft_ty Γ) s) (hP : cC_P Γ s σ H locs) (hk : cC_K k = 9) (hlink : (Cond.fieldLink own index "FaultTwins" "twins" "LFaultTwins$Twins;").before args s = true) (hdg : decode cc pc = .ok (.getfield index, 3)) (kk : W p l e R s m args below meth c H locs cells slots Q (F0 m (pc + 3) ls (.ref (Γ.2.2 59) :: rest))) : W p l e R s m args below meth c H locs cells slots Q (F0 m pc ls (.ref (Γ.2.2 k) :: rest)) := ft_get hx hb hts hin hown hK hP.1 (cC_lt hk (by decide)) (cC_E9 hk) rfl 4 (by decide) hlink rfl rfl hdg kk
theorem gC_9_5 (hx : p.tables.exec = Jvm.exec) (hb : c.code = cc) (hts : ∀ w ∈ Ts, w.before args s = true) (hin : ∀ w ∈ wsX90, w ∈ Ts) (hown : s.vm.findClass own = some m.cls) (hK : va_K Γ.1 vwCl (ft_ty Γ) s) (hP : cC_P Γ s σ H locs) (hk : cC_K k = 9) (hlink : (Cond.fieldLink own index "FaultTwins" "trial" "LFaultTwins$Twins;").before args s = true) (hdg : decode cc pc = .ok (.getfield index, 3)) (kk : W p l e R s m args below meth c H locs cells slots Q (F0 m (pc + 3) ls (.ref (Γ.2.2 66) :: rest))) : W p l e R s m args below meth c H locs cells slots Q (F0 m pc ls (.ref (Γ.2.2 k) :: rest)) := ft_get hx hb hts hin hown hK hP.1 (cC_lt hk (by decide)) (cC_E9 hk) rfl 5 (by decide) hlink rfl rfl hdg kk
theorem gC_9_6 (hx : p.tables.exec = Jvm.exec) (hb : c.code = cc) (hts : ∀ w ∈ Ts, w.before args s = true) (hin : ∀ w ∈ wsX90, w ∈ Ts) (hown : s.vm.findClass own = some m.cls) (hK : va_K Γ.1 vwCl (ft_ty Γ) s) (hP : cC_P Γ s σ H locs) (hk : cC_K k = 9) (hlink : (Cond.fieldLink own index "FaultTwins" "text" "LFaultTwins$Text;").before args s = true) (hdg : decode cc pc = .ok (.getfield index, 3)) (kk : W p l e R s m args below meth c H locs cells slots Q (F0 m (pc + 3) ls (.ref (Γ.2.2 73) :: rest))) : W p l e R s m args below meth c H locs cells slots Q (F0 m pc ls (.ref (Γ.2.2 k) :: rest)) := ft_get hx hb hts hin hown hK hP.1 (cC_lt hk (by decide)) (cC_E9 hk) rfl 6 (by decide) hlink rfl rfl hdg kk
theorem gC_9_7 (hx : p.tables.exec = Jvm.exec) (hb : c.code = cc) (hts : ∀ w ∈ Ts, w.before args s = true) (hin : ∀ w ∈ wsX90, w ∈ Ts) (hown : s.vm.findClass own = some m.cls) (hK : va_K Γ.1 vwCl (ft_ty Γ) s) (hP : cC_P Γ s σ H locs) (hk : cC_K k = 9) (hlink : (Cond.fieldLink own index "FaultTwins" "reader" "LFaultTwins$Reader;").before args s = true) (hdg : decode cc pc = .ok (.getfield index, 3)) (kk : W p l e R s m args below meth c H locs cells slots Q (F0 m (pc + 3) ls (.ref (Γ.2.2 75) :: rest))) : W p l e R s m args below meth c H locs cells slots Q (F0 m pc ls (.ref (Γ.2.2 k) :: rest)) := ft_get hx hb hts hin hown hK hP.1 (cC_lt hk (by decide)) (cC_E9 hk) rfl 7 (by decide) hlink rfl rfl hdg kk
theorem gC_9_8 (hx : p.tables.exec = Jvm.exec) (hb : c.code = cc) (hts : ∀ w ∈ Ts, w.before args s = true) (hin : ∀ w ∈ wsX90, w ∈ Ts) (hown : s.vm.findClass own = some m.cls) (hK : va_K Γ.1 vwCl (ft_ty Γ) s) (hP : cC_P Γ s σ H locs) (hk : cC_K k = 9) (hlink : (Cond.fieldLink own index "FaultTwins" "bads" "I").before args s = true) (hdg : decode cc pc = .ok (.getfield index, 3)) (kk : W p l e R s m args below meth c H locs cells slots Q (F0 m (pc + 3) ls (.int (σ.1 k 8) :: rest))) : W p l e R s m args below meth c H locs cells slots Q (F0 m pc ls (.ref (Γ.2.2 k) :: rest)) := ft_get hx hb hts hin hown hK hP.1 (cC_lt hk (by decide)) (cC_E9 hk) rfl 8 (by decide) hlink rfl rfl hdg kk
theorem pC_9_8 {v : Int32} (hx : p.tables.exec = Jvm.exec) (hb : c.code = cc) (hts : ∀ w ∈ Ts, w.before args s = true) (hin : ∀ w ∈ wsX90, w ∈ Ts) (hown : s.vm.findClass own = some m.cls) (hK : va_K Γ.1 vwCl (ft_ty Γ) s) (hI : cC_I Γ) (hP : cC_P Γ s σ H locs) (hk : cC_K k = 9) (hlink : (Cond.fieldLink own index "FaultTwins" "bads" "I").before args s = true) (hdg : decode cc pc = .ok (.putfield index, 3)) (kk : ∀ (H1 : Heap) (locs1 : List Loc), cC_P Γ s (ft_sF σ k 8 v) H1 locs1 → W p l e R s m args below meth c H1 locs1 cells slots Q (F0 m (pc + 3) ls rest)) : W p l e R s m args below meth c H locs cells slots Q (F0 m pc ls (.int v :: .ref (Γ.2.2 k) :: rest)) := ft_put (ty := .int) hx hb hts hin tyX9 tyX9_ok nmX9 hown hK hI hP.1 hP.2 (cC_lt hk (by decide)) (cC_E9 hk) rfl 8 (by decide) hlink rfl rfl (by decide +kernel) rfl rfl (Nat.le_of_ble_eq_true rfl) ((cC_E9 hk).trans (by simp [ft_sF])) (cC_E_sF Γ σ k 8 v) hdg (fun H1 locs1 a b => kk H1 locs1 ⟨a, b⟩)
theorem gC_9_9 (hx : p.tables.exec = Jvm.exec) (hb : c.code = cc) (hts : ∀ w ∈ Ts, w.before args s = true) (hin : ∀ w ∈ wsX90, w ∈ Ts) (hown : s.vm.findClass own = some m.cls) (hK : va_K Γ.1 vwCl (ft_ty Γ) s) (hP : cC_P Γ s σ H locs) (hk : cC_K k = 9) (hlink : (Cond.fieldLink own index "FaultTwins" "noes" "I").before args s = true) (hdg : decode cc pc = .ok (.getfield index, 3)) (kk : W p l e R s m args below meth c H locs cells slots Q (F0 m (pc + 3) ls (.int (σ.1 k 9) :: rest))) : W p l e R s m args below meth c H locs cells slots Q (F0 m pc ls (.ref (Γ.2.2 k) :: rest)) := ft_get hx hb hts hin hown hK hP.1 (cC_lt hk (by decide)) (cC_E9 hk) rfl 9 (by decide) hlink rfl rfl hdg kk
theorem pC_9_9 {v : Int32} (hx : p.tables.exec = Jvm.exec) (hb : c.code = cc) (hts : ∀ w ∈ Ts, w.before args s = true) (hin : ∀ w ∈ wsX90, w ∈ Ts) (hown : s.vm.findClass own = some m.cls) (hK : va_K Γ.1 vwCl (ft_ty Γ) s) (hI : cC_I Γ) (hP : cC_P Γ s σ H locs) (hk : cC_K k = 9) (hlink : (Cond.fieldLink own index "FaultTwins" "noes" "I").before args s = true) (hdg : decode cc pc = .ok (.putfield index, 3)) (kk : ∀ (H1 : Heap) (locs1 : List Loc), cC_P Γ s (ft_sF σ k 9 v) H1 locs1 → W p l e R s m args below meth c H1 locs1 cells slots Q (F0 m (pc + 3) ls rest)) : W p l e R s m args below meth c H locs cells slots Q (F0 m pc ls (.int v :: .ref (Γ.2.2 k) :: rest)) := ft_put (ty := .int) hx hb hts hin tyX9 tyX9_ok nmX9 hown hK hI hP.1 hP.2 (cC_lt hk (by decide)) (cC_E9 hk) rfl 9 (by decide) hlink rfl rfl (by decide +kernel) rfl rfl (Nat.le_of_ble_eq_true rfl) ((cC_E9 hk).trans (by simp [ft_sF])) (cC_E_sF Γ σ k 9 v) hdg (fun H1 locs1 a b => kk H1 locs1 ⟨a, b⟩)
theorem gC_9_10 (hx : p.tables.exec = Jvm.exec) (hb : c.code = cc) (hts : ∀ w ∈ Ts, w.before args s = true) (hin : ∀ w ∈ wsX90, w ∈ Ts) (hown : s.vm.findClass own = some m.cls) (hK : va_K Γ.1 vwCl (ft_ty Γ) s) (hP : cC_P Γ s σ H locs) (hk : cC_K k = 9) (hlink : (Cond.fieldLink own index "FaultTwins" "fulls" "I").before args s = true) (hdg : decode cc pc = .ok (.getfield index, 3)) (kk : W p l e R s m args below meth c H locs cells slots Q (F0 m (pc + 3) ls (.int (σ.1 k 10) :: rest))) : W p l e R s m args below meth c H locs cells slots Q (F0 m pc ls (.ref (Γ.2.2 k) :: rest)) := ft_get hx hb hts hin hown hK hP.1 (cC_lt hk (by decide)) (cC_E9 hk) rfl 10 (by decide) hlink rfl rfl hdg kk
theorem pC_9_10 {v : Int32} (hx : p.tables.exec = Jvm.exec) (hb : c.code = cc) (hts : ∀ w ∈ Ts, w.before args s = true) (hin : ∀ w ∈ wsX90, w ∈ Ts) (hown : s.vm.findClass own = some m.cls) (hK : va_K Γ.1 vwCl (ft_ty Γ) s) (hI : cC_I Γ) (hP : cC_P Γ s σ H locs) (hk : cC_K k = 9) (hlink : (Cond.fieldLink own index "FaultTwins" "fulls" "I").before args s = true) (hdg : decode cc pc = .ok (.putfield index, 3)) (kk : ∀ (H1 : Heap) (locs1 : List Loc), cC_P Γ s (ft_sF σ k 10 v) H1 locs1 → W p l e R s m args below meth c H1 locs1 cells slots Q (F0 m (pc + 3) ls rest)) : W p l e R s m args below meth c H locs cells slots Q (F0 m pc ls (.int v :: .ref (Γ.2.2 k) :: rest)) := ft_put (ty := .int) hx hb hts hin tyX9 tyX9_ok nmX9 hown hK hI hP.1 hP.2 (cC_lt hk (by decide)) (cC_E9 hk) rfl 10 (by decide) hlink rfl rfl (by decide +kernel) rfl rfl (Nat.le_of_ble_eq_true rfl) ((cC_E9 hk).trans (by simp [ft_sF])) (cC_E_sF Γ σ k 10 v) hdg (fun H1 locs1 a b => kk H1 locs1 ⟨a, b⟩)
theorem gC_9_11 (hx : p.tables.exec = Jvm.exec) (hb : c.code = cc) (hts : ∀ w ∈ Ts, w.before args s = true) (hin : ∀ w ∈ wsX90, w ∈ Ts) (hown : s.vm.findClass own = some m.cls) (hK : va_K Γ.1 vwCl (ft_ty Γ) s) (hP : cC_P Γ s σ H locs) (hk : cC_K k = 9) (hlink : (Cond.fieldLink own index "FaultTwins" "fewestEyes" "I").before args s = true) (hdg : decode cc pc = .ok (.getfield index, 3)) (kk : W p l e R s m args below meth c H locs cells slots Q (F0 m (pc + 3) ls (.int (σ.1 k 11) :: rest))) : W p l e R s m args below meth c H locs cells slots Q (F0 m pc ls (.ref (Γ.2.2 k) :: rest)) := ft_get hx hb hts hin hown hK hP.1 (cC_lt hk (by decide)) (cC_E9 hk) rfl 11 (by decide) hlink rfl rfl hdg kk
theorem pC_9_11 {v : Int32} (hx : p.tables.exec = Jvm.exec) (hb : c.code = cc) (hts : ∀ w ∈ Ts, w.before args s = true) (hin : ∀ w ∈ wsX90, w ∈ Ts) (hown : s.vm.findClass own = some m.cls) (hK : va_K Γ.1 vwCl (ft_ty Γ) s) (hI : cC_I Γ) (hP : cC_P Γ s σ H locs) (hk : cC_K k = 9) (hlink : (Cond.fieldLink own index "FaultTwins" "fewestEyes" "I").before args s = true) (hdg : decode cc pc = .ok (.putfield index, 3)) (kk : ∀ (H1 : Heap) (locs1 : List Loc), cC_P Γ s (ft_sF σ k 11 v) H1 locs1 → W p l e R s m args below meth c H1 locs1 cells slots Q (F0 m (pc + 3) ls rest)) : W p l e R s m args below meth c H locs cells slots Q (F0 m pc ls (.int v :: .ref (Γ.2.2 k) :: rest)) := ft_put (ty := .int) hx hb hts hin tyX9 tyX9_ok nmX9 hown hK hI hP.1 hP.2 (cC_lt hk (by decide)) (cC_E9 hk) rfl 11 (by decide) hlink rfl rfl (by decide +kernel) rfl rfl (Nat.le_of_ble_eq_true rfl) ((cC_E9 hk).trans (by simp [ft_sF])) (cC_E_sF Γ σ k 11 v) hdg (fun H1 locs1 a b => kk H1 locs1 ⟨a, b⟩)
theorem gC_9_12 (hx : p.tables.exec = Jvm.exec) (hb : c.code = cc) (hts : ∀ w ∈ Ts, w.before args s = true) (hin : ∀ w ∈ wsX90, w ∈ Ts) (hown : s.vm.findClass own = some m.cls) (hK : va_K Γ.1 vwCl (ft_ty Γ) s) (hP : cC_P Γ s σ H locs) (hk : cC_K k = 9) (hlink : (Cond.fieldLink own index "FaultTwins" "setsHold" "Z").before args s = true) (hdg : decode cc pc = .ok (.getfield index, 3)) (kk : W p l e R s m args below meth c H locs cells slots Q (F0 m (pc + 3) ls (.int (σ.1 k 12) :: rest))) : W p l e R s m args below meth c H locs cells slots Q (F0 m pc ls (.ref (Γ.2.2 k) :: rest)) := ft_get hx hb hts hin hown hK hP.1 (cC_lt hk (by decide)) (cC_E9 hk) rfl 12 (by decide) hlink rfl rfl hdg kk
theorem pC_9_12 {v : Int32} (hx : p.tables.exec = Jvm.exec) (hb : c.code = cc) (hts : ∀ w ∈ Ts, w.before args s = true) (hin : ∀ w ∈ wsX90, w ∈ Ts) (hown : s.vm.findClass own = some m.cls) (hK : va_K Γ.1 vwCl (ft_ty Γ) s) (hI : cC_I Γ) (hP : cC_P Γ s σ H locs) (hk : cC_K k = 9) (hlink : (Cond.fieldLink own index "FaultTwins" "setsHold" "Z").before args s = true) (hz : ft_bz v) (hdg : decode cc pc = .ok (.putfield index, 3)) (kk : ∀ (H1 : Heap) (locs1 : List Loc), cC_P Γ s (ft_sF σ k 12 v) H1 locs1 → W p l e R s m args below meth c H1 locs1 cells slots Q (F0 m (pc + 3) ls rest)) : W p l e R s m args below meth c H locs cells slots Q (F0 m pc ls (.int v :: .ref (Γ.2.2 k) :: rest)) := ft_put (ty := .boolean) hx hb hts hin tyX9 tyX9_ok nmX9 hown hK hI hP.1 hP.2 (cC_lt hk (by decide)) (cC_E9 hk) rfl 12 (by decide) hlink rfl rfl (by decide +kernel) (ft_bz_n hz) (ft_bz_f hz) (Nat.le_of_ble_eq_true rfl) ((cC_E9 hk).trans (by simp [ft_sF])) (cC_E_sF Γ σ k 12 v) hdg (fun H1 locs1 a b => kk H1 locs1 ⟨a, b⟩)
theorem gC_9_13 (hx : p.tables.exec = Jvm.exec) (hb : c.code = cc) (hts : ∀ w ∈ Ts, w.before args s = true) (hin : ∀ w ∈ wsX90, w ∈ Ts) (hown : s.vm.findClass own = some m.cls) (hK : va_K Γ.1 vwCl (ft_ty Γ) s) (hP : cC_P Γ s σ H locs) (hk : cC_K k = 9) (hlink : (Cond.fieldLink own index "FaultTwins" "twinsHold" "Z").before args s = true) (hdg : decode cc pc = .ok (.getfield index, 3)) (kk : W p l e R s m args below meth c H locs cells slots Q (F0 m (pc + 3) ls (.int (σ.1 k 13) :: rest))) : W p l e R s m args below meth c H locs cells slots Q (F0 m pc ls (.ref (Γ.2.2 k) :: rest)) := ft_get hx hb hts hin hown hK hP.1 (cC_lt hk (by decide)) (cC_E9 hk) rfl 13 (by decide) hlink rfl rfl hdg kk
theorem pC_9_13 {v : Int32} (hx : p.tables.exec = Jvm.exec) (hb : c.code = cc) (hts : ∀ w ∈ Ts, w.before args s = true) (hin : ∀ w ∈ wsX90, w ∈ Ts) (hown : s.vm.findClass own = some m.cls) (hK : va_K Γ.1 vwCl (ft_ty Γ) s) (hI : cC_I Γ) (hP : cC_P Γ s σ H locs) (hk : cC_K k = 9) (hlink : (Cond.fieldLink own index "FaultTwins" "twinsHold" "Z").before args s = true) (hz : ft_bz v) (hdg : decode cc pc = .ok (.putfield index, 3)) (kk : ∀ (H1 : Heap) (locs1 : List Loc), cC_P Γ s (ft_sF σ k 13 v) H1 locs1 → W p l e R s m args below meth c H1 locs1 cells slots Q (F0 m (pc + 3) ls rest)) : W p l e R s m args below meth c H locs cells slots Q (F0 m pc ls (.int v :: .ref (Γ.2.2 k) :: rest)) := ft_put (ty := .boolean) hx hb hts hin tyX9 tyX9_ok nmX9 hown hK hI hP.1 hP.2 (cC_lt hk (by decide)) (cC_E9 hk) rfl 13 (by decide) hlink rfl rfl (by decide +kernel) (ft_bz_n hz) (ft_bz_f hz) (Nat.le_of_ble_eq_true rfl) ((cC_E9 hk).trans (by simp [ft_sF])) (cC_E_sF Γ σ k 13 v) hdg (fun H1 locs1 a b => kk H1 locs1 ⟨a, b⟩)
theorem gC_9_14 (hx : p.tables.exec = Jvm.exec) (hb : c.code = cc) (hts : ∀ w ∈ Ts, w.before args s = true) (hin : ∀ w ∈ wsX90, w ∈ Ts) (hown : s.vm.findClass own = some m.cls) (hK : va_K Γ.1 vwCl (ft_ty Γ) s) (hP : cC_P Γ s σ H locs) (hk : cC_K k = 9) (hlink : (Cond.fieldLink own index "FaultTwins" "fewestHold" "Z").before args s = true) (hdg : decode cc pc = .ok (.getfield index, 3)) (kk : W p l e R s m args below meth c H locs cells slots Q (F0 m (pc + 3) ls (.int (σ.1 k 14) :: rest))) : W p l e R s m args below meth c H locs cells slots Q (F0 m pc ls (.ref (Γ.2.2 k) :: rest)) := ft_get hx hb hts hin hown hK hP.1 (cC_lt hk (by decide)) (cC_E9 hk) rfl 14 (by decide) hlink rfl rfl hdg kk
theorem pC_9_14 {v : Int32} (hx : p.tables.exec = Jvm.exec) (hb : c.code = cc) (hts : ∀ w ∈ Ts, w.before args s = true) (hin : ∀ w ∈ wsX90, w ∈ Ts) (hown : s.vm.findClass own = some m.cls) (hK : va_K Γ.1 vwCl (ft_ty Γ) s) (hI : cC_I Γ) (hP : cC_P Γ s σ H locs) (hk : cC_K k = 9) (hlink : (Cond.fieldLink own index "FaultTwins" "fewestHold" "Z").before args s = true) (hz : ft_bz v) (hdg : decode cc pc = .ok (.putfield index, 3)) (kk : ∀ (H1 : Heap) (locs1 : List Loc), cC_P Γ s (ft_sF σ k 14 v) H1 locs1 → W p l e R s m args below meth c H1 locs1 cells slots Q (F0 m (pc + 3) ls rest)) : W p l e R s m args below meth c H locs cells slots Q (F0 m pc ls (.int v :: .ref (Γ.2.2 k) :: rest)) := ft_put (ty := .boolean) hx hb hts hin tyX9 tyX9_ok nmX9 hown hK hI hP.1 hP.2 (cC_lt hk (by decide)) (cC_E9 hk) rfl 14 (by decide) hlink rfl rfl (by decide +kernel) (ft_bz_n hz) (ft_bz_f hz) (Nat.le_of_ble_eq_true rfl) ((cC_E9 hk).trans (by simp [ft_sF])) (cC_E_sF Γ σ k 14 v) hdg (fun H1 locs1 a b => kk H1 locs1 ⟨a, b⟩)
theorem aC_ld (hx : p.tables.exec = Jvm.exec) (hb : c.code = cc) (hK : va_K Γ.1 vwCl (ft_ty Γ) s) (hP : cC_P Γ s σ H locs) (hk : cC_K k = 12) {N : Nat} (hN : cC_N k = N) {i : Int32} (hi : vp_in i N) (hdg : decode cc pc = .ok (.iaload, 1)) (kk : W p l e R s m args below meth c H locs cells slots Q (F0 m (pc + 1) ls (.int (σ.2.1 k i.toNatClampNeg) :: rest))) : W p l e R s m args below meth c H locs cells slots Q (F0 m pc ls (.int i :: .ref (Γ.2.2 k) :: rest)) := by
  subst hN
  exact ft_iald hx hb hK hP.1 (cC_lt hk (by decide)) (cC_E12 hk) 1 rfl hi hdg kk
theorem aC_st (hx : p.tables.exec = Jvm.exec) (hb : c.code = cc) (hK : va_K Γ.1 vwCl (ft_ty Γ) s) (hI : cC_I Γ) (hP : cC_P Γ s σ H locs) (hk : cC_K k = 12) {N : Nat} (hN : cC_N k = N) {i x : Int32} (hi : vp_in i N) (hdg : decode cc pc = .ok (.iastore, 1)) (kk : ∀ (H1 : Heap) (locs1 : List Loc), cC_P Γ s (ft_sA σ k (upd (σ.2.1 k) i.toNatClampNeg x)) H1 locs1 → W p l e R s m args below meth c H1 locs1 cells slots Q (F0 m (pc + 1) ls rest)) : W p l e R s m args below meth c H locs cells slots Q (F0 m pc ls (.int x :: .int i :: .ref (Γ.2.2 k) :: rest)) := by
  subst hN
  exact ft_iast hx hb hK hI hP.1 hP.2 (cC_lt hk (by decide)) (cC_E12 hk) 1 rfl hi ((cC_E12 hk).trans (by simp [ft_sA])) (cC_E_sA Γ σ k _) hdg (fun H1 locs1 a b => kk H1 locs1 ⟨a, b⟩)
theorem aC_len (hx : p.tables.exec = Jvm.exec) (hb : c.code = cc) (hK : va_K Γ.1 vwCl (ft_ty Γ) s) (hP : cC_P Γ s σ H locs) (hk : cC_K k = 12) (hdg : decode cc pc = .ok (.arraylength, 1)) (kk : W p l e R s m args below meth c H locs cells slots Q (F0 m (pc + 1) ls (.int (nI (cC_N k)) :: rest))) : W p l e R s m args below meth c H locs cells slots Q (F0 m pc ls (.ref (Γ.2.2 k) :: rest)) := va_alen (ty := .int) (cA := Γ.2.1.2.1) (x := (cC_N k, .inl (σ.2.1 k))) hx hb hK hP.1 k 1 ((ft_W_get (cC_lt hk (by decide))).trans (by rw [cC_E12 hk])) rfl rfl hdg kk
theorem aC_bld (hx : p.tables.exec = Jvm.exec) (hb : c.code = cc) (hK : va_K Γ.1 vwCl (ft_ty Γ) s) (hP : cC_P Γ s σ H locs) (hk : cC_K k = 11) {N : Nat} (hN : cC_N k = N) {i : Int32} (hi : vp_in i N) (hdg : decode cc pc = .ok (.baload, 1)) (kk : W p l e R s m args below meth c H locs cells slots Q (F0 m (pc + 1) ls (.int (σ.2.1 k i.toNatClampNeg) :: rest))) : W p l e R s m args below meth c H locs cells slots Q (F0 m pc ls (.int i :: .ref (Γ.2.2 k) :: rest)) := by
  subst hN
  exact ft_bald hx hb hK hP.1 (cC_lt hk (by decide)) (cC_E11 hk) 0 rfl hi hdg kk
theorem aC_bst (hx : p.tables.exec = Jvm.exec) (hb : c.code = cc) (hK : va_K Γ.1 vwCl (ft_ty Γ) s) (hI : cC_I Γ) (hP : cC_P Γ s σ H locs) (hk : cC_K k = 11) {N : Nat} (hN : cC_N k = N) {i x : Int32} (hi : vp_in i N) (hdg : decode cc pc = .ok (.bastore, 1)) (kk : ∀ (H1 : Heap) (locs1 : List Loc), cC_P Γ s (ft_sA σ k (upd (σ.2.1 k) i.toNatClampNeg (vp_nar .byte x))) H1 locs1 → W p l e R s m args below meth c H1 locs1 cells slots Q (F0 m (pc + 1) ls rest)) : W p l e R s m args below meth c H locs cells slots Q (F0 m pc ls (.int x :: .int i :: .ref (Γ.2.2 k) :: rest)) := by
  subst hN
  have hD : va_D (ft_A 80 Γ.2.2) (ft_W 80 Γ.2.2 (cC_E Γ σ)) := ft_W_D hI
  refine va_bast hx hb hK hP.1 hD hP.2 k 0 ((ft_W_get (cC_lt hk (by decide))).trans (by rw [cC_E11 hk])) rfl hi hdg (fun H1 locs1 hP1 _ hS1 => ?_)
  rw [ft_W_set (E' := cC_E Γ (ft_sA σ k (upd (σ.2.1 k) i.toNatClampNeg (vp_nar .byte x)))) ((cC_E11 hk).trans (by simp [ft_sA])) (cC_E_sA Γ σ k _)] at hP1
  exact kk H1 locs1 ⟨hP1, hS1⟩
theorem aC_ald (hx : p.tables.exec = Jvm.exec) (hb : c.code = cc) (hK : va_K Γ.1 vwCl (ft_ty Γ) s) (hP : cC_P Γ s σ H locs) (hk : cC_K k = 14) {N : Nat} (hN : cC_N k = N) {i : Int32} (hi : vp_in i N) (hdg : decode cc pc = .ok (.aaload, 1)) (kk : W p l e R s m args below meth c H locs cells slots Q (F0 m (pc + 1) ls (.ref (Γ.2.2 (k + 1 + 7 * i.toNatClampNeg)) :: rest))) : W p l e R s m args below meth c H locs cells slots Q (F0 m pc ls (.int i :: .ref (Γ.2.2 k) :: rest)) := by
  subst hN
  exact va_aldq (C := "FaultTwins$State") (cA := Γ.2.1.2.2.2) (n := cC_N k) (f := fun j => some (Γ.2.2 (k + 1 + 7 * j))) hx hb hK hP.1 k 3 ((ft_W_get (cC_lt hk (by decide))).trans (by rw [cC_E14 hk])) rfl hi hdg kk
end FTPC
/-- where a method begins -/
def cC_B (Γ : ft_G) (σ : ft_St) (U : State) : Prop := va_P Γ.1 vwCl (ft_W 80 Γ.2.2 (cC_E Γ σ)) U.heap ∧ va_K Γ.1 vwCl (ft_ty Γ) U ∧ va_Nw (.methodLinkNest RX3 46 yX9_verdict RX9) U
def cC_Q (Γ : ft_G) (σ : ft_St) (t : State) : Prop := va_P Γ.1 vwCl (ft_W 80 Γ.2.2 (cC_E Γ σ)) t.heap
abbrev cC_Mi (l : Launch) (y : MethodName) (ws : List Cond) (rm : Room) (Γ : ft_G) (σ : ft_St) (av : List Value) (Φ : Int32 → ft_St → Prop) : Prop := Met l y ws rm (va_Pc av (cC_B Γ σ)) (va_Qi Φ (cC_Q Γ) (ft_A 80 Γ.2.2)) 0 0 (ft_A 80 Γ.2.2)
abbrev cC_Ml (l : Launch) (y : MethodName) (ws : List Cond) (rm : Room) (Γ : ft_G) (σ : ft_St) (av : List Value) (Φ : Int64 → ft_St → Prop) : Prop := Met l y ws rm (va_Pc av (cC_B Γ σ)) (va_Ql Φ (cC_Q Γ) (ft_A 80 Γ.2.2)) 0 0 (ft_A 80 Γ.2.2)
abbrev cC_Mv (l : Launch) (y : MethodName) (ws : List Cond) (rm : Room) (Γ : ft_G) (σ : ft_St) (av : List Value) (Φ : ft_St → Prop) : Prop := Met l y ws rm (va_Pc av (cC_B Γ σ)) (va_Qv Φ (cC_Q Γ) (ft_A 80 Γ.2.2)) 0 0 (ft_A 80 Γ.2.2)
abbrev cC_Mr (l : Launch) (y : MethodName) (ws : List Cond) (rm : Room) (Γ : ft_G) (σ : ft_St) (av : List Value) (k : Nat) (Φ : ft_St → Prop) : Prop := Met l y ws rm (va_Pc av (cC_B Γ σ)) (va_Qr Φ (fun u a t => a = Γ.2.2 k ∧ cC_Q Γ u t) (ft_A 80 Γ.2.2)) 0 0 (ft_A 80 Γ.2.2)
theorem cC_blind {Γ : ft_G} {σ : ft_St} {av : List Value} : FrameBlind (va_Pc av (cC_B Γ σ)) := fun a U g mk q => by
  obtain ⟨q0, qP, qK, qN⟩ := q
  exact ⟨q0, qP, va_K.moved (u := U) (U := U.calling g mk a) (Vm.Alike.refl U.vm) qK, va_Nw.same rfl (show U.vm = (U.calling g mk a).vm from rfl) qN⟩
theorem cC_start {Γ : ft_G} {σ : ft_St} {s : State} {H : Heap} {locs : List Loc} {av : List Value} (hP : cC_P Γ s σ H locs) (hK : va_K Γ.1 vwCl (ft_ty Γ) s) (hN : va_Nw (.methodLinkNest RX3 46 yX9_verdict RX9) s) : ∀ U : State, U.heap = H → s.WarmedH U.vm → va_Pc av (cC_B Γ σ) av.toArray U := fun U hU hW => ⟨rfl, by rw [hU]; exact hP.1, va_K.moved hW.alike hK, va_Nw.warmM hW hN⟩
section FTCC
variable {p : Program} {l : Launch} {e : Env} {R : Room} {s : State} {m : MethodId} {args : Array Value} {below : List Frame} {meth : Method} {c : Code} {H : Heap} {locs : List Loc} {cells slots : Nat} {Q : State → Prop}
variable {cc : ByteArray} {pc : Nat} {ls : Array Slot} {rest : List Value} {Γ : ft_G} {σ : ft_St} {k : Nat} {own : String} {index : Nat} {Ts : List Cond}
variable {y : MethodName} {bytes : ByteArray} {maxL nL nA : Nat} {ret : Option FieldType} {ws : List Cond} {rm : Room} {C : String} {As : List Value} {st0 : List Value}
theorem cC_Vi {Φ : Int32 → ft_St → Prop} (S : CallFix p m c cc nL s args Ts own) (hM : cC_Mi l y ws rm Γ σ (.ref (Γ.2.2 k) :: As) Φ) (cw : CallW R s args own C index y bytes maxL ret ws rm 0 0 nA) (hK : va_K Γ.1 vwCl (ft_ty Γ) s) (hN : va_Nw (.methodLinkNest RX3 46 yX9_verdict RX9) s) (hP : cC_P Γ s σ H locs) {ci : Nat} {q : vw_C} (hk : k < 80) {fs : List Value} (he : cC_E Γ σ k = .inr (ci, fs)) (hc : vwCl[ci]? = some q) (hC : q.1 = C) (hn : As.length = nA) (hls : ls.size = nL) (hst : st0 = As.reverse ++ .ref (Γ.2.2 k) :: rest) (hW : (rest.map fun v => v.category).sum ≤ 8) (hdg : decode cc pc = .ok (.invokevirtual index, 3)) (hf : cells + 0 ≤ R.cells ∧ slots + 0 ≤ R.slots) (kk : ∀ (r : Int32) (σ1 : ft_St) (H1 : Heap) (locs1 : List Loc), Φ r σ1 → cC_P Γ s σ1 H1 locs1 → W p l e R s m args below meth c H1 locs1 cells slots Q (F0 m (pc + 3) ls (.int r :: rest))) : W p l e R s m args below meth c H locs cells slots Q (F0 m pc ls st0) := by
  subst hC
  exact va_calli (va_runV S hM cw ⟨cC_blind, va_recv hK hP.1 hc ((ft_W_get hk).trans (by rw [he])), cC_start hP hK hN⟩ rfl hn hls hst (lv_room hW) hdg hf) hP.2 (fun q _ h => h) (fun q h => h) (fun r u t H1 locs1 ht hvm hw hB hz hk hS => kk r u H1 locs1 hw ⟨by rw [← ht]; exact hB, hS⟩)
theorem cC_Si {Φ : Int32 → ft_St → Prop} (S : CallFix p m c cc nL s args Ts own) (hM : cC_Mi l y ws rm Γ σ As Φ) (cw : CallB R s args own index y bytes maxL ret ws rm 0 0 nA ∧ (Cond.static y).before args s = true) (hK : va_K Γ.1 vwCl (ft_ty Γ) s) (hN : va_Nw (.methodLinkNest RX3 46 yX9_verdict RX9) s) (hP : cC_P Γ s σ H locs) (hn : As.length = nA) (hls : ls.size = nL) (hst : st0 = As.reverse ++ rest) (hW : (rest.map fun v => v.category).sum ≤ 8) (hdg : decode cc pc = .ok (.invokestatic index, 3)) (hf : cells + 0 ≤ R.cells ∧ slots + 0 ≤ R.slots) (kk : ∀ (r : Int32) (σ1 : ft_St) (H1 : Heap) (locs1 : List Loc), Φ r σ1 → cC_P Γ s σ1 H1 locs1 → W p l e R s m args below meth c H1 locs1 cells slots Q (F0 m (pc + 3) ls (.int r :: rest))) : W p l e R s m args below meth c H locs cells slots Q (F0 m pc ls st0) :=
  va_calli (va_runS S hM cw ⟨cC_blind, cC_start hP hK hN⟩ rfl hn hls hst (lv_room hW) hdg hf) hP.2 (fun q _ h => h) (fun q h => h) (fun r u t H1 locs1 ht hvm hw hB hz hk hS => kk r u H1 locs1 hw ⟨by rw [← ht]; exact hB, hS⟩)
theorem cC_Ni {Φ : Int32 → ft_St → Prop} (S : CallFix p m c cc nL s args Ts own) {host : String} (hM : cC_Mi l y ws rm Γ σ As Φ) (cw : va_CN R s args own index y host bytes maxL ret ws rm 0 0 nA ∧ (Cond.static y).before args s = true ∧ True) (hK : va_K Γ.1 vwCl (ft_ty Γ) s) (hN : va_Nw (.methodLinkNest RX3 46 yX9_verdict RX9) s) (hP : cC_P Γ s σ H locs) (hn : As.length = nA) (hls : ls.size = nL) (hst : st0 = As.reverse ++ rest) (hW : (rest.map fun v => v.category).sum ≤ 8) (hdg : decode cc pc = .ok (.invokestatic index, 3)) (hf : cells + 0 ≤ R.cells ∧ slots + 0 ≤ R.slots) (kk : ∀ (r : Int32) (σ1 : ft_St) (H1 : Heap) (locs1 : List Loc), Φ r σ1 → cC_P Γ s σ1 H1 locs1 → W p l e R s m args below meth c H1 locs1 cells slots Q (F0 m (pc + 3) ls (.int r :: rest))) : W p l e R s m args below meth c H locs cells slots Q (F0 m pc ls st0) :=
  va_calli (va_runSN S hM cw ⟨cC_blind, cC_start hP hK hN⟩ rfl hn hls hst (lv_room hW) hdg hf) hP.2 (fun q _ h => h) (fun q h => h) (fun r u t H1 locs1 ht hvm hw hB hz hk hS => kk r u H1 locs1 hw ⟨by rw [← ht]; exact hB, hS⟩)
theorem cC_Vl {Φ : Int64 → ft_St → Prop} (S : CallFix p m c cc nL s args Ts own) (hM : cC_Ml l y ws rm Γ σ (.ref (Γ.2.2 k) :: As) Φ) (cw : CallW R s args own C index y bytes maxL ret ws rm 0 0 nA) (hK : va_K Γ.1 vwCl (ft_ty Γ) s) (hN : va_Nw (.methodLinkNest RX3 46 yX9_verdict RX9) s) (hP : cC_P Γ s σ H locs) {ci : Nat} {q : vw_C} (hk : k < 80) {fs : List Value} (he : cC_E Γ σ k = .inr (ci, fs)) (hc : vwCl[ci]? = some q) (hC : q.1 = C) (hn : As.length = nA) (hls : ls.size = nL) (hst : st0 = As.reverse ++ .ref (Γ.2.2 k) :: rest) (hW : (rest.map fun v => v.category).sum ≤ 8) (hdg : decode cc pc = .ok (.invokevirtual index, 3)) (hf : cells + 0 ≤ R.cells ∧ slots + 0 ≤ R.slots) (kk : ∀ (r : Int64) (σ1 : ft_St) (H1 : Heap) (locs1 : List Loc), Φ r σ1 → cC_P Γ s σ1 H1 locs1 → W p l e R s m args below meth c H1 locs1 cells slots Q (F0 m (pc + 3) ls (.long r :: rest))) : W p l e R s m args below meth c H locs cells slots Q (F0 m pc ls st0) := by
  subst hC
  exact va_calll (va_runV S hM cw ⟨cC_blind, va_recv hK hP.1 hc ((ft_W_get hk).trans (by rw [he])), cC_start hP hK hN⟩ rfl hn hls hst (lv_room hW) hdg hf) hP.2 (fun q _ h => h) (fun q h => h) (fun r u t H1 locs1 ht hvm hw hB hz hk hS => kk r u H1 locs1 hw ⟨by rw [← ht]; exact hB, hS⟩)
theorem cC_Sl {Φ : Int64 → ft_St → Prop} (S : CallFix p m c cc nL s args Ts own) (hM : cC_Ml l y ws rm Γ σ As Φ) (cw : CallB R s args own index y bytes maxL ret ws rm 0 0 nA ∧ (Cond.static y).before args s = true) (hK : va_K Γ.1 vwCl (ft_ty Γ) s) (hN : va_Nw (.methodLinkNest RX3 46 yX9_verdict RX9) s) (hP : cC_P Γ s σ H locs) (hn : As.length = nA) (hls : ls.size = nL) (hst : st0 = As.reverse ++ rest) (hW : (rest.map fun v => v.category).sum ≤ 8) (hdg : decode cc pc = .ok (.invokestatic index, 3)) (hf : cells + 0 ≤ R.cells ∧ slots + 0 ≤ R.slots) (kk : ∀ (r : Int64) (σ1 : ft_St) (H1 : Heap) (locs1 : List Loc), Φ r σ1 → cC_P Γ s σ1 H1 locs1 → W p l e R s m args below meth c H1 locs1 cells slots Q (F0 m (pc + 3) ls (.long r :: rest))) : W p l e R s m args below meth c H locs cells slots Q (F0 m pc ls st0) :=
  va_calll (va_runS S hM cw ⟨cC_blind, cC_start hP hK hN⟩ rfl hn hls hst (lv_room hW) hdg hf) hP.2 (fun q _ h => h) (fun q h => h) (fun r u t H1 locs1 ht hvm hw hB hz hk hS => kk r u H1 locs1 hw ⟨by rw [← ht]; exact hB, hS⟩)
theorem cC_Vv {Φ : ft_St → Prop} (S : CallFix p m c cc nL s args Ts own) (hM : cC_Mv l y ws rm Γ σ (.ref (Γ.2.2 k) :: As) Φ) (cw : CallW R s args own C index y bytes maxL ret ws rm 0 0 nA) (hK : va_K Γ.1 vwCl (ft_ty Γ) s) (hN : va_Nw (.methodLinkNest RX3 46 yX9_verdict RX9) s) (hP : cC_P Γ s σ H locs) {ci : Nat} {q : vw_C} (hk : k < 80) {fs : List Value} (he : cC_E Γ σ k = .inr (ci, fs)) (hc : vwCl[ci]? = some q) (hC : q.1 = C) (hn : As.length = nA) (hls : ls.size = nL) (hst : st0 = As.reverse ++ .ref (Γ.2.2 k) :: rest) (hW : (rest.map fun v => v.category).sum ≤ 8) (hdg : decode cc pc = .ok (.invokevirtual index, 3)) (hf : cells + 0 ≤ R.cells ∧ slots + 0 ≤ R.slots) (kk : ∀ (σ1 : ft_St) (H1 : Heap) (locs1 : List Loc), Φ σ1 → cC_P Γ s σ1 H1 locs1 → W p l e R s m args below meth c H1 locs1 cells slots Q (F0 m (pc + 3) ls rest)) : W p l e R s m args below meth c H locs cells slots Q (F0 m pc ls st0) := by
  subst hC
  exact va_callv (va_runV S hM cw ⟨cC_blind, va_recv hK hP.1 hc ((ft_W_get hk).trans (by rw [he])), cC_start hP hK hN⟩ rfl hn hls hst (lv_room hW) hdg hf) hP.2 (fun q _ h => h) (fun q h => h) (fun u t H1 locs1 ht hvm hw hB hz hk hS => kk u H1 locs1 hw ⟨by rw [← ht]; exact hB, hS⟩)
theorem cC_Sv {Φ : ft_St → Prop} (S : CallFix p m c cc nL s args Ts own) (hM : cC_Mv l y ws rm Γ σ As Φ) (cw : CallB R s args own index y bytes maxL ret ws rm 0 0 nA ∧ (Cond.static y).before args s = true) (hK : va_K Γ.1 vwCl (ft_ty Γ) s) (hN : va_Nw (.methodLinkNest RX3 46 yX9_verdict RX9) s) (hP : cC_P Γ s σ H locs) (hn : As.length = nA) (hls : ls.size = nL) (hst : st0 = As.reverse ++ rest) (hW : (rest.map fun v => v.category).sum ≤ 8) (hdg : decode cc pc = .ok (.invokestatic index, 3)) (hf : cells + 0 ≤ R.cells ∧ slots + 0 ≤ R.slots) (kk : ∀ (σ1 : ft_St) (H1 : Heap) (locs1 : List Loc), Φ σ1 → cC_P Γ s σ1 H1 locs1 → W p l e R s m args below meth c H1 locs1 cells slots Q (F0 m (pc + 3) ls rest)) : W p l e R s m args below meth c H locs cells slots Q (F0 m pc ls st0) :=
  va_callv (va_runS S hM cw ⟨cC_blind, cC_start hP hK hN⟩ rfl hn hls hst (lv_room hW) hdg hf) hP.2 (fun q _ h => h) (fun q h => h) (fun u t H1 locs1 ht hvm hw hB hz hk hS => kk u H1 locs1 hw ⟨by rw [← ht]; exact hB, hS⟩)
theorem cC_Vr {Φ : ft_St → Prop} {kr : Nat} (S : CallFix p m c cc nL s args Ts own) (hM : cC_Mr l y ws rm Γ σ (.ref (Γ.2.2 k) :: As) kr Φ) (cw : CallW R s args own C index y bytes maxL ret ws rm 0 0 nA) (hK : va_K Γ.1 vwCl (ft_ty Γ) s) (hN : va_Nw (.methodLinkNest RX3 46 yX9_verdict RX9) s) (hP : cC_P Γ s σ H locs) {ci : Nat} {q : vw_C} (hk : k < 80) {fs : List Value} (he : cC_E Γ σ k = .inr (ci, fs)) (hc : vwCl[ci]? = some q) (hC : q.1 = C) (hn : As.length = nA) (hls : ls.size = nL) (hst : st0 = As.reverse ++ .ref (Γ.2.2 k) :: rest) (hW : (rest.map fun v => v.category).sum ≤ 8) (hdg : decode cc pc = .ok (.invokevirtual index, 3)) (hf : cells + 0 ≤ R.cells ∧ slots + 0 ≤ R.slots) (kk : ∀ (σ1 : ft_St) (H1 : Heap) (locs1 : List Loc), Φ σ1 → cC_P Γ s σ1 H1 locs1 → W p l e R s m args below meth c H1 locs1 cells slots Q (F0 m (pc + 3) ls (.ref (Γ.2.2 kr) :: rest))) : W p l e R s m args below meth c H locs cells slots Q (F0 m pc ls st0) := by
  subst hC
  refine va_callr (va_runV S hM cw ⟨cC_blind, va_recv hK hP.1 hc ((ft_W_get hk).trans (by rw [he])), cC_start hP hK hN⟩ rfl hn hls hst (lv_room hW) hdg hf) hP.2 (fun q _ h => h) (fun q h => h) (fun u ra t H1 locs1 ht hvm hw hB hz hk hS => ?_)
  rw [hB.1]
  exact kk u H1 locs1 hw ⟨by rw [← ht]; exact hB.2, hS⟩
theorem cC_copy  (hx : p.tables.exec = Jvm.exec) (hb : c.code = cc) (hml : c.maxLocals = ls.size) (hown : s.vm.findClass own = some m.cls) (hlink : (Cond.methodLink own index arraycopyName).before args s = true) (hnat : (Cond.native arraycopyName).before args s = true) (hstat : (Cond.static arraycopyName).before args s = true) (hini : (Cond.initialized "java/lang/System").before args s = true) (hK : va_K Γ.1 vwCl (ft_ty Γ) s) (hI : cC_I Γ) (hP : cC_P Γ s σ H locs) {k0 : Nat} (hk0 : cC_K k0 = 12) (hk : cC_K k = 12) {N0 N1 : Nat} (hN0 : cC_N k0 = N0) (hN1 : cC_N k = N1) {sp dp n : Int32} (h1 : ¬ sp < 0) (h2 : ¬ dp < 0) (h3 : ¬ n < 0) (h4 : sp.toNatClampNeg + n.toNatClampNeg ≤ N0) (h5 : dp.toNatClampNeg + n.toNatClampNeg ≤ N1) (hframes : 1 ≤ R.frames) (hlocals : (rest.map fun v => v.category).sum + (nativeFrameWords "java/lang/System" "arraycopy" 5 + 11) ≤ R.locals) (hdg : decode cc pc = .ok (.invokestatic index, 3)) (kk : ∀ (H1 : Heap) (locs1 : List Loc), cC_P Γ s (ft_sA σ k (va_cpy (σ.2.1 k0) (σ.2.1 k) sp.toNatClampNeg dp.toNatClampNeg n.toNatClampNeg)) H1 locs1 → W p l e R s m args below meth c H1 locs1 cells slots Q (F0 m (pc + 3) ls rest)) : W p l e R s m args below meth c H locs cells slots Q (F0 m pc ls (.int n :: .int dp :: .ref (Γ.2.2 k) :: .int sp :: .ref (Γ.2.2 k0) :: rest)) := by
  subst hN0 hN1
  have hD : va_D (ft_A 80 Γ.2.2) (ft_W 80 Γ.2.2 (cC_E Γ σ)) := ft_W_D hI
  refine va_copyi (ty := .int) hx hb hml hown hlink hnat hstat hini hK hP.1 hD hP.2 k0 k 1 1 ((ft_W_get (cC_lt hk0 (by decide))).trans (by rw [cC_E12 hk0])) ((ft_W_get (cC_lt hk (by decide))).trans (by rw [cC_E12 hk])) rfl rfl rfl h1 h2 h3 h4 h5 (fun i _ => rfl) hframes hlocals hdg (fun H1 locs1 hP1 _ hS1 => ?_)
  rw [ft_W_set (E' := cC_E Γ (ft_sA σ k (va_cpy (σ.2.1 k0) (σ.2.1 k) sp.toNatClampNeg dp.toNatClampNeg n.toNatClampNeg))) ((cC_E12 hk).trans (by simp [ft_sA])) (cC_E_sA Γ σ k _)] at hP1
  exact kk H1 locs1 ⟨hP1, hS1⟩
theorem cC_ri {v : Int32} {Φ : Int32 → ft_St → Prop} (hP : cC_P Γ s σ H locs) (hw : Φ v σ) : ∀ t : State, t.heap = H → s.WarmedH t.vm → va_Qi Φ (cC_Q Γ) (ft_A 80 Γ.2.2) args s (.returned (some (.int v))) t := fun t ht _ => ⟨⟨v, σ, rfl, hw, by unfold cC_Q; rw [ht]; exact hP.1⟩, hP.2.F ht⟩
theorem cC_rl {v : Int64} {Φ : Int64 → ft_St → Prop} (hP : cC_P Γ s σ H locs) (hw : Φ v σ) : ∀ t : State, t.heap = H → s.WarmedH t.vm → va_Ql Φ (cC_Q Γ) (ft_A 80 Γ.2.2) args s (.returned (some (.long v))) t := fun t ht _ => ⟨⟨v, σ, rfl, hw, by unfold cC_Q; rw [ht]; exact hP.1⟩, hP.2.F ht⟩
theorem cC_rv {Φ : ft_St → Prop} (hP : cC_P Γ s σ H locs) (hw : Φ σ) : ∀ t : State, t.heap = H → s.WarmedH t.vm → va_Qv Φ (cC_Q Γ) (ft_A 80 Γ.2.2) args s (.returned none) t := fun t ht _ => ⟨⟨σ, rfl, hw, by unfold cC_Q; rw [ht]; exact hP.1⟩, hP.2.F ht⟩
theorem cC_rr {Φ : ft_St → Prop} (hP : cC_P Γ s σ H locs) (hw : Φ σ) : ∀ t : State, t.heap = H → s.WarmedH t.vm → va_Qr Φ (fun u a t => a = Γ.2.2 k ∧ cC_Q Γ u t) (ft_A 80 Γ.2.2) args s (.returned (some (.ref (Γ.2.2 k)))) t := fun t ht _ => ⟨⟨σ, Γ.2.2 k, rfl, hw, rfl, by unfold cC_Q; rw [ht]; exact hP.1⟩, hP.2.F ht⟩
end FTCC
theorem hC_0 : cC_K 0 = 9 := rfl
theorem hC_1 : cC_K 1 = 4 := rfl
theorem hC_2 : cC_K 2 = 1 := rfl
theorem hC_3 : cC_K 3 = 12 := rfl
theorem mC_3 : cC_N 3 = 24 := rfl
theorem hC_4 : cC_K 4 = 12 := rfl
theorem mC_4 : cC_N 4 = 24 := rfl
theorem hC_5 : cC_K 5 = 12 := rfl
theorem mC_5 : cC_N 5 = 24 := rfl
theorem hC_6 : cC_K 6 = 8 := rfl
theorem hC_7 : cC_K 7 = 12 := rfl
theorem mC_7 : cC_N 7 = 8 := rfl
theorem hC_8 : cC_K 8 = 0 := rfl
theorem hC_9 : cC_K 9 = 14 := rfl
theorem mC_9 : cC_N 9 = 6 := rfl
theorem hC_10 : cC_K 10 = 4 := rfl
theorem hC_11 : cC_K 11 = 1 := rfl
theorem hC_12 : cC_K 12 = 12 := rfl
theorem mC_12 : cC_N 12 = 24 := rfl
theorem hC_13 : cC_K 13 = 12 := rfl
theorem mC_13 : cC_N 13 = 24 := rfl
theorem hC_14 : cC_K 14 = 12 := rfl
theorem mC_14 : cC_N 14 = 24 := rfl
theorem hC_15 : cC_K 15 = 8 := rfl
theorem hC_16 : cC_K 16 = 12 := rfl
theorem mC_16 : cC_N 16 = 8 := rfl
theorem hC_17 : cC_K 17 = 4 := rfl
theorem hC_18 : cC_K 18 = 1 := rfl
theorem hC_19 : cC_K 19 = 12 := rfl
theorem mC_19 : cC_N 19 = 24 := rfl
theorem hC_20 : cC_K 20 = 12 := rfl
theorem mC_20 : cC_N 20 = 24 := rfl
theorem hC_21 : cC_K 21 = 12 := rfl
theorem mC_21 : cC_N 21 = 24 := rfl
theorem hC_22 : cC_K 22 = 8 := rfl
theorem hC_23 : cC_K 23 = 12 := rfl
theorem mC_23 : cC_N 23 = 8 := rfl
theorem hC_24 : cC_K 24 = 4 := rfl
theorem hC_25 : cC_K 25 = 1 := rfl
theorem hC_26 : cC_K 26 = 12 := rfl
theorem mC_26 : cC_N 26 = 24 := rfl
theorem hC_27 : cC_K 27 = 12 := rfl
theorem mC_27 : cC_N 27 = 24 := rfl
theorem hC_28 : cC_K 28 = 12 := rfl
theorem mC_28 : cC_N 28 = 24 := rfl
theorem hC_29 : cC_K 29 = 8 := rfl
theorem hC_30 : cC_K 30 = 12 := rfl
theorem mC_30 : cC_N 30 = 8 := rfl
theorem hC_31 : cC_K 31 = 4 := rfl
theorem hC_32 : cC_K 32 = 1 := rfl
theorem hC_33 : cC_K 33 = 12 := rfl
theorem mC_33 : cC_N 33 = 24 := rfl
theorem hC_34 : cC_K 34 = 12 := rfl
theorem mC_34 : cC_N 34 = 24 := rfl
theorem hC_35 : cC_K 35 = 12 := rfl
theorem mC_35 : cC_N 35 = 24 := rfl
theorem hC_36 : cC_K 36 = 8 := rfl
theorem hC_37 : cC_K 37 = 12 := rfl
theorem mC_37 : cC_N 37 = 8 := rfl
theorem hC_38 : cC_K 38 = 4 := rfl
theorem hC_39 : cC_K 39 = 1 := rfl
theorem hC_40 : cC_K 40 = 12 := rfl
theorem mC_40 : cC_N 40 = 24 := rfl
theorem hC_41 : cC_K 41 = 12 := rfl
theorem mC_41 : cC_N 41 = 24 := rfl
theorem hC_42 : cC_K 42 = 12 := rfl
theorem mC_42 : cC_N 42 = 24 := rfl
theorem hC_43 : cC_K 43 = 8 := rfl
theorem hC_44 : cC_K 44 = 12 := rfl
theorem mC_44 : cC_N 44 = 8 := rfl
theorem hC_45 : cC_K 45 = 4 := rfl
theorem hC_46 : cC_K 46 = 1 := rfl
theorem hC_47 : cC_K 47 = 12 := rfl
theorem mC_47 : cC_N 47 = 24 := rfl
theorem hC_48 : cC_K 48 = 12 := rfl
theorem mC_48 : cC_N 48 = 24 := rfl
theorem hC_49 : cC_K 49 = 12 := rfl
theorem mC_49 : cC_N 49 = 24 := rfl
theorem hC_50 : cC_K 50 = 8 := rfl
theorem hC_51 : cC_K 51 = 12 := rfl
theorem mC_51 : cC_N 51 = 8 := rfl
theorem hC_52 : cC_K 52 = 7 := rfl
theorem hC_53 : cC_K 53 = 12 := rfl
theorem mC_53 : cC_N 53 = 20 := rfl
theorem hC_54 : cC_K 54 = 12 := rfl
theorem mC_54 : cC_N 54 = 160 := rfl
theorem hC_55 : cC_K 55 = 3 := rfl
theorem hC_56 : cC_K 56 = 12 := rfl
theorem mC_56 : cC_N 56 = 500 := rfl
theorem hC_57 : cC_K 57 = 12 := rfl
theorem mC_57 : cC_N 57 = 500 := rfl
theorem hC_58 : cC_K 58 = 12 := rfl
theorem mC_58 : cC_N 58 = 1024 := rfl
theorem hC_59 : cC_K 59 = 6 := rfl
theorem hC_60 : cC_K 60 = 12 := rfl
theorem mC_60 : cC_N 60 = 10 := rfl
theorem hC_61 : cC_K 61 = 12 := rfl
theorem mC_61 : cC_N 61 = 80 := rfl
theorem hC_62 : cC_K 62 = 12 := rfl
theorem mC_62 : cC_N 62 = 20 := rfl
theorem hC_63 : cC_K 63 = 12 := rfl
theorem mC_63 : cC_N 63 = 10 := rfl
theorem hC_64 : cC_K 64 = 12 := rfl
theorem mC_64 : cC_N 64 = 10 := rfl
theorem hC_65 : cC_K 65 = 12 := rfl
theorem mC_65 : cC_N 65 = 10 := rfl
theorem hC_66 : cC_K 66 = 6 := rfl
theorem hC_67 : cC_K 67 = 12 := rfl
theorem mC_67 : cC_N 67 = 10 := rfl
theorem hC_68 : cC_K 68 = 12 := rfl
theorem mC_68 : cC_N 68 = 80 := rfl
theorem hC_69 : cC_K 69 = 12 := rfl
theorem mC_69 : cC_N 69 = 20 := rfl
theorem hC_70 : cC_K 70 = 12 := rfl
theorem mC_70 : cC_N 70 = 10 := rfl
theorem hC_71 : cC_K 71 = 12 := rfl
theorem mC_71 : cC_N 71 = 10 := rfl
theorem hC_72 : cC_K 72 = 12 := rfl
theorem mC_72 : cC_N 72 = 10 := rfl
theorem hC_73 : cC_K 73 = 5 := rfl
theorem hC_74 : cC_K 74 = 11 := rfl
theorem mC_74 : cC_N 74 = 120 := rfl
theorem hC_75 : cC_K 75 = 2 := rfl
theorem hC_76 : cC_K 76 = 1 := rfl
theorem hC_77 : cC_K 77 = 12 := rfl
theorem mC_77 : cC_N 77 = 24 := rfl
theorem hC_78 : cC_K 78 = 12 := rfl
theorem mC_78 : cC_N 78 = 24 := rfl
theorem hC_79 : cC_K 79 = 12 := rfl
theorem mC_79 : cC_N 79 = 24 := rfl
abbrev cC_Mip (l : Launch) (y : MethodName) (ws : List Cond) (rm : Room) (Γ : ft_G) (σ : ft_St) (av : List Value) (Φ : Int32 → Prop) : Prop := cC_Mi l y ws rm Γ σ av (fun r u => u = σ ∧ Φ r)
abbrev cC_Mlp (l : Launch) (y : MethodName) (ws : List Cond) (rm : Room) (Γ : ft_G) (σ : ft_St) (av : List Value) (Φ : Int64 → Prop) : Prop := cC_Ml l y ws rm Γ σ av (fun r u => u = σ ∧ Φ r)
abbrev cC_Wi (p : Program) (l : Launch) (e : Env) (rm : Room) (s : State) (m : MethodId) (av : List Value) (below : List Frame) (meth : Method) (c : Code) (Γ : ft_G) (Φ : Int32 → ft_St → Prop) (H : Heap) (locs : List Loc) (pc : Nat) (ls : Array Slot) (st : List Value) : Prop := W p l e rm s m av.toArray below meth c H locs 0 0 (MQ below (va_Qi Φ (cC_Q Γ) (ft_A 80 Γ.2.2)) av.toArray s 0 0 (ft_A 80 Γ.2.2)) (F0 m pc ls st)
abbrev cC_Wl (p : Program) (l : Launch) (e : Env) (rm : Room) (s : State) (m : MethodId) (av : List Value) (below : List Frame) (meth : Method) (c : Code) (Γ : ft_G) (Φ : Int64 → ft_St → Prop) (H : Heap) (locs : List Loc) (pc : Nat) (ls : Array Slot) (st : List Value) : Prop := W p l e rm s m av.toArray below meth c H locs 0 0 (MQ below (va_Ql Φ (cC_Q Γ) (ft_A 80 Γ.2.2)) av.toArray s 0 0 (ft_A 80 Γ.2.2)) (F0 m pc ls st)
abbrev cC_Wv (p : Program) (l : Launch) (e : Env) (rm : Room) (s : State) (m : MethodId) (av : List Value) (below : List Frame) (meth : Method) (c : Code) (Γ : ft_G) (Φ : ft_St → Prop) (H : Heap) (locs : List Loc) (pc : Nat) (ls : Array Slot) (st : List Value) : Prop := W p l e rm s m av.toArray below meth c H locs 0 0 (MQ below (va_Qv Φ (cC_Q Γ) (ft_A 80 Γ.2.2)) av.toArray s 0 0 (ft_A 80 Γ.2.2)) (F0 m pc ls st)
abbrev cC_Wr (p : Program) (l : Launch) (e : Env) (rm : Room) (s : State) (m : MethodId) (av : List Value) (below : List Frame) (meth : Method) (c : Code) (Γ : ft_G) (kr : Nat) (Φ : ft_St → Prop) (H : Heap) (locs : List Loc) (pc : Nat) (ls : Array Slot) (st : List Value) : Prop := W p l e rm s m av.toArray below meth c H locs 0 0 (MQ below (va_Qr Φ (fun u a t => a = Γ.2.2 kr ∧ cC_Q Γ u t) (ft_A 80 Γ.2.2)) av.toArray s 0 0 (ft_A 80 Γ.2.2)) (F0 m pc ls st)
/-! ===== the R pool ===== -/
def cR_K (k : Nat) : Nat := ([10, 12, 12, 12, 12, 12, 12, 12, 12, 12, 13, 13, 13, 13, 12, 12] : List Nat).getD k 99
def cR_N (k : Nat) : Nat := ([0, 3, 24, 24, 24, 8, 510, 500, 500, 200, 100, 100, 100, 100, 100, 120] : List Nat).getD k 0
def cR_E (Γ : ft_G) (σ : ft_St) (k : Nat) : va_E :=
  if cR_K k = 12 then .inl (Γ.2.1.2.1, cR_N k, .inl (σ.2.1 k)) else
  if cR_K k = 13 then .inl (Γ.2.1.2.2.1, cR_N k, .inr (.inl (σ.2.2 k))) else
  if cR_K k = 10 then .inr (10, [.ref (Γ.2.2 1), .int (σ.1 k 1), .ref (Γ.2.2 2), .ref (Γ.2.2 3), .ref (Γ.2.2 4), .int (σ.1 k 5), .int (σ.1 k 6), .int (σ.1 k 7), .int (σ.1 k 8), .ref (Γ.2.2 5), .int (σ.1 k 10), .ref (Γ.2.2 6), .int (σ.1 k 12), .ref (Γ.2.2 7), .ref (Γ.2.2 8), .ref (Γ.2.2 9), .ref (Γ.2.2 10), .ref (Γ.2.2 11), .ref (Γ.2.2 12), .ref (Γ.2.2 13), .ref (Γ.2.2 14), .ref (Γ.2.2 15), .int (σ.1 k 22), .int (σ.1 k 23), .int (σ.1 k 24)]) else
  .inr (99, [])
theorem cR_E12 {Γ : ft_G} {σ : ft_St} {k : Nat} (h : cR_K k = 12) : cR_E Γ σ k = .inl (Γ.2.1.2.1, cR_N k, .inl (σ.2.1 k)) := by simp [cR_E, h]
theorem cR_E13 {Γ : ft_G} {σ : ft_St} {k : Nat} (h : cR_K k = 13) : cR_E Γ σ k = .inl (Γ.2.1.2.2.1, cR_N k, .inr (.inl (σ.2.2 k))) := by simp [cR_E, h]
theorem cR_E10 {Γ : ft_G} {σ : ft_St} {k : Nat} (h : cR_K k = 10) : cR_E Γ σ k = .inr (10, [.ref (Γ.2.2 1), .int (σ.1 k 1), .ref (Γ.2.2 2), .ref (Γ.2.2 3), .ref (Γ.2.2 4), .int (σ.1 k 5), .int (σ.1 k 6), .int (σ.1 k 7), .int (σ.1 k 8), .ref (Γ.2.2 5), .int (σ.1 k 10), .ref (Γ.2.2 6), .int (σ.1 k 12), .ref (Γ.2.2 7), .ref (Γ.2.2 8), .ref (Γ.2.2 9), .ref (Γ.2.2 10), .ref (Γ.2.2 11), .ref (Γ.2.2 12), .ref (Γ.2.2 13), .ref (Γ.2.2 14), .ref (Γ.2.2 15), .int (σ.1 k 22), .int (σ.1 k 23), .int (σ.1 k 24)]) := by simp [cR_E, h]
theorem cR_lt {k x : Nat} (h : cR_K k = x) (hx : x < 99) : k < 16 := by
  rcases Nat.lt_or_ge k 16 with q | q
  · exact q
  · have h2 : cR_K k = 99 := by
      unfold cR_K
      rw [List.getD_eq_getElem?_getD, List.getElem?_eq_none (by simpa using q)]
      rfl
    omega
theorem cR_E_sF (Γ : ft_G) (σ : ft_St) (k j : Nat) (v : Int32) (i : Nat) (h : i ≠ k) : cR_E Γ (ft_sF σ k j v) i = cR_E Γ σ i := by simp [cR_E, ft_sF, h]
theorem cR_E_sA (Γ : ft_G) (σ : ft_St) (k : Nat) (f : Nat → Int32) (i : Nat) (h : i ≠ k) : cR_E Γ (ft_sA σ k f) i = cR_E Γ σ i := by simp [cR_E, ft_sA, h]
theorem cR_E_sL (Γ : ft_G) (σ : ft_St) (k : Nat) (f : Nat → Int64) (i : Nat) (h : i ≠ k) : cR_E Γ (ft_sL σ k f) i = cR_E Γ σ i := by simp [cR_E, ft_sL, h]
theorem tR_10_0 {k : Nat} (h : cR_K k = 10) : cR_K 1 = 12 := by
  decide
theorem nR_10_0 {k : Nat} (h : cR_K k = 10) : cR_N 1 = 3 := by
  decide
theorem tR_10_2 {k : Nat} (h : cR_K k = 10) : cR_K 2 = 12 := by
  decide
theorem nR_10_2 {k : Nat} (h : cR_K k = 10) : cR_N 2 = 24 := by
  decide
theorem tR_10_3 {k : Nat} (h : cR_K k = 10) : cR_K 3 = 12 := by
  decide
theorem nR_10_3 {k : Nat} (h : cR_K k = 10) : cR_N 3 = 24 := by
  decide
theorem tR_10_4 {k : Nat} (h : cR_K k = 10) : cR_K 4 = 12 := by
  decide
theorem nR_10_4 {k : Nat} (h : cR_K k = 10) : cR_N 4 = 24 := by
  decide
theorem tR_10_9 {k : Nat} (h : cR_K k = 10) : cR_K 5 = 12 := by
  decide
theorem nR_10_9 {k : Nat} (h : cR_K k = 10) : cR_N 5 = 8 := by
  decide
theorem tR_10_11 {k : Nat} (h : cR_K k = 10) : cR_K 6 = 12 := by
  decide
theorem nR_10_11 {k : Nat} (h : cR_K k = 10) : cR_N 6 = 510 := by
  decide
theorem tR_10_13 {k : Nat} (h : cR_K k = 10) : cR_K 7 = 12 := by
  decide
theorem nR_10_13 {k : Nat} (h : cR_K k = 10) : cR_N 7 = 500 := by
  decide
theorem tR_10_14 {k : Nat} (h : cR_K k = 10) : cR_K 8 = 12 := by
  decide
theorem nR_10_14 {k : Nat} (h : cR_K k = 10) : cR_N 8 = 500 := by
  decide
theorem tR_10_15 {k : Nat} (h : cR_K k = 10) : cR_K 9 = 12 := by
  decide
theorem nR_10_15 {k : Nat} (h : cR_K k = 10) : cR_N 9 = 200 := by
  decide
theorem tR_10_16 {k : Nat} (h : cR_K k = 10) : cR_K 10 = 13 := by
  decide
theorem nR_10_16 {k : Nat} (h : cR_K k = 10) : cR_N 10 = 100 := by
  decide
theorem tR_10_17 {k : Nat} (h : cR_K k = 10) : cR_K 11 = 13 := by
  decide
theorem nR_10_17 {k : Nat} (h : cR_K k = 10) : cR_N 11 = 100 := by
  decide
theorem tR_10_18 {k : Nat} (h : cR_K k = 10) : cR_K 12 = 13 := by
  decide
theorem nR_10_18 {k : Nat} (h : cR_K k = 10) : cR_N 12 = 100 := by
  decide
theorem tR_10_19 {k : Nat} (h : cR_K k = 10) : cR_K 13 = 13 := by
  decide
theorem nR_10_19 {k : Nat} (h : cR_K k = 10) : cR_N 13 = 100 := by
  decide
theorem tR_10_20 {k : Nat} (h : cR_K k = 10) : cR_K 14 = 12 := by
  decide
theorem nR_10_20 {k : Nat} (h : cR_K k = 10) : cR_N 14 = 100 := by
  decide
theorem tR_10_21 {k : Nat} (h : cR_K k = 10) : cR_K 15 = 12 := by
  decide
theorem nR_10_21 {k : Nat} (h : cR_K k = 10) : cR_N 15 = 120 := by
  decide
def cR_P (Γ : ft_G) (s : State) (σ : ft_St) (H : Heap) (locs : List Loc) : Prop := va_P Γ.1 vwCl (ft_W 16 Γ.2.2 (cR_E Γ σ)) H ∧ va_S (ft_A 16 Γ.2.2) s.heap H locs
def cR_I (Γ : ft_G) : Prop := ft_I 16 Γ.2.2
section FTPR
variable {p : Program} {l : Launch} {e : Env} {R : Room} {s : State} {m : MethodId} {args : Array Value} {below : List Frame} {meth : Method} {c : Code} {H : Heap} {locs : List Loc} {cells slots : Nat} {Q : State → Prop}
variable {cc : ByteArray} {pc : Nat} {ls : Array Slot} {rest : List Value} {Γ : ft_G} {σ : ft_St} {k : Nat} {own : String} {index : Nat} {Ts : List Cond}
theorem gR_10_0 (hx : p.tables.exec = Jvm.exec) (hb : c.code = cc) (hts : ∀ w ∈ Ts, w.before args s = true) (hin : ∀ w ∈ wsX100, w ∈ Ts) (hown : s.vm.findClass own = some m.cls) (hK : va_K Γ.1 vwCl (ft_ty Γ) s) (hP : cR_P Γ s σ H locs) (hk : cR_K k = 10) (hlink : (Cond.fieldLink own index "FaultTwinsModel" "refused" "[I").before args s = true) (hdg : decode cc pc = .ok (.getfield index, 3)) (kk : W p l e R s m args below meth c H locs cells slots Q (F0 m (pc + 3) ls (.ref (Γ.2.2 1) :: rest))) : W p l e R s m args below meth c H locs cells slots Q (F0 m pc ls (.ref (Γ.2.2 k) :: rest)) := ft_get hx hb hts hin hown hK hP.1 (cR_lt hk (by decide)) (cR_E10 hk) rfl 0 (by decide) hlink rfl rfl hdg kk
theorem gR_10_1 (hx : p.tables.exec = Jvm.exec) (hb : c.code = cc) (hts : ∀ w ∈ Ts, w.before args s = true) (hin : ∀ w ∈ wsX100, w ∈ Ts) (hown : s.vm.findClass own = some m.cls) (hK : va_K Γ.1 vwCl (ft_ty Γ) s) (hP : cR_P Γ s σ H locs) (hk : cR_K k = 10) (hlink : (Cond.fieldLink own index "FaultTwinsModel" "many" "I").before args s = true) (hdg : decode cc pc = .ok (.getfield index, 3)) (kk : W p l e R s m args below meth c H locs cells slots Q (F0 m (pc + 3) ls (.int (σ.1 k 1) :: rest))) : W p l e R s m args below meth c H locs cells slots Q (F0 m pc ls (.ref (Γ.2.2 k) :: rest)) := ft_get hx hb hts hin hown hK hP.1 (cR_lt hk (by decide)) (cR_E10 hk) rfl 1 (by decide) hlink rfl rfl hdg kk
theorem pR_10_1 {v : Int32} (hx : p.tables.exec = Jvm.exec) (hb : c.code = cc) (hts : ∀ w ∈ Ts, w.before args s = true) (hin : ∀ w ∈ wsX100, w ∈ Ts) (hown : s.vm.findClass own = some m.cls) (hK : va_K Γ.1 vwCl (ft_ty Γ) s) (hI : cR_I Γ) (hP : cR_P Γ s σ H locs) (hk : cR_K k = 10) (hlink : (Cond.fieldLink own index "FaultTwinsModel" "many" "I").before args s = true) (hdg : decode cc pc = .ok (.putfield index, 3)) (kk : ∀ (H1 : Heap) (locs1 : List Loc), cR_P Γ s (ft_sF σ k 1 v) H1 locs1 → W p l e R s m args below meth c H1 locs1 cells slots Q (F0 m (pc + 3) ls rest)) : W p l e R s m args below meth c H locs cells slots Q (F0 m pc ls (.int v :: .ref (Γ.2.2 k) :: rest)) := ft_put (ty := .int) hx hb hts hin tyX10 tyX10_ok nmX10 hown hK hI hP.1 hP.2 (cR_lt hk (by decide)) (cR_E10 hk) rfl 1 (by decide) hlink rfl rfl (by decide +kernel) rfl rfl (Nat.le_of_ble_eq_true rfl) ((cR_E10 hk).trans (by simp [ft_sF])) (cR_E_sF Γ σ k 1 v) hdg (fun H1 locs1 a b => kk H1 locs1 ⟨a, b⟩)
theorem gR_10_2 (hx : p.tables.exec = Jvm.exec) (hb : c.code = cc) (hts : ∀ w ∈ Ts, w.before args s = true) (hin : ∀ w ∈ wsX100, w ∈ Ts) (hown : s.vm.findClass own = some m.cls) (hK : va_K Γ.1 vwCl (ft_ty Γ) s) (hP : cR_P Γ s σ H locs) (hk : cR_K k = 10) (hlink : (Cond.fieldLink own index "FaultTwinsModel" "from" "[I").before args s = true) (hdg : decode cc pc = .ok (.getfield index, 3)) (kk : W p l e R s m args below meth c H locs cells slots Q (F0 m (pc + 3) ls (.ref (Γ.2.2 2) :: rest))) : W p l e R s m args below meth c H locs cells slots Q (F0 m pc ls (.ref (Γ.2.2 k) :: rest)) := ft_get hx hb hts hin hown hK hP.1 (cR_lt hk (by decide)) (cR_E10 hk) rfl 2 (by decide) hlink rfl rfl hdg kk
theorem gR_10_3 (hx : p.tables.exec = Jvm.exec) (hb : c.code = cc) (hts : ∀ w ∈ Ts, w.before args s = true) (hin : ∀ w ∈ wsX100, w ∈ Ts) (hown : s.vm.findClass own = some m.cls) (hK : va_K Γ.1 vwCl (ft_ty Γ) s) (hP : cR_P Γ s σ H locs) (hk : cR_K k = 10) (hlink : (Cond.fieldLink own index "FaultTwinsModel" "by" "[I").before args s = true) (hdg : decode cc pc = .ok (.getfield index, 3)) (kk : W p l e R s m args below meth c H locs cells slots Q (F0 m (pc + 3) ls (.ref (Γ.2.2 3) :: rest))) : W p l e R s m args below meth c H locs cells slots Q (F0 m pc ls (.ref (Γ.2.2 k) :: rest)) := ft_get hx hb hts hin hown hK hP.1 (cR_lt hk (by decide)) (cR_E10 hk) rfl 3 (by decide) hlink rfl rfl hdg kk
theorem gR_10_4 (hx : p.tables.exec = Jvm.exec) (hb : c.code = cc) (hts : ∀ w ∈ Ts, w.before args s = true) (hin : ∀ w ∈ wsX100, w ∈ Ts) (hown : s.vm.findClass own = some m.cls) (hK : va_K Γ.1 vwCl (ft_ty Γ) s) (hP : cR_P Γ s σ H locs) (hk : cR_K k = 10) (hlink : (Cond.fieldLink own index "FaultTwinsModel" "to" "[I").before args s = true) (hdg : decode cc pc = .ok (.getfield index, 3)) (kk : W p l e R s m args below meth c H locs cells slots Q (F0 m (pc + 3) ls (.ref (Γ.2.2 4) :: rest))) : W p l e R s m args below meth c H locs cells slots Q (F0 m pc ls (.ref (Γ.2.2 k) :: rest)) := ft_get hx hb hts hin hown hK hP.1 (cR_lt hk (by decide)) (cR_E10 hk) rfl 4 (by decide) hlink rfl rfl hdg kk
theorem gR_10_5 (hx : p.tables.exec = Jvm.exec) (hb : c.code = cc) (hts : ∀ w ∈ Ts, w.before args s = true) (hin : ∀ w ∈ wsX100, w ∈ Ts) (hown : s.vm.findClass own = some m.cls) (hK : va_K Γ.1 vwCl (ft_ty Γ) s) (hP : cR_P Γ s σ H locs) (hk : cR_K k = 10) (hlink : (Cond.fieldLink own index "FaultTwinsModel" "seen" "I").before args s = true) (hdg : decode cc pc = .ok (.getfield index, 3)) (kk : W p l e R s m args below meth c H locs cells slots Q (F0 m (pc + 3) ls (.int (σ.1 k 5) :: rest))) : W p l e R s m args below meth c H locs cells slots Q (F0 m pc ls (.ref (Γ.2.2 k) :: rest)) := ft_get hx hb hts hin hown hK hP.1 (cR_lt hk (by decide)) (cR_E10 hk) rfl 5 (by decide) hlink rfl rfl hdg kk
theorem pR_10_5 {v : Int32} (hx : p.tables.exec = Jvm.exec) (hb : c.code = cc) (hts : ∀ w ∈ Ts, w.before args s = true) (hin : ∀ w ∈ wsX100, w ∈ Ts) (hown : s.vm.findClass own = some m.cls) (hK : va_K Γ.1 vwCl (ft_ty Γ) s) (hI : cR_I Γ) (hP : cR_P Γ s σ H locs) (hk : cR_K k = 10) (hlink : (Cond.fieldLink own index "FaultTwinsModel" "seen" "I").before args s = true) (hdg : decode cc pc = .ok (.putfield index, 3)) (kk : ∀ (H1 : Heap) (locs1 : List Loc), cR_P Γ s (ft_sF σ k 5 v) H1 locs1 → W p l e R s m args below meth c H1 locs1 cells slots Q (F0 m (pc + 3) ls rest)) : W p l e R s m args below meth c H locs cells slots Q (F0 m pc ls (.int v :: .ref (Γ.2.2 k) :: rest)) := ft_put (ty := .int) hx hb hts hin tyX10 tyX10_ok nmX10 hown hK hI hP.1 hP.2 (cR_lt hk (by decide)) (cR_E10 hk) rfl 5 (by decide) hlink rfl rfl (by decide +kernel) rfl rfl (Nat.le_of_ble_eq_true rfl) ((cR_E10 hk).trans (by simp [ft_sF])) (cR_E_sF Γ σ k 5 v) hdg (fun H1 locs1 a b => kk H1 locs1 ⟨a, b⟩)
theorem gR_10_6 (hx : p.tables.exec = Jvm.exec) (hb : c.code = cc) (hts : ∀ w ∈ Ts, w.before args s = true) (hin : ∀ w ∈ wsX100, w ∈ Ts) (hown : s.vm.findClass own = some m.cls) (hK : va_K Γ.1 vwCl (ft_ty Γ) s) (hP : cR_P Γ s σ H locs) (hk : cR_K k = 10) (hlink : (Cond.fieldLink own index "FaultTwinsModel" "faults" "I").before args s = true) (hdg : decode cc pc = .ok (.getfield index, 3)) (kk : W p l e R s m args below meth c H locs cells slots Q (F0 m (pc + 3) ls (.int (σ.1 k 6) :: rest))) : W p l e R s m args below meth c H locs cells slots Q (F0 m pc ls (.ref (Γ.2.2 k) :: rest)) := ft_get hx hb hts hin hown hK hP.1 (cR_lt hk (by decide)) (cR_E10 hk) rfl 6 (by decide) hlink rfl rfl hdg kk
theorem pR_10_6 {v : Int32} (hx : p.tables.exec = Jvm.exec) (hb : c.code = cc) (hts : ∀ w ∈ Ts, w.before args s = true) (hin : ∀ w ∈ wsX100, w ∈ Ts) (hown : s.vm.findClass own = some m.cls) (hK : va_K Γ.1 vwCl (ft_ty Γ) s) (hI : cR_I Γ) (hP : cR_P Γ s σ H locs) (hk : cR_K k = 10) (hlink : (Cond.fieldLink own index "FaultTwinsModel" "faults" "I").before args s = true) (hdg : decode cc pc = .ok (.putfield index, 3)) (kk : ∀ (H1 : Heap) (locs1 : List Loc), cR_P Γ s (ft_sF σ k 6 v) H1 locs1 → W p l e R s m args below meth c H1 locs1 cells slots Q (F0 m (pc + 3) ls rest)) : W p l e R s m args below meth c H locs cells slots Q (F0 m pc ls (.int v :: .ref (Γ.2.2 k) :: rest)) := ft_put (ty := .int) hx hb hts hin tyX10 tyX10_ok nmX10 hown hK hI hP.1 hP.2 (cR_lt hk (by decide)) (cR_E10 hk) rfl 6 (by decide) hlink rfl rfl (by decide +kernel) rfl rfl (Nat.le_of_ble_eq_true rfl) ((cR_E10 hk).trans (by simp [ft_sF])) (cR_E_sF Γ σ k 6 v) hdg (fun H1 locs1 a b => kk H1 locs1 ⟨a, b⟩)
theorem gR_10_7 (hx : p.tables.exec = Jvm.exec) (hb : c.code = cc) (hts : ∀ w ∈ Ts, w.before args s = true) (hin : ∀ w ∈ wsX100, w ∈ Ts) (hown : s.vm.findClass own = some m.cls) (hK : va_K Γ.1 vwCl (ft_ty Γ) s) (hP : cR_P Γ s σ H locs) (hk : cR_K k = 10) (hlink : (Cond.fieldLink own index "FaultTwinsModel" "known" "I").before args s = true) (hdg : decode cc pc = .ok (.getfield index, 3)) (kk : W p l e R s m args below meth c H locs cells slots Q (F0 m (pc + 3) ls (.int (σ.1 k 7) :: rest))) : W p l e R s m args below meth c H locs cells slots Q (F0 m pc ls (.ref (Γ.2.2 k) :: rest)) := ft_get hx hb hts hin hown hK hP.1 (cR_lt hk (by decide)) (cR_E10 hk) rfl 7 (by decide) hlink rfl rfl hdg kk
theorem pR_10_7 {v : Int32} (hx : p.tables.exec = Jvm.exec) (hb : c.code = cc) (hts : ∀ w ∈ Ts, w.before args s = true) (hin : ∀ w ∈ wsX100, w ∈ Ts) (hown : s.vm.findClass own = some m.cls) (hK : va_K Γ.1 vwCl (ft_ty Γ) s) (hI : cR_I Γ) (hP : cR_P Γ s σ H locs) (hk : cR_K k = 10) (hlink : (Cond.fieldLink own index "FaultTwinsModel" "known" "I").before args s = true) (hdg : decode cc pc = .ok (.putfield index, 3)) (kk : ∀ (H1 : Heap) (locs1 : List Loc), cR_P Γ s (ft_sF σ k 7 v) H1 locs1 → W p l e R s m args below meth c H1 locs1 cells slots Q (F0 m (pc + 3) ls rest)) : W p l e R s m args below meth c H locs cells slots Q (F0 m pc ls (.int v :: .ref (Γ.2.2 k) :: rest)) := ft_put (ty := .int) hx hb hts hin tyX10 tyX10_ok nmX10 hown hK hI hP.1 hP.2 (cR_lt hk (by decide)) (cR_E10 hk) rfl 7 (by decide) hlink rfl rfl (by decide +kernel) rfl rfl (Nat.le_of_ble_eq_true rfl) ((cR_E10 hk).trans (by simp [ft_sF])) (cR_E_sF Γ σ k 7 v) hdg (fun H1 locs1 a b => kk H1 locs1 ⟨a, b⟩)
theorem gR_10_8 (hx : p.tables.exec = Jvm.exec) (hb : c.code = cc) (hts : ∀ w ∈ Ts, w.before args s = true) (hin : ∀ w ∈ wsX100, w ∈ Ts) (hown : s.vm.findClass own = some m.cls) (hK : va_K Γ.1 vwCl (ft_ty Γ) s) (hP : cR_P Γ s σ H locs) (hk : cR_K k = 10) (hlink : (Cond.fieldLink own index "FaultTwinsModel" "sights" "I").before args s = true) (hdg : decode cc pc = .ok (.getfield index, 3)) (kk : W p l e R s m args below meth c H locs cells slots Q (F0 m (pc + 3) ls (.int (σ.1 k 8) :: rest))) : W p l e R s m args below meth c H locs cells slots Q (F0 m pc ls (.ref (Γ.2.2 k) :: rest)) := ft_get hx hb hts hin hown hK hP.1 (cR_lt hk (by decide)) (cR_E10 hk) rfl 8 (by decide) hlink rfl rfl hdg kk
theorem pR_10_8 {v : Int32} (hx : p.tables.exec = Jvm.exec) (hb : c.code = cc) (hts : ∀ w ∈ Ts, w.before args s = true) (hin : ∀ w ∈ wsX100, w ∈ Ts) (hown : s.vm.findClass own = some m.cls) (hK : va_K Γ.1 vwCl (ft_ty Γ) s) (hI : cR_I Γ) (hP : cR_P Γ s σ H locs) (hk : cR_K k = 10) (hlink : (Cond.fieldLink own index "FaultTwinsModel" "sights" "I").before args s = true) (hdg : decode cc pc = .ok (.putfield index, 3)) (kk : ∀ (H1 : Heap) (locs1 : List Loc), cR_P Γ s (ft_sF σ k 8 v) H1 locs1 → W p l e R s m args below meth c H1 locs1 cells slots Q (F0 m (pc + 3) ls rest)) : W p l e R s m args below meth c H locs cells slots Q (F0 m pc ls (.int v :: .ref (Γ.2.2 k) :: rest)) := ft_put (ty := .int) hx hb hts hin tyX10 tyX10_ok nmX10 hown hK hI hP.1 hP.2 (cR_lt hk (by decide)) (cR_E10 hk) rfl 8 (by decide) hlink rfl rfl (by decide +kernel) rfl rfl (Nat.le_of_ble_eq_true rfl) ((cR_E10 hk).trans (by simp [ft_sF])) (cR_E_sF Γ σ k 8 v) hdg (fun H1 locs1 a b => kk H1 locs1 ⟨a, b⟩)
theorem gR_10_9 (hx : p.tables.exec = Jvm.exec) (hb : c.code = cc) (hts : ∀ w ∈ Ts, w.before args s = true) (hin : ∀ w ∈ wsX100, w ∈ Ts) (hown : s.vm.findClass own = some m.cls) (hK : va_K Γ.1 vwCl (ft_ty Γ) s) (hP : cR_P Γ s σ H locs) (hk : cR_K k = 10) (hlink : (Cond.fieldLink own index "FaultTwinsModel" "sight" "[I").before args s = true) (hdg : decode cc pc = .ok (.getfield index, 3)) (kk : W p l e R s m args below meth c H locs cells slots Q (F0 m (pc + 3) ls (.ref (Γ.2.2 5) :: rest))) : W p l e R s m args below meth c H locs cells slots Q (F0 m pc ls (.ref (Γ.2.2 k) :: rest)) := ft_get hx hb hts hin hown hK hP.1 (cR_lt hk (by decide)) (cR_E10 hk) rfl 9 (by decide) hlink rfl rfl hdg kk
theorem gR_10_10 (hx : p.tables.exec = Jvm.exec) (hb : c.code = cc) (hts : ∀ w ∈ Ts, w.before args s = true) (hin : ∀ w ∈ wsX100, w ∈ Ts) (hown : s.vm.findClass own = some m.cls) (hK : va_K Γ.1 vwCl (ft_ty Γ) s) (hP : cR_P Γ s σ H locs) (hk : cR_K k = 10) (hlink : (Cond.fieldLink own index "FaultTwinsModel" "states" "I").before args s = true) (hdg : decode cc pc = .ok (.getfield index, 3)) (kk : W p l e R s m args below meth c H locs cells slots Q (F0 m (pc + 3) ls (.int (σ.1 k 10) :: rest))) : W p l e R s m args below meth c H locs cells slots Q (F0 m pc ls (.ref (Γ.2.2 k) :: rest)) := ft_get hx hb hts hin hown hK hP.1 (cR_lt hk (by decide)) (cR_E10 hk) rfl 10 (by decide) hlink rfl rfl hdg kk
theorem pR_10_10 {v : Int32} (hx : p.tables.exec = Jvm.exec) (hb : c.code = cc) (hts : ∀ w ∈ Ts, w.before args s = true) (hin : ∀ w ∈ wsX100, w ∈ Ts) (hown : s.vm.findClass own = some m.cls) (hK : va_K Γ.1 vwCl (ft_ty Γ) s) (hI : cR_I Γ) (hP : cR_P Γ s σ H locs) (hk : cR_K k = 10) (hlink : (Cond.fieldLink own index "FaultTwinsModel" "states" "I").before args s = true) (hdg : decode cc pc = .ok (.putfield index, 3)) (kk : ∀ (H1 : Heap) (locs1 : List Loc), cR_P Γ s (ft_sF σ k 10 v) H1 locs1 → W p l e R s m args below meth c H1 locs1 cells slots Q (F0 m (pc + 3) ls rest)) : W p l e R s m args below meth c H locs cells slots Q (F0 m pc ls (.int v :: .ref (Γ.2.2 k) :: rest)) := ft_put (ty := .int) hx hb hts hin tyX10 tyX10_ok nmX10 hown hK hI hP.1 hP.2 (cR_lt hk (by decide)) (cR_E10 hk) rfl 10 (by decide) hlink rfl rfl (by decide +kernel) rfl rfl (Nat.le_of_ble_eq_true rfl) ((cR_E10 hk).trans (by simp [ft_sF])) (cR_E_sF Γ σ k 10 v) hdg (fun H1 locs1 a b => kk H1 locs1 ⟨a, b⟩)
theorem gR_10_11 (hx : p.tables.exec = Jvm.exec) (hb : c.code = cc) (hts : ∀ w ∈ Ts, w.before args s = true) (hin : ∀ w ∈ wsX100, w ∈ Ts) (hown : s.vm.findClass own = some m.cls) (hK : va_K Γ.1 vwCl (ft_ty Γ) s) (hP : cR_P Γ s σ H locs) (hk : cR_K k = 10) (hlink : (Cond.fieldLink own index "FaultTwinsModel" "kept" "[I").before args s = true) (hdg : decode cc pc = .ok (.getfield index, 3)) (kk : W p l e R s m args below meth c H locs cells slots Q (F0 m (pc + 3) ls (.ref (Γ.2.2 6) :: rest))) : W p l e R s m args below meth c H locs cells slots Q (F0 m pc ls (.ref (Γ.2.2 k) :: rest)) := ft_get hx hb hts hin hown hK hP.1 (cR_lt hk (by decide)) (cR_E10 hk) rfl 11 (by decide) hlink rfl rfl hdg kk
theorem gR_10_12 (hx : p.tables.exec = Jvm.exec) (hb : c.code = cc) (hts : ∀ w ∈ Ts, w.before args s = true) (hin : ∀ w ∈ wsX100, w ∈ Ts) (hown : s.vm.findClass own = some m.cls) (hK : va_K Γ.1 vwCl (ft_ty Γ) s) (hP : cR_P Γ s σ H locs) (hk : cR_K k = 10) (hlink : (Cond.fieldLink own index "FaultTwinsModel" "found" "I").before args s = true) (hdg : decode cc pc = .ok (.getfield index, 3)) (kk : W p l e R s m args below meth c H locs cells slots Q (F0 m (pc + 3) ls (.int (σ.1 k 12) :: rest))) : W p l e R s m args below meth c H locs cells slots Q (F0 m pc ls (.ref (Γ.2.2 k) :: rest)) := ft_get hx hb hts hin hown hK hP.1 (cR_lt hk (by decide)) (cR_E10 hk) rfl 12 (by decide) hlink rfl rfl hdg kk
theorem pR_10_12 {v : Int32} (hx : p.tables.exec = Jvm.exec) (hb : c.code = cc) (hts : ∀ w ∈ Ts, w.before args s = true) (hin : ∀ w ∈ wsX100, w ∈ Ts) (hown : s.vm.findClass own = some m.cls) (hK : va_K Γ.1 vwCl (ft_ty Γ) s) (hI : cR_I Γ) (hP : cR_P Γ s σ H locs) (hk : cR_K k = 10) (hlink : (Cond.fieldLink own index "FaultTwinsModel" "found" "I").before args s = true) (hdg : decode cc pc = .ok (.putfield index, 3)) (kk : ∀ (H1 : Heap) (locs1 : List Loc), cR_P Γ s (ft_sF σ k 12 v) H1 locs1 → W p l e R s m args below meth c H1 locs1 cells slots Q (F0 m (pc + 3) ls rest)) : W p l e R s m args below meth c H locs cells slots Q (F0 m pc ls (.int v :: .ref (Γ.2.2 k) :: rest)) := ft_put (ty := .int) hx hb hts hin tyX10 tyX10_ok nmX10 hown hK hI hP.1 hP.2 (cR_lt hk (by decide)) (cR_E10 hk) rfl 12 (by decide) hlink rfl rfl (by decide +kernel) rfl rfl (Nat.le_of_ble_eq_true rfl) ((cR_E10 hk).trans (by simp [ft_sF])) (cR_E_sF Γ σ k 12 v) hdg (fun H1 locs1 a b => kk H1 locs1 ⟨a, b⟩)
theorem gR_10_13 (hx : p.tables.exec = Jvm.exec) (hb : c.code = cc) (hts : ∀ w ∈ Ts, w.before args s = true) (hin : ∀ w ∈ wsX100, w ∈ Ts) (hown : s.vm.findClass own = some m.cls) (hK : va_K Γ.1 vwCl (ft_ty Γ) s) (hP : cR_P Γ s σ H locs) (hk : cR_K k = 10) (hlink : (Cond.fieldLink own index "FaultTwinsModel" "sets" "[I").before args s = true) (hdg : decode cc pc = .ok (.getfield index, 3)) (kk : W p l e R s m args below meth c H locs cells slots Q (F0 m (pc + 3) ls (.ref (Γ.2.2 7) :: rest))) : W p l e R s m args below meth c H locs cells slots Q (F0 m pc ls (.ref (Γ.2.2 k) :: rest)) := ft_get hx hb hts hin hown hK hP.1 (cR_lt hk (by decide)) (cR_E10 hk) rfl 13 (by decide) hlink rfl rfl hdg kk
theorem gR_10_14 (hx : p.tables.exec = Jvm.exec) (hb : c.code = cc) (hts : ∀ w ∈ Ts, w.before args s = true) (hin : ∀ w ∈ wsX100, w ∈ Ts) (hown : s.vm.findClass own = some m.cls) (hK : va_K Γ.1 vwCl (ft_ty Γ) s) (hP : cR_P Γ s σ H locs) (hk : cR_K k = 10) (hlink : (Cond.fieldLink own index "FaultTwinsModel" "after" "[I").before args s = true) (hdg : decode cc pc = .ok (.getfield index, 3)) (kk : W p l e R s m args below meth c H locs cells slots Q (F0 m (pc + 3) ls (.ref (Γ.2.2 8) :: rest))) : W p l e R s m args below meth c H locs cells slots Q (F0 m pc ls (.ref (Γ.2.2 k) :: rest)) := ft_get hx hb hts hin hown hK hP.1 (cR_lt hk (by decide)) (cR_E10 hk) rfl 14 (by decide) hlink rfl rfl hdg kk
theorem gR_10_15 (hx : p.tables.exec = Jvm.exec) (hb : c.code = cc) (hts : ∀ w ∈ Ts, w.before args s = true) (hin : ∀ w ∈ wsX100, w ∈ Ts) (hown : s.vm.findClass own = some m.cls) (hK : va_K Γ.1 vwCl (ft_ty Γ) s) (hP : cR_P Γ s σ H locs) (hk : cR_K k = 10) (hlink : (Cond.fieldLink own index "FaultTwinsModel" "can" "[I").before args s = true) (hdg : decode cc pc = .ok (.getfield index, 3)) (kk : W p l e R s m args below meth c H locs cells slots Q (F0 m (pc + 3) ls (.ref (Γ.2.2 9) :: rest))) : W p l e R s m args below meth c H locs cells slots Q (F0 m pc ls (.ref (Γ.2.2 k) :: rest)) := ft_get hx hb hts hin hown hK hP.1 (cR_lt hk (by decide)) (cR_E10 hk) rfl 15 (by decide) hlink rfl rfl hdg kk
theorem gR_10_16 (hx : p.tables.exec = Jvm.exec) (hb : c.code = cc) (hts : ∀ w ∈ Ts, w.before args s = true) (hin : ∀ w ∈ wsX100, w ∈ Ts) (hown : s.vm.findClass own = some m.cls) (hK : va_K Γ.1 vwCl (ft_ty Γ) s) (hP : cR_P Γ s σ H locs) (hk : cR_K k = 10) (hlink : (Cond.fieldLink own index "FaultTwinsModel" "markLow" "[J").before args s = true) (hdg : decode cc pc = .ok (.getfield index, 3)) (kk : W p l e R s m args below meth c H locs cells slots Q (F0 m (pc + 3) ls (.ref (Γ.2.2 10) :: rest))) : W p l e R s m args below meth c H locs cells slots Q (F0 m pc ls (.ref (Γ.2.2 k) :: rest)) := ft_get hx hb hts hin hown hK hP.1 (cR_lt hk (by decide)) (cR_E10 hk) rfl 16 (by decide) hlink rfl rfl hdg kk
theorem gR_10_17 (hx : p.tables.exec = Jvm.exec) (hb : c.code = cc) (hts : ∀ w ∈ Ts, w.before args s = true) (hin : ∀ w ∈ wsX100, w ∈ Ts) (hown : s.vm.findClass own = some m.cls) (hK : va_K Γ.1 vwCl (ft_ty Γ) s) (hP : cR_P Γ s σ H locs) (hk : cR_K k = 10) (hlink : (Cond.fieldLink own index "FaultTwinsModel" "markHigh" "[J").before args s = true) (hdg : decode cc pc = .ok (.getfield index, 3)) (kk : W p l e R s m args below meth c H locs cells slots Q (F0 m (pc + 3) ls (.ref (Γ.2.2 11) :: rest))) : W p l e R s m args below meth c H locs cells slots Q (F0 m pc ls (.ref (Γ.2.2 k) :: rest)) := ft_get hx hb hts hin hown hK hP.1 (cR_lt hk (by decide)) (cR_E10 hk) rfl 17 (by decide) hlink rfl rfl hdg kk
theorem gR_10_18 (hx : p.tables.exec = Jvm.exec) (hb : c.code = cc) (hts : ∀ w ∈ Ts, w.before args s = true) (hin : ∀ w ∈ wsX100, w ∈ Ts) (hown : s.vm.findClass own = some m.cls) (hK : va_K Γ.1 vwCl (ft_ty Γ) s) (hP : cR_P Γ s σ H locs) (hk : cR_K k = 10) (hlink : (Cond.fieldLink own index "FaultTwinsModel" "low" "[J").before args s = true) (hdg : decode cc pc = .ok (.getfield index, 3)) (kk : W p l e R s m args below meth c H locs cells slots Q (F0 m (pc + 3) ls (.ref (Γ.2.2 12) :: rest))) : W p l e R s m args below meth c H locs cells slots Q (F0 m pc ls (.ref (Γ.2.2 k) :: rest)) := ft_get hx hb hts hin hown hK hP.1 (cR_lt hk (by decide)) (cR_E10 hk) rfl 18 (by decide) hlink rfl rfl hdg kk
theorem gR_10_19 (hx : p.tables.exec = Jvm.exec) (hb : c.code = cc) (hts : ∀ w ∈ Ts, w.before args s = true) (hin : ∀ w ∈ wsX100, w ∈ Ts) (hown : s.vm.findClass own = some m.cls) (hK : va_K Γ.1 vwCl (ft_ty Γ) s) (hP : cR_P Γ s σ H locs) (hk : cR_K k = 10) (hlink : (Cond.fieldLink own index "FaultTwinsModel" "high" "[J").before args s = true) (hdg : decode cc pc = .ok (.getfield index, 3)) (kk : W p l e R s m args below meth c H locs cells slots Q (F0 m (pc + 3) ls (.ref (Γ.2.2 13) :: rest))) : W p l e R s m args below meth c H locs cells slots Q (F0 m pc ls (.ref (Γ.2.2 k) :: rest)) := ft_get hx hb hts hin hown hK hP.1 (cR_lt hk (by decide)) (cR_E10 hk) rfl 19 (by decide) hlink rfl rfl hdg kk
theorem gR_10_20 (hx : p.tables.exec = Jvm.exec) (hb : c.code = cc) (hts : ∀ w ∈ Ts, w.before args s = true) (hin : ∀ w ∈ wsX100, w ∈ Ts) (hown : s.vm.findClass own = some m.cls) (hK : va_K Γ.1 vwCl (ft_ty Γ) s) (hP : cR_P Γ s σ H locs) (hk : cR_K k = 10) (hlink : (Cond.fieldLink own index "FaultTwinsModel" "longest" "[I").before args s = true) (hdg : decode cc pc = .ok (.getfield index, 3)) (kk : W p l e R s m args below meth c H locs cells slots Q (F0 m (pc + 3) ls (.ref (Γ.2.2 14) :: rest))) : W p l e R s m args below meth c H locs cells slots Q (F0 m pc ls (.ref (Γ.2.2 k) :: rest)) := ft_get hx hb hts hin hown hK hP.1 (cR_lt hk (by decide)) (cR_E10 hk) rfl 20 (by decide) hlink rfl rfl hdg kk
theorem gR_10_21 (hx : p.tables.exec = Jvm.exec) (hb : c.code = cc) (hts : ∀ w ∈ Ts, w.before args s = true) (hin : ∀ w ∈ wsX100, w ∈ Ts) (hown : s.vm.findClass own = some m.cls) (hK : va_K Γ.1 vwCl (ft_ty Γ) s) (hP : cR_P Γ s σ H locs) (hk : cR_K k = 10) (hlink : (Cond.fieldLink own index "FaultTwinsModel" "text" "[I").before args s = true) (hdg : decode cc pc = .ok (.getfield index, 3)) (kk : W p l e R s m args below meth c H locs cells slots Q (F0 m (pc + 3) ls (.ref (Γ.2.2 15) :: rest))) : W p l e R s m args below meth c H locs cells slots Q (F0 m pc ls (.ref (Γ.2.2 k) :: rest)) := ft_get hx hb hts hin hown hK hP.1 (cR_lt hk (by decide)) (cR_E10 hk) rfl 21 (by decide) hlink rfl rfl hdg kk
theorem gR_10_22 (hx : p.tables.exec = Jvm.exec) (hb : c.code = cc) (hts : ∀ w ∈ Ts, w.before args s = true) (hin : ∀ w ∈ wsX100, w ∈ Ts) (hown : s.vm.findClass own = some m.cls) (hK : va_K Γ.1 vwCl (ft_ty Γ) s) (hP : cR_P Γ s σ H locs) (hk : cR_K k = 10) (hlink : (Cond.fieldLink own index "FaultTwinsModel" "size" "I").before args s = true) (hdg : decode cc pc = .ok (.getfield index, 3)) (kk : W p l e R s m args below meth c H locs cells slots Q (F0 m (pc + 3) ls (.int (σ.1 k 22) :: rest))) : W p l e R s m args below meth c H locs cells slots Q (F0 m pc ls (.ref (Γ.2.2 k) :: rest)) := ft_get hx hb hts hin hown hK hP.1 (cR_lt hk (by decide)) (cR_E10 hk) rfl 22 (by decide) hlink rfl rfl hdg kk
theorem pR_10_22 {v : Int32} (hx : p.tables.exec = Jvm.exec) (hb : c.code = cc) (hts : ∀ w ∈ Ts, w.before args s = true) (hin : ∀ w ∈ wsX100, w ∈ Ts) (hown : s.vm.findClass own = some m.cls) (hK : va_K Γ.1 vwCl (ft_ty Γ) s) (hI : cR_I Γ) (hP : cR_P Γ s σ H locs) (hk : cR_K k = 10) (hlink : (Cond.fieldLink own index "FaultTwinsModel" "size" "I").before args s = true) (hdg : decode cc pc = .ok (.putfield index, 3)) (kk : ∀ (H1 : Heap) (locs1 : List Loc), cR_P Γ s (ft_sF σ k 22 v) H1 locs1 → W p l e R s m args below meth c H1 locs1 cells slots Q (F0 m (pc + 3) ls rest)) : W p l e R s m args below meth c H locs cells slots Q (F0 m pc ls (.int v :: .ref (Γ.2.2 k) :: rest)) := ft_put (ty := .int) hx hb hts hin tyX10 tyX10_ok nmX10 hown hK hI hP.1 hP.2 (cR_lt hk (by decide)) (cR_E10 hk) rfl 22 (by decide) hlink rfl rfl (by decide +kernel) rfl rfl (Nat.le_of_ble_eq_true rfl) ((cR_E10 hk).trans (by simp [ft_sF])) (cR_E_sF Γ σ k 22 v) hdg (fun H1 locs1 a b => kk H1 locs1 ⟨a, b⟩)
theorem gR_10_23 (hx : p.tables.exec = Jvm.exec) (hb : c.code = cc) (hts : ∀ w ∈ Ts, w.before args s = true) (hin : ∀ w ∈ wsX100, w ∈ Ts) (hown : s.vm.findClass own = some m.cls) (hK : va_K Γ.1 vwCl (ft_ty Γ) s) (hP : cR_P Γ s σ H locs) (hk : cR_K k = 10) (hlink : (Cond.fieldLink own index "FaultTwinsModel" "readAt" "I").before args s = true) (hdg : decode cc pc = .ok (.getfield index, 3)) (kk : W p l e R s m args below meth c H locs cells slots Q (F0 m (pc + 3) ls (.int (σ.1 k 23) :: rest))) : W p l e R s m args below meth c H locs cells slots Q (F0 m pc ls (.ref (Γ.2.2 k) :: rest)) := ft_get hx hb hts hin hown hK hP.1 (cR_lt hk (by decide)) (cR_E10 hk) rfl 23 (by decide) hlink rfl rfl hdg kk
theorem pR_10_23 {v : Int32} (hx : p.tables.exec = Jvm.exec) (hb : c.code = cc) (hts : ∀ w ∈ Ts, w.before args s = true) (hin : ∀ w ∈ wsX100, w ∈ Ts) (hown : s.vm.findClass own = some m.cls) (hK : va_K Γ.1 vwCl (ft_ty Γ) s) (hI : cR_I Γ) (hP : cR_P Γ s σ H locs) (hk : cR_K k = 10) (hlink : (Cond.fieldLink own index "FaultTwinsModel" "readAt" "I").before args s = true) (hdg : decode cc pc = .ok (.putfield index, 3)) (kk : ∀ (H1 : Heap) (locs1 : List Loc), cR_P Γ s (ft_sF σ k 23 v) H1 locs1 → W p l e R s m args below meth c H1 locs1 cells slots Q (F0 m (pc + 3) ls rest)) : W p l e R s m args below meth c H locs cells slots Q (F0 m pc ls (.int v :: .ref (Γ.2.2 k) :: rest)) := ft_put (ty := .int) hx hb hts hin tyX10 tyX10_ok nmX10 hown hK hI hP.1 hP.2 (cR_lt hk (by decide)) (cR_E10 hk) rfl 23 (by decide) hlink rfl rfl (by decide +kernel) rfl rfl (Nat.le_of_ble_eq_true rfl) ((cR_E10 hk).trans (by simp [ft_sF])) (cR_E_sF Γ σ k 23 v) hdg (fun H1 locs1 a b => kk H1 locs1 ⟨a, b⟩)
theorem gR_10_24 (hx : p.tables.exec = Jvm.exec) (hb : c.code = cc) (hts : ∀ w ∈ Ts, w.before args s = true) (hin : ∀ w ∈ wsX100, w ∈ Ts) (hown : s.vm.findClass own = some m.cls) (hK : va_K Γ.1 vwCl (ft_ty Γ) s) (hP : cR_P Γ s σ H locs) (hk : cR_K k = 10) (hlink : (Cond.fieldLink own index "FaultTwinsModel" "faultAt" "I").before args s = true) (hdg : decode cc pc = .ok (.getfield index, 3)) (kk : W p l e R s m args below meth c H locs cells slots Q (F0 m (pc + 3) ls (.int (σ.1 k 24) :: rest))) : W p l e R s m args below meth c H locs cells slots Q (F0 m pc ls (.ref (Γ.2.2 k) :: rest)) := ft_get hx hb hts hin hown hK hP.1 (cR_lt hk (by decide)) (cR_E10 hk) rfl 24 (by decide) hlink rfl rfl hdg kk
theorem pR_10_24 {v : Int32} (hx : p.tables.exec = Jvm.exec) (hb : c.code = cc) (hts : ∀ w ∈ Ts, w.before args s = true) (hin : ∀ w ∈ wsX100, w ∈ Ts) (hown : s.vm.findClass own = some m.cls) (hK : va_K Γ.1 vwCl (ft_ty Γ) s) (hI : cR_I Γ) (hP : cR_P Γ s σ H locs) (hk : cR_K k = 10) (hlink : (Cond.fieldLink own index "FaultTwinsModel" "faultAt" "I").before args s = true) (hdg : decode cc pc = .ok (.putfield index, 3)) (kk : ∀ (H1 : Heap) (locs1 : List Loc), cR_P Γ s (ft_sF σ k 24 v) H1 locs1 → W p l e R s m args below meth c H1 locs1 cells slots Q (F0 m (pc + 3) ls rest)) : W p l e R s m args below meth c H locs cells slots Q (F0 m pc ls (.int v :: .ref (Γ.2.2 k) :: rest)) := ft_put (ty := .int) hx hb hts hin tyX10 tyX10_ok nmX10 hown hK hI hP.1 hP.2 (cR_lt hk (by decide)) (cR_E10 hk) rfl 24 (by decide) hlink rfl rfl (by decide +kernel) rfl rfl (Nat.le_of_ble_eq_true rfl) ((cR_E10 hk).trans (by simp [ft_sF])) (cR_E_sF Γ σ k 24 v) hdg (fun H1 locs1 a b => kk H1 locs1 ⟨a, b⟩)
theorem aR_ld (hx : p.tables.exec = Jvm.exec) (hb : c.code = cc) (hK : va_K Γ.1 vwCl (ft_ty Γ) s) (hP : cR_P Γ s σ H locs) (hk : cR_K k = 12) {N : Nat} (hN : cR_N k = N) {i : Int32} (hi : vp_in i N) (hdg : decode cc pc = .ok (.iaload, 1)) (kk : W p l e R s m args below meth c H locs cells slots Q (F0 m (pc + 1) ls (.int (σ.2.1 k i.toNatClampNeg) :: rest))) : W p l e R s m args below meth c H locs cells slots Q (F0 m pc ls (.int i :: .ref (Γ.2.2 k) :: rest)) := by
  subst hN
  exact ft_iald hx hb hK hP.1 (cR_lt hk (by decide)) (cR_E12 hk) 1 rfl hi hdg kk
theorem aR_st (hx : p.tables.exec = Jvm.exec) (hb : c.code = cc) (hK : va_K Γ.1 vwCl (ft_ty Γ) s) (hI : cR_I Γ) (hP : cR_P Γ s σ H locs) (hk : cR_K k = 12) {N : Nat} (hN : cR_N k = N) {i x : Int32} (hi : vp_in i N) (hdg : decode cc pc = .ok (.iastore, 1)) (kk : ∀ (H1 : Heap) (locs1 : List Loc), cR_P Γ s (ft_sA σ k (upd (σ.2.1 k) i.toNatClampNeg x)) H1 locs1 → W p l e R s m args below meth c H1 locs1 cells slots Q (F0 m (pc + 1) ls rest)) : W p l e R s m args below meth c H locs cells slots Q (F0 m pc ls (.int x :: .int i :: .ref (Γ.2.2 k) :: rest)) := by
  subst hN
  exact ft_iast hx hb hK hI hP.1 hP.2 (cR_lt hk (by decide)) (cR_E12 hk) 1 rfl hi ((cR_E12 hk).trans (by simp [ft_sA])) (cR_E_sA Γ σ k _) hdg (fun H1 locs1 a b => kk H1 locs1 ⟨a, b⟩)
theorem aR_len (hx : p.tables.exec = Jvm.exec) (hb : c.code = cc) (hK : va_K Γ.1 vwCl (ft_ty Γ) s) (hP : cR_P Γ s σ H locs) (hk : cR_K k = 12) (hdg : decode cc pc = .ok (.arraylength, 1)) (kk : W p l e R s m args below meth c H locs cells slots Q (F0 m (pc + 1) ls (.int (nI (cR_N k)) :: rest))) : W p l e R s m args below meth c H locs cells slots Q (F0 m pc ls (.ref (Γ.2.2 k) :: rest)) := va_alen (ty := .int) (cA := Γ.2.1.2.1) (x := (cR_N k, .inl (σ.2.1 k))) hx hb hK hP.1 k 1 ((ft_W_get (cR_lt hk (by decide))).trans (by rw [cR_E12 hk])) rfl rfl hdg kk
theorem aR_lld (hx : p.tables.exec = Jvm.exec) (hb : c.code = cc) (hK : va_K Γ.1 vwCl (ft_ty Γ) s) (hP : cR_P Γ s σ H locs) (hk : cR_K k = 13) {N : Nat} (hN : cR_N k = N) {i : Int32} (hi : vp_in i N) (hdg : decode cc pc = .ok (.laload, 1)) (kk : W p l e R s m args below meth c H locs cells slots Q (F0 m (pc + 1) ls (.long (σ.2.2 k i.toNatClampNeg) :: rest))) : W p l e R s m args below meth c H locs cells slots Q (F0 m pc ls (.int i :: .ref (Γ.2.2 k) :: rest)) := by
  subst hN
  exact ft_lald hx hb hK hP.1 (cR_lt hk (by decide)) (cR_E13 hk) 2 rfl hi hdg kk
theorem aR_lst (hx : p.tables.exec = Jvm.exec) (hb : c.code = cc) (hK : va_K Γ.1 vwCl (ft_ty Γ) s) (hI : cR_I Γ) (hP : cR_P Γ s σ H locs) (hk : cR_K k = 13) {N : Nat} (hN : cR_N k = N) {i : Int32} {x : Int64} (hi : vp_in i N) (hdg : decode cc pc = .ok (.lastore, 1)) (kk : ∀ (H1 : Heap) (locs1 : List Loc), cR_P Γ s (ft_sL σ k (vp_updL (σ.2.2 k) i.toNatClampNeg x)) H1 locs1 → W p l e R s m args below meth c H1 locs1 cells slots Q (F0 m (pc + 1) ls rest)) : W p l e R s m args below meth c H locs cells slots Q (F0 m pc ls (.long x :: .int i :: .ref (Γ.2.2 k) :: rest)) := by
  subst hN
  exact ft_last hx hb hK hI hP.1 hP.2 (cR_lt hk (by decide)) (cR_E13 hk) 2 rfl hi ((cR_E13 hk).trans (by simp [ft_sL])) (cR_E_sL Γ σ k _) hdg (fun H1 locs1 a b => kk H1 locs1 ⟨a, b⟩)
end FTPR
/-- where a method begins -/
def cR_B (Γ : ft_G) (σ : ft_St) (U : State) : Prop := va_P Γ.1 vwCl (ft_W 16 Γ.2.2 (cR_E Γ σ)) U.heap ∧ va_K Γ.1 vwCl (ft_ty Γ) U ∧ True
def cR_Q (Γ : ft_G) (σ : ft_St) (t : State) : Prop := va_P Γ.1 vwCl (ft_W 16 Γ.2.2 (cR_E Γ σ)) t.heap
abbrev cR_Mi (l : Launch) (y : MethodName) (ws : List Cond) (rm : Room) (Γ : ft_G) (σ : ft_St) (av : List Value) (Φ : Int32 → ft_St → Prop) : Prop := Met l y ws rm (va_Pc av (cR_B Γ σ)) (va_Qi Φ (cR_Q Γ) (ft_A 16 Γ.2.2)) 0 0 (ft_A 16 Γ.2.2)
abbrev cR_Ml (l : Launch) (y : MethodName) (ws : List Cond) (rm : Room) (Γ : ft_G) (σ : ft_St) (av : List Value) (Φ : Int64 → ft_St → Prop) : Prop := Met l y ws rm (va_Pc av (cR_B Γ σ)) (va_Ql Φ (cR_Q Γ) (ft_A 16 Γ.2.2)) 0 0 (ft_A 16 Γ.2.2)
abbrev cR_Mv (l : Launch) (y : MethodName) (ws : List Cond) (rm : Room) (Γ : ft_G) (σ : ft_St) (av : List Value) (Φ : ft_St → Prop) : Prop := Met l y ws rm (va_Pc av (cR_B Γ σ)) (va_Qv Φ (cR_Q Γ) (ft_A 16 Γ.2.2)) 0 0 (ft_A 16 Γ.2.2)
abbrev cR_Mr (l : Launch) (y : MethodName) (ws : List Cond) (rm : Room) (Γ : ft_G) (σ : ft_St) (av : List Value) (k : Nat) (Φ : ft_St → Prop) : Prop := Met l y ws rm (va_Pc av (cR_B Γ σ)) (va_Qr Φ (fun u a t => a = Γ.2.2 k ∧ cR_Q Γ u t) (ft_A 16 Γ.2.2)) 0 0 (ft_A 16 Γ.2.2)
theorem cR_blind {Γ : ft_G} {σ : ft_St} {av : List Value} : FrameBlind (va_Pc av (cR_B Γ σ)) := fun a U g mk q => by
  obtain ⟨q0, qP, qK, qN⟩ := q
  exact ⟨q0, qP, va_K.moved (u := U) (U := U.calling g mk a) (Vm.Alike.refl U.vm) qK, trivial⟩
theorem cR_start {Γ : ft_G} {σ : ft_St} {s : State} {H : Heap} {locs : List Loc} {av : List Value} (hP : cR_P Γ s σ H locs) (hK : va_K Γ.1 vwCl (ft_ty Γ) s) (hN : True) : ∀ U : State, U.heap = H → s.WarmedH U.vm → va_Pc av (cR_B Γ σ) av.toArray U := fun U hU hW => ⟨rfl, by rw [hU]; exact hP.1, va_K.moved hW.alike hK, trivial⟩
section FTCR
variable {p : Program} {l : Launch} {e : Env} {R : Room} {s : State} {m : MethodId} {args : Array Value} {below : List Frame} {meth : Method} {c : Code} {H : Heap} {locs : List Loc} {cells slots : Nat} {Q : State → Prop}
variable {cc : ByteArray} {pc : Nat} {ls : Array Slot} {rest : List Value} {Γ : ft_G} {σ : ft_St} {k : Nat} {own : String} {index : Nat} {Ts : List Cond}
variable {y : MethodName} {bytes : ByteArray} {maxL nL nA : Nat} {ret : Option FieldType} {ws : List Cond} {rm : Room} {C : String} {As : List Value} {st0 : List Value}
theorem cR_Vi {Φ : Int32 → ft_St → Prop} (S : CallFix p m c cc nL s args Ts own) (hM : cR_Mi l y ws rm Γ σ (.ref (Γ.2.2 k) :: As) Φ) (cw : CallW R s args own C index y bytes maxL ret ws rm 0 0 nA) (hK : va_K Γ.1 vwCl (ft_ty Γ) s) (hN : True) (hP : cR_P Γ s σ H locs) {ci : Nat} {q : vw_C} (hk : k < 16) {fs : List Value} (he : cR_E Γ σ k = .inr (ci, fs)) (hc : vwCl[ci]? = some q) (hC : q.1 = C) (hn : As.length = nA) (hls : ls.size = nL) (hst : st0 = As.reverse ++ .ref (Γ.2.2 k) :: rest) (hW : (rest.map fun v => v.category).sum ≤ 8) (hdg : decode cc pc = .ok (.invokevirtual index, 3)) (hf : cells + 0 ≤ R.cells ∧ slots + 0 ≤ R.slots) (kk : ∀ (r : Int32) (σ1 : ft_St) (H1 : Heap) (locs1 : List Loc), Φ r σ1 → cR_P Γ s σ1 H1 locs1 → W p l e R s m args below meth c H1 locs1 cells slots Q (F0 m (pc + 3) ls (.int r :: rest))) : W p l e R s m args below meth c H locs cells slots Q (F0 m pc ls st0) := by
  subst hC
  exact va_calli (va_runV S hM cw ⟨cR_blind, va_recv hK hP.1 hc ((ft_W_get hk).trans (by rw [he])), cR_start hP hK hN⟩ rfl hn hls hst (lv_room hW) hdg hf) hP.2 (fun q _ h => h) (fun q h => h) (fun r u t H1 locs1 ht hvm hw hB hz hk hS => kk r u H1 locs1 hw ⟨by rw [← ht]; exact hB, hS⟩)
theorem cR_Si {Φ : Int32 → ft_St → Prop} (S : CallFix p m c cc nL s args Ts own) (hM : cR_Mi l y ws rm Γ σ As Φ) (cw : CallB R s args own index y bytes maxL ret ws rm 0 0 nA ∧ (Cond.static y).before args s = true) (hK : va_K Γ.1 vwCl (ft_ty Γ) s) (hN : True) (hP : cR_P Γ s σ H locs) (hn : As.length = nA) (hls : ls.size = nL) (hst : st0 = As.reverse ++ rest) (hW : (rest.map fun v => v.category).sum ≤ 8) (hdg : decode cc pc = .ok (.invokestatic index, 3)) (hf : cells + 0 ≤ R.cells ∧ slots + 0 ≤ R.slots) (kk : ∀ (r : Int32) (σ1 : ft_St) (H1 : Heap) (locs1 : List Loc), Φ r σ1 → cR_P Γ s σ1 H1 locs1 → W p l e R s m args below meth c H1 locs1 cells slots Q (F0 m (pc + 3) ls (.int r :: rest))) : W p l e R s m args below meth c H locs cells slots Q (F0 m pc ls st0) :=
  va_calli (va_runS S hM cw ⟨cR_blind, cR_start hP hK hN⟩ rfl hn hls hst (lv_room hW) hdg hf) hP.2 (fun q _ h => h) (fun q h => h) (fun r u t H1 locs1 ht hvm hw hB hz hk hS => kk r u H1 locs1 hw ⟨by rw [← ht]; exact hB, hS⟩)
theorem cR_Vl {Φ : Int64 → ft_St → Prop} (S : CallFix p m c cc nL s args Ts own) (hM : cR_Ml l y ws rm Γ σ (.ref (Γ.2.2 k) :: As) Φ) (cw : CallW R s args own C index y bytes maxL ret ws rm 0 0 nA) (hK : va_K Γ.1 vwCl (ft_ty Γ) s) (hN : True) (hP : cR_P Γ s σ H locs) {ci : Nat} {q : vw_C} (hk : k < 16) {fs : List Value} (he : cR_E Γ σ k = .inr (ci, fs)) (hc : vwCl[ci]? = some q) (hC : q.1 = C) (hn : As.length = nA) (hls : ls.size = nL) (hst : st0 = As.reverse ++ .ref (Γ.2.2 k) :: rest) (hW : (rest.map fun v => v.category).sum ≤ 8) (hdg : decode cc pc = .ok (.invokevirtual index, 3)) (hf : cells + 0 ≤ R.cells ∧ slots + 0 ≤ R.slots) (kk : ∀ (r : Int64) (σ1 : ft_St) (H1 : Heap) (locs1 : List Loc), Φ r σ1 → cR_P Γ s σ1 H1 locs1 → W p l e R s m args below meth c H1 locs1 cells slots Q (F0 m (pc + 3) ls (.long r :: rest))) : W p l e R s m args below meth c H locs cells slots Q (F0 m pc ls st0) := by
  subst hC
  exact va_calll (va_runV S hM cw ⟨cR_blind, va_recv hK hP.1 hc ((ft_W_get hk).trans (by rw [he])), cR_start hP hK hN⟩ rfl hn hls hst (lv_room hW) hdg hf) hP.2 (fun q _ h => h) (fun q h => h) (fun r u t H1 locs1 ht hvm hw hB hz hk hS => kk r u H1 locs1 hw ⟨by rw [← ht]; exact hB, hS⟩)
theorem cR_Sl {Φ : Int64 → ft_St → Prop} (S : CallFix p m c cc nL s args Ts own) (hM : cR_Ml l y ws rm Γ σ As Φ) (cw : CallB R s args own index y bytes maxL ret ws rm 0 0 nA ∧ (Cond.static y).before args s = true) (hK : va_K Γ.1 vwCl (ft_ty Γ) s) (hN : True) (hP : cR_P Γ s σ H locs) (hn : As.length = nA) (hls : ls.size = nL) (hst : st0 = As.reverse ++ rest) (hW : (rest.map fun v => v.category).sum ≤ 8) (hdg : decode cc pc = .ok (.invokestatic index, 3)) (hf : cells + 0 ≤ R.cells ∧ slots + 0 ≤ R.slots) (kk : ∀ (r : Int64) (σ1 : ft_St) (H1 : Heap) (locs1 : List Loc), Φ r σ1 → cR_P Γ s σ1 H1 locs1 → W p l e R s m args below meth c H1 locs1 cells slots Q (F0 m (pc + 3) ls (.long r :: rest))) : W p l e R s m args below meth c H locs cells slots Q (F0 m pc ls st0) :=
  va_calll (va_runS S hM cw ⟨cR_blind, cR_start hP hK hN⟩ rfl hn hls hst (lv_room hW) hdg hf) hP.2 (fun q _ h => h) (fun q h => h) (fun r u t H1 locs1 ht hvm hw hB hz hk hS => kk r u H1 locs1 hw ⟨by rw [← ht]; exact hB, hS⟩)
theorem cR_Vv {Φ : ft_St → Prop} (S : CallFix p m c cc nL s args Ts own) (hM : cR_Mv l y ws rm Γ σ (.ref (Γ.2.2 k) :: As) Φ) (cw : CallW R s args own C index y bytes maxL ret ws rm 0 0 nA) (hK : va_K Γ.1 vwCl (ft_ty Γ) s) (hN : True) (hP : cR_P Γ s σ H locs) {ci : Nat} {q : vw_C} (hk : k < 16) {fs : List Value} (he : cR_E Γ σ k = .inr (ci, fs)) (hc : vwCl[ci]? = some q) (hC : q.1 = C) (hn : As.length = nA) (hls : ls.size = nL) (hst : st0 = As.reverse ++ .ref (Γ.2.2 k) :: rest) (hW : (rest.map fun v => v.category).sum ≤ 8) (hdg : decode cc pc = .ok (.invokevirtual index, 3)) (hf : cells + 0 ≤ R.cells ∧ slots + 0 ≤ R.slots) (kk : ∀ (σ1 : ft_St) (H1 : Heap) (locs1 : List Loc), Φ σ1 → cR_P Γ s σ1 H1 locs1 → W p l e R s m args below meth c H1 locs1 cells slots Q (F0 m (pc + 3) ls rest)) : W p l e R s m args below meth c H locs cells slots Q (F0 m pc ls st0) := by
  subst hC
  exact va_callv (va_runV S hM cw ⟨cR_blind, va_recv hK hP.1 hc ((ft_W_get hk).trans (by rw [he])), cR_start hP hK hN⟩ rfl hn hls hst (lv_room hW) hdg hf) hP.2 (fun q _ h => h) (fun q h => h) (fun u t H1 locs1 ht hvm hw hB hz hk hS => kk u H1 locs1 hw ⟨by rw [← ht]; exact hB, hS⟩)
theorem cR_Sv {Φ : ft_St → Prop} (S : CallFix p m c cc nL s args Ts own) (hM : cR_Mv l y ws rm Γ σ As Φ) (cw : CallB R s args own index y bytes maxL ret ws rm 0 0 nA ∧ (Cond.static y).before args s = true) (hK : va_K Γ.1 vwCl (ft_ty Γ) s) (hN : True) (hP : cR_P Γ s σ H locs) (hn : As.length = nA) (hls : ls.size = nL) (hst : st0 = As.reverse ++ rest) (hW : (rest.map fun v => v.category).sum ≤ 8) (hdg : decode cc pc = .ok (.invokestatic index, 3)) (hf : cells + 0 ≤ R.cells ∧ slots + 0 ≤ R.slots) (kk : ∀ (σ1 : ft_St) (H1 : Heap) (locs1 : List Loc), Φ σ1 → cR_P Γ s σ1 H1 locs1 → W p l e R s m args below meth c H1 locs1 cells slots Q (F0 m (pc + 3) ls rest)) : W p l e R s m args below meth c H locs cells slots Q (F0 m pc ls st0) :=
  va_callv (va_runS S hM cw ⟨cR_blind, cR_start hP hK hN⟩ rfl hn hls hst (lv_room hW) hdg hf) hP.2 (fun q _ h => h) (fun q h => h) (fun u t H1 locs1 ht hvm hw hB hz hk hS => kk u H1 locs1 hw ⟨by rw [← ht]; exact hB, hS⟩)
theorem cR_ri {v : Int32} {Φ : Int32 → ft_St → Prop} (hP : cR_P Γ s σ H locs) (hw : Φ v σ) : ∀ t : State, t.heap = H → s.WarmedH t.vm → va_Qi Φ (cR_Q Γ) (ft_A 16 Γ.2.2) args s (.returned (some (.int v))) t := fun t ht _ => ⟨⟨v, σ, rfl, hw, by unfold cR_Q; rw [ht]; exact hP.1⟩, hP.2.F ht⟩
theorem cR_rl {v : Int64} {Φ : Int64 → ft_St → Prop} (hP : cR_P Γ s σ H locs) (hw : Φ v σ) : ∀ t : State, t.heap = H → s.WarmedH t.vm → va_Ql Φ (cR_Q Γ) (ft_A 16 Γ.2.2) args s (.returned (some (.long v))) t := fun t ht _ => ⟨⟨v, σ, rfl, hw, by unfold cR_Q; rw [ht]; exact hP.1⟩, hP.2.F ht⟩
theorem cR_rv {Φ : ft_St → Prop} (hP : cR_P Γ s σ H locs) (hw : Φ σ) : ∀ t : State, t.heap = H → s.WarmedH t.vm → va_Qv Φ (cR_Q Γ) (ft_A 16 Γ.2.2) args s (.returned none) t := fun t ht _ => ⟨⟨σ, rfl, hw, by unfold cR_Q; rw [ht]; exact hP.1⟩, hP.2.F ht⟩
end FTCR
theorem hR_0 : cR_K 0 = 10 := rfl
theorem hR_1 : cR_K 1 = 12 := rfl
theorem mR_1 : cR_N 1 = 3 := rfl
theorem hR_2 : cR_K 2 = 12 := rfl
theorem mR_2 : cR_N 2 = 24 := rfl
theorem hR_3 : cR_K 3 = 12 := rfl
theorem mR_3 : cR_N 3 = 24 := rfl
theorem hR_4 : cR_K 4 = 12 := rfl
theorem mR_4 : cR_N 4 = 24 := rfl
theorem hR_5 : cR_K 5 = 12 := rfl
theorem mR_5 : cR_N 5 = 8 := rfl
theorem hR_6 : cR_K 6 = 12 := rfl
theorem mR_6 : cR_N 6 = 510 := rfl
theorem hR_7 : cR_K 7 = 12 := rfl
theorem mR_7 : cR_N 7 = 500 := rfl
theorem hR_8 : cR_K 8 = 12 := rfl
theorem mR_8 : cR_N 8 = 500 := rfl
theorem hR_9 : cR_K 9 = 12 := rfl
theorem mR_9 : cR_N 9 = 200 := rfl
theorem hR_10 : cR_K 10 = 13 := rfl
theorem mR_10 : cR_N 10 = 100 := rfl
theorem hR_11 : cR_K 11 = 13 := rfl
theorem mR_11 : cR_N 11 = 100 := rfl
theorem hR_12 : cR_K 12 = 13 := rfl
theorem mR_12 : cR_N 12 = 100 := rfl
theorem hR_13 : cR_K 13 = 13 := rfl
theorem mR_13 : cR_N 13 = 100 := rfl
theorem hR_14 : cR_K 14 = 12 := rfl
theorem mR_14 : cR_N 14 = 100 := rfl
theorem hR_15 : cR_K 15 = 12 := rfl
theorem mR_15 : cR_N 15 = 120 := rfl
abbrev cR_Mip (l : Launch) (y : MethodName) (ws : List Cond) (rm : Room) (Γ : ft_G) (σ : ft_St) (av : List Value) (Φ : Int32 → Prop) : Prop := cR_Mi l y ws rm Γ σ av (fun r u => u = σ ∧ Φ r)
abbrev cR_Mlp (l : Launch) (y : MethodName) (ws : List Cond) (rm : Room) (Γ : ft_G) (σ : ft_St) (av : List Value) (Φ : Int64 → Prop) : Prop := cR_Ml l y ws rm Γ σ av (fun r u => u = σ ∧ Φ r)
abbrev cR_Wi (p : Program) (l : Launch) (e : Env) (rm : Room) (s : State) (m : MethodId) (av : List Value) (below : List Frame) (meth : Method) (c : Code) (Γ : ft_G) (Φ : Int32 → ft_St → Prop) (H : Heap) (locs : List Loc) (pc : Nat) (ls : Array Slot) (st : List Value) : Prop := W p l e rm s m av.toArray below meth c H locs 0 0 (MQ below (va_Qi Φ (cR_Q Γ) (ft_A 16 Γ.2.2)) av.toArray s 0 0 (ft_A 16 Γ.2.2)) (F0 m pc ls st)
abbrev cR_Wl (p : Program) (l : Launch) (e : Env) (rm : Room) (s : State) (m : MethodId) (av : List Value) (below : List Frame) (meth : Method) (c : Code) (Γ : ft_G) (Φ : Int64 → ft_St → Prop) (H : Heap) (locs : List Loc) (pc : Nat) (ls : Array Slot) (st : List Value) : Prop := W p l e rm s m av.toArray below meth c H locs 0 0 (MQ below (va_Ql Φ (cR_Q Γ) (ft_A 16 Γ.2.2)) av.toArray s 0 0 (ft_A 16 Γ.2.2)) (F0 m pc ls st)
abbrev cR_Wv (p : Program) (l : Launch) (e : Env) (rm : Room) (s : State) (m : MethodId) (av : List Value) (below : List Frame) (meth : Method) (c : Code) (Γ : ft_G) (Φ : ft_St → Prop) (H : Heap) (locs : List Loc) (pc : Nat) (ls : Array Slot) (st : List Value) : Prop := W p l e rm s m av.toArray below meth c H locs 0 0 (MQ below (va_Qv Φ (cR_Q Γ) (ft_A 16 Γ.2.2)) av.toArray s 0 0 (ft_A 16 Γ.2.2)) (F0 m pc ls st)
abbrev cR_Wr (p : Program) (l : Launch) (e : Env) (rm : Room) (s : State) (m : MethodId) (av : List Value) (below : List Frame) (meth : Method) (c : Code) (Γ : ft_G) (kr : Nat) (Φ : ft_St → Prop) (H : Heap) (locs : List Loc) (pc : Nat) (ls : Array Slot) (st : List Value) : Prop := W p l e rm s m av.toArray below meth c H locs 0 0 (MQ below (va_Qr Φ (fun u a t => a = Γ.2.2 kr ∧ cR_Q Γ u t) (ft_A 16 Γ.2.2)) av.toArray s 0 0 (ft_A 16 Γ.2.2)) (F0 m pc ls st)
