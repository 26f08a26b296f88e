theorem ft_Nest.same {U U' : State} (h : U.vm = U'.vm) (n : ft_Nest U) : ft_Nest U' := by
  obtain ⟨n0, n1, n2, n3, n4, n5, n6, n7, n8, n9, n10, n11⟩ := n
  exact ⟨va_AO.moved (by rw [h]; exact Vm.Alike.refl _) n0, va_Nw.same rfl h n1, va_Nw.same rfl h n2, va_Nw.same rfl h n3, va_Nw.same rfl h n4, va_Nw.same rfl h n5, va_Nw.same rfl h n6, va_Nw.same rfl h n7, va_Nw.same rfl h n8, va_Nw.same rfl h n9, va_Nw.same rfl h n10, va_Nw.same rfl h n11⟩
theorem ft_Nest.warm {s U : State} (hW : s.WarmedH U.vm) (n : ft_Nest s) : ft_Nest U := by
  obtain ⟨n0, n1, n2, n3, n4, n5, n6, n7, n8, n9, n10, n11⟩ := n
  exact ⟨va_AO.moved hW.alike n0, va_Nw.warmM hW n1, va_Nw.warmM hW n2, va_Nw.warmM hW n3, va_Nw.warmM hW n4, va_Nw.warmM hW n5, va_Nw.warmM hW n6, va_Nw.warmM hW n7, va_Nw.warmM hW n8, va_Nw.warmM hW n9, va_Nw.warmM hW n10, va_Nw.warmM hW n11⟩
theorem ft_adr2 {A : Nat → Prop} {w1 w2 : va_W} {L : List Nat} (h : w2.map (fun q => q.1) = L) (hD : va_D A (w1 ++ w2)) (i j : Nat) (p : Nat × va_E) (hp : w1[i]? = some p) (hj : j < L.length) : p.1 ≠ L.getD j 0 := by
  intro e
  have h1 : (w2.map (fun q => q.1))[j]? = some (L.getD j 0) := by
    rw [h, List.getD_eq_getElem?_getD, List.getElem?_eq_getElem hj]; rfl
  rw [List.getElem?_map] at h1
  have hi := (List.getElem?_eq_some_iff.mp hp).1
  cases h2 : w2[j]? with
  | none => rw [h2] at h1; cases h1
  | some q =>
    rw [h2] at h1
    have h3 : q.1 = L.getD j 0 := Option.some.inj h1
    have := hD.1 i (w1.length + j) p q (by rw [List.getElem?_append_left hi]; exact hp) (by rw [List.getElem?_append_right (Nat.le_add_right _ _), Nat.add_sub_cancel_left]; exact h2) (e.trans h3.symm)
    omega
def aRL (a : Nat → Nat) : List Nat := [a 0, a 1, a 2, a 3, a 4, a 5, a 6, a 7, a 8, a 9, a 10, a 11, a 12, a 13, a 14, a 15]
def adR (a : Nat → Nat) (k : Nat) : Nat := (aRL a).getD k 0
set_option maxHeartbeats 4000000 in
set_option maxRecDepth 100000 in
theorem ft_poolRP (Γ : ft_G) (a : Nat → Nat) {H : Heap} (hP : va_P Γ.1 vwCl (wMod Γ a) H) : va_P Γ.1 vwCl (ft_W 16 (adR a) (cR_E (Γ.1, Γ.2.1, adR a) sR0)) H := fun k q hk => by
  obtain ⟨h1, rfl⟩ := ft_W_some hk
  have : k = 0 ∨ k = 1 ∨ k = 2 ∨ k = 3 ∨ k = 4 ∨ k = 5 ∨ k = 6 ∨ k = 7 ∨ k = 8 ∨ k = 9 ∨ k = 10 ∨ k = 11 ∨ k = 12 ∨ k = 13 ∨ k = 14 ∨ k = 15 := by omega
  rcases this with rfl | rfl | rfl | rfl | rfl | rfl | rfl | rfl | rfl | rfl | rfl | rfl | rfl | rfl | rfl | rfl
  · rw [cR_E10 (k := 0) rfl]; exact hP 0 _ rfl
  · rw [cR_E12 (k := 1) rfl]; exact hP 1 _ rfl
  · rw [cR_E12 (k := 2) rfl]; exact hP 2 _ rfl
  · rw [cR_E12 (k := 3) rfl]; exact hP 3 _ rfl
  · rw [cR_E12 (k := 4) rfl]; exact hP 4 _ rfl
  · rw [cR_E12 (k := 5) rfl]; exact hP 5 _ rfl
  · rw [cR_E12 (k := 6) rfl]; exact hP 6 _ rfl
  · rw [cR_E12 (k := 7) rfl]; exact hP 7 _ rfl
  · rw [cR_E12 (k := 8) rfl]; exact hP 8 _ rfl
  · rw [cR_E12 (k := 9) rfl]; exact hP 9 _ rfl
  · rw [cR_E13 (k := 10) rfl]; exact hP 10 _ rfl
  · rw [cR_E13 (k := 11) rfl]; exact hP 11 _ rfl
  · rw [cR_E13 (k := 12) rfl]; exact hP 12 _ rfl
  · rw [cR_E13 (k := 13) rfl]; exact hP 13 _ rfl
  · rw [cR_E12 (k := 14) rfl]; exact hP 14 _ rfl
  · rw [cR_E12 (k := 15) rfl]; exact hP 15 _ rfl
set_option maxHeartbeats 8000000 in
set_option maxRecDepth 100000 in
theorem ft_known {s : State} {b : Nat} (hts : ∀ w ∈ lw_tbl, w.before #[Value.ref b] s = true) (hao : va_AO "FaultTwins$State" s) : ∃ (D : va_G) (cs : ClassId × ClassId × ClassId × ClassId), va_K D vwCl (ft_ty (D, cs, fun _ => 0)) s := by
  obtain ⟨c0, iS0, hKn0⟩ := u_known (C := RX0) (T := TX0) (N := 3) (n := 3) hts lwi_X0 (hts (.instantiable RX0 3) (lwi_r1 _ (List.mem_of_getElem? (i := 17) rfl)))
  obtain ⟨c1, iS1, hKn1⟩ := u_known (C := RX1) (T := TX1) (N := 6) (n := 6) hts lwi_X1 (hts (.instantiable RX1 6) (lwi_r2 _ (List.mem_of_getElem? (i := 21) rfl)))
  obtain ⟨c2, iS2, hKn2⟩ := u_known (C := RX2) (T := TX2) (N := 7) (n := 7) hts lwi_X2 (hts (.instantiable RX2 7) (lwi_r2 _ (List.mem_of_getElem? (i := 14) rfl)))
  obtain ⟨c3, iS3, hKn3⟩ := u_known (C := RX3) (T := TX3) (N := 4) (n := 4) hts lwi_X3 (hts (.instantiable RX3 4) (lwi_r2 _ (List.mem_of_getElem? (i := 1) rfl)))
  obtain ⟨c4, iS4, hKn4⟩ := u_known (C := RX4) (T := TX4) (N := 2) (n := 2) hts lwi_X4 (hts (.instantiable RX4 2) (lwi_r1 _ (List.mem_of_getElem? (i := 13) rfl)))
  obtain ⟨c5, iS5, hKn5⟩ := u_known (C := RX5) (T := TX5) (N := 2) (n := 2) hts lwi_X5 (hts (.instantiable RX5 2) (lwi_r2 _ (List.mem_of_getElem? (i := 10) rfl)))
  obtain ⟨c6, iS6, hKn6⟩ := u_known (C := RX6) (T := TX6) (N := 8) (n := 8) hts lwi_X6 (hts (.instantiable RX6 8) (lwi_r2 _ (List.mem_of_getElem? (i := 5) rfl)))
  obtain ⟨c7, iS7, hKn7⟩ := u_known (C := RX7) (T := TX7) (N := 3) (n := 3) hts lwi_X7 (hts (.instantiable RX7 3) (lwi_r1 _ (List.mem_of_getElem? (i := 21) rfl)))
  obtain ⟨c8, iS8, hKn8⟩ := u_known (C := RX8) (T := TX8) (N := 3) (n := 3) hts lwi_X8 (hts (.instantiable RX8 3) (lwi_r3 _ (List.mem_of_getElem? (i := 1) rfl)))
  obtain ⟨c9, iS9, hKn9⟩ := u_known (C := RX9) (T := TX9) (N := 15) (n := 15) hts lwi_X9 (hts (.instantiable RX9 15) (lwi_r1 _ (List.mem_of_getElem? (i := 1) rfl)))
  obtain ⟨c10, iS10, hKn10⟩ := u_known (C := RX10) (T := TX10) (N := 25) (n := 25) hts lwi_X10 (hts (.instantiable RX10 25) (lwi_r1 _ (List.mem_of_getElem? (i := 4) rfl)))
  obtain ⟨cb, kb, qb, b1, b2, b3⟩ := Cond.arrayClass_spec (hts (.arrayClass .byte) (lwi_r4 _ (List.mem_of_getElem? (i := 21) rfl)))
  obtain ⟨ci, ki, qi, i1, i2, i3⟩ := Cond.arrayClass_spec (hts (.arrayClass .int) (lwi_r3 _ (List.mem_of_getElem? (i := 7) rfl)))
  obtain ⟨cl, kl, ql, l1, l2, l3⟩ := Cond.arrayClass_spec (hts (.arrayClass .long) (lwi_r8 _ (List.mem_of_getElem? (i := 7) rfl)))
  obtain ⟨qq, cq, kq, q1, q2, q3, q4, q5⟩ := Cond.arrayOver_spec hao
  refine ⟨(fun k => if k = 0 then c0 else if k = 1 then c1 else if k = 2 then c2 else if k = 3 then c3 else if k = 4 then c4 else if k = 5 then c5 else if k = 6 then c6 else if k = 7 then c7 else if k = 8 then c8 else if k = 9 then c9 else c10, fun k => if k = 0 then iS0 else if k = 1 then iS1 else if k = 2 then iS2 else if k = 3 then iS3 else if k = 4 then iS4 else if k = 5 then iS5 else if k = 6 then iS6 else if k = 7 then iS7 else if k = 8 then iS8 else if k = 9 then iS9 else iS10), (cb, ci, cl, cq), fun k q hq => ?_, fun k q hq => ?_⟩
  · match k, hq with
    | 0, hq => cases hq; exact hKn0
    | 1, hq => cases hq; exact hKn1
    | 2, hq => cases hq; exact hKn2
    | 3, hq => cases hq; exact hKn3
    | 4, hq => cases hq; exact hKn4
    | 5, hq => cases hq; exact hKn5
    | 6, hq => cases hq; exact hKn6
    | 7, hq => cases hq; exact hKn7
    | 8, hq => cases hq; exact hKn8
    | 9, hq => cases hq; exact hKn9
    | 10, hq => cases hq; exact hKn10
    | k + 11, hq => simp [vwCl] at hq
  · match k, hq with
    | 0, hq => cases hq; exact ⟨fun N z => ⟨(fun k h => by cases h), kb, b2, qb, b3⟩, b1⟩
    | 1, hq => cases hq; exact ⟨fun N z => ⟨(fun k h => by cases h), ki, i2, qi, i3⟩, i1⟩
    | 2, hq => cases hq; exact ⟨fun N z => ⟨(fun k h => by cases h), kl, l2, ql, l3⟩, l1⟩
    | 3, hq => cases hq; exact ⟨fun N z => ⟨(fun k h => by cases h), kq, q3, qq, q4⟩, kq, qq, q3, q4, q1, q5⟩
    | k + 4, hq => simp [ft_ty] at hq
