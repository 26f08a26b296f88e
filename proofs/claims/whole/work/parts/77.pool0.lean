/-! the last cell alone is the callee's -/
theorem ft_lastG {wb : va_W} {x : Nat × va_E} {k : Nat} {q : Nat × va_E} (h : ([x] : va_W)[k]? = some q) : (wb ++ [x])[wb.length + k]? = some q := by
  rw [List.getElem?_append_right (Nat.le_add_right _ _), Nat.add_sub_cancel_left]; exact h
theorem ft_lastP {D : va_G} {cl : List vw_C} {wb : va_W} {x : Nat × va_E} {H : Heap} (h : va_P D cl (wb ++ [x]) H) : va_P D cl [x] H := fun k q hk => h (wb.length + k) q (ft_lastG hk)
theorem ft_lastD {A : Nat → Prop} {wb : va_W} {x : Nat × va_E} (h : va_D A (wb ++ [x])) : va_D A [x] := by
  refine ⟨fun i j p q hp hq e => ?_, fun k q hk => h.2 _ q (ft_lastG hk)⟩
  have := h.1 _ _ p q (ft_lastG hp) (ft_lastG hq) e
  omega
theorem ft_lastF {A : Nat → Prop} {wb : va_W} {x : Nat × va_E} {H0 H : Heap} {locs : List Loc} (hD : va_D A (wb ++ [x])) (hS : va_S A H0 H locs) (hA : ∀ q, H0.size ≤ q → A q) : ∀ q, va_A [x] H.size q → A q := by
  rintro q (⟨k, e, h⟩ | h)
  · exact hD.2 _ (q, e) (ft_lastG h)
  · exact hA q (Nat.le_trans hS.1 h)
theorem ft_lastJ {A : Nat → Prop} {D : va_G} {cl : List vw_C} {wb w1 : va_W} {x : Nat × va_E} {H H1 : Heap} (hP : va_P D cl (wb ++ [x]) H) (hD : va_D A (wb ++ [x])) (hk : ∀ q : Nat, q < H.size → ¬ va_A [x] H.size q → H1[q]? = H[q]?) (hF : ∀ q, va_A [x] H.size q → A q) (hP1 : va_P D cl w1 H1) (hD1 : va_D (va_A [x] H.size) w1) : va_P D cl (wb ++ w1) H1 ∧ va_D A (wb ++ w1) := by
  have lg : ∀ {k : Nat} {q : Nat × va_E}, wb[k]? = some q → (wb ++ [x])[k]? = some q := fun {k q} h => by
    rw [List.getElem?_append_left (List.getElem?_eq_some_iff.mp h).1]; exact h
  have apart : ∀ (k : Nat) (q : Nat × va_E), wb[k]? = some q → q.1 < H.size ∧ ¬ va_A [x] H.size q.1 := by
    intro k q hq
    have hl := (hP k q (lg hq)).lt
    refine ⟨hl, ?_⟩
    rintro (⟨k2, e, h⟩ | h)
    · have := hD.1 _ _ q (q.1, e) (lg hq) (ft_lastG h) rfl
      have h2 := (List.getElem?_eq_some_iff.mp hq).1
      omega
    · omega
  refine ⟨va_P.app (fun k q hq => (hP k q (lg hq)).kept (hk q.1 (apart k q hq).1 (apart k q hq).2)) hP1, va_D.app ⟨fun i j p q hp hq e => hD.1 i j p q (lg hp) (lg hq) e, fun k q hq => hD.2 k q (lg hq)⟩ (hD1.weaken (fun k q _ h => hF q.1 h)) (fun i j u v hu hv e => ?_)⟩
  exact (apart i u hu).2 (by rw [e]; exact hD1.2 j v hv)
theorem ft_adr {A : Nat → Prop} {ws : va_W} {L : List Nat} (h : ws.map (fun q => q.1) = L) (hD : va_D A ws) : (∀ i j, i < L.length → j < L.length → L.getD i 0 = L.getD j 0 → i = j) ∧ ∀ k, k < L.length → A (L.getD k 0) := by
  have f : ∀ i, i < L.length → ∃ p, ws[i]? = some p ∧ p.1 = L.getD i 0 := by
    intro i hi
    have h1 : (ws.map (fun q => q.1))[i]? = some (L.getD i 0) := by
      rw [h, List.getD_eq_getElem?_getD, List.getElem?_eq_getElem hi]; rfl
    rw [List.getElem?_map] at h1
    cases h2 : ws[i]? with
    | none => rw [h2] at h1; cases h1
    | some p => rw [h2] at h1; exact ⟨p, rfl, Option.some.inj h1⟩
  refine ⟨fun i j hi hj e => ?_, fun k hk => ?_⟩
  · obtain ⟨p, a1, a2⟩ := f i hi
    obtain ⟨q, b1, b2⟩ := f j hj
    exact hD.1 i j p q a1 b1 (a2.trans (e.trans b2.symm))
  · obtain ⟨p, a1, a2⟩ := f k hk
    rw [← a2]; exact hD.2 k p a1
def adL (h0 : Nat) (a5 : Nat → Nat) (h r : Nat) (b : Nat → Nat → Nat) (a27 a38 a49 a60 a71 a82 : Nat → Nat) : List Nat := [h0, a5 0, a5 1, a5 2, a5 3, a5 4, a5 5, a5 6, h, r, b 0 0, b 0 1, b 0 2, b 0 3, b 0 4, b 0 5, b 0 6, b 1 0, b 1 1, b 1 2, b 1 3, b 1 4, b 1 5, b 1 6, b 2 0, b 2 1, b 2 2, b 2 3, b 2 4, b 2 5, b 2 6, b 3 0, b 3 1, b 3 2, b 3 3, b 3 4, b 3 5, b 3 6, b 4 0, b 4 1, b 4 2, b 4 3, b 4 4, b 4 5, b 4 6, b 5 0, b 5 1, b 5 2, b 5 3, b 5 4, b 5 5, b 5 6, a27 0, a27 1, a27 2, a38 0, a38 1, a38 2, a38 3, a49 0, a49 1, a49 2, a49 3, a49 4, a49 5, a49 6, a60 0, a60 1, a60 2, a60 3, a60 4, a60 5, a60 6, a71 0, a71 1, a82 0, a82 1, a82 2, a82 3, a82 4]
def adC (h0 : Nat) (a5 : Nat → Nat) (h r : Nat) (b : Nat → Nat → Nat) (a27 a38 a49 a60 a71 a82 : Nat → Nat) (k : Nat) : Nat := (adL h0 a5 h r b a27 a38 a49 a60 a71 a82).getD k 0
def wWW (Γ : ft_G) (h0 : Nat) (a5 : Nat → Nat) (h r : Nat) (b : Nat → Nat → Nat) (a27 a38 a49 a60 a71 a82 : Nat → Nat) : va_W := ((h0, .inr (9, [.ref (a5 0), .ref h, .ref (a27 0), .ref (a38 0), .ref (a49 0), .ref (a60 0), .ref (a71 0), .ref (a82 0), .int 0, .int 0, .int 0, .int 0, .int 0, .int 0, .int 0])) :: (((((((wSt Γ a5 ++ wHis Γ h r b) ++ wView Γ a27) ++ wSets Γ a38) ++ wTw Γ a49) ++ wTw Γ a60) ++ wTxt Γ a71) ++ wRd Γ a82))
def wFl (Γ : ft_G) (h0 : Nat) (a5 : Nat → Nat) (h r : Nat) (b : Nat → Nat → Nat) (a27 a38 a49 a60 a71 a82 : Nat → Nat) : va_W := [(h0, .inr (9, [.ref (a5 0), .ref h, .ref (a27 0), .ref (a38 0), .ref (a49 0), .ref (a60 0), .ref (a71 0), .ref (a82 0), .int 0, .int 0, .int 0, .int 0, .int 0, .int 0, .int 0])), (a5 0, .inr (4, [.ref (a5 1), .ref (a5 5)])), (a5 1, .inr (1, [.ref (a5 2), .ref (a5 3), .ref (a5 4), .int 0, .int 255, .int 0])), (a5 2, .inl (Γ.2.1.2.1, 24, .inl (fun _ => 0))), (a5 3, .inl (Γ.2.1.2.1, 24, .inl (fun _ => 0))), (a5 4, .inl (Γ.2.1.2.1, 24, .inl (fun _ => 0))), (a5 5, .inr (8, [.ref (a5 6), .int 0, .int 0])), (a5 6, .inl (Γ.2.1.2.1, 8, .inl (fun _ => 0))), (h, .inr (0, [.ref r, .int 0, .int 0])), (r, .inl (Γ.2.1.2.2.2, 6, .inr (.inr (.inr (.inr (fun j => some (b j 0))))))), (b 0 0, .inr (4, [.ref (b 0 1), .ref (b 0 5)])), (b 0 1, .inr (1, [.ref (b 0 2), .ref (b 0 3), .ref (b 0 4), .int 0, .int 255, .int 0])), (b 0 2, .inl (Γ.2.1.2.1, 24, .inl (fun _ => 0))), (b 0 3, .inl (Γ.2.1.2.1, 24, .inl (fun _ => 0))), (b 0 4, .inl (Γ.2.1.2.1, 24, .inl (fun _ => 0))), (b 0 5, .inr (8, [.ref (b 0 6), .int 0, .int 0])), (b 0 6, .inl (Γ.2.1.2.1, 8, .inl (fun _ => 0))), (b 1 0, .inr (4, [.ref (b 1 1), .ref (b 1 5)])), (b 1 1, .inr (1, [.ref (b 1 2), .ref (b 1 3), .ref (b 1 4), .int 0, .int 255, .int 0])), (b 1 2, .inl (Γ.2.1.2.1, 24, .inl (fun _ => 0))), (b 1 3, .inl (Γ.2.1.2.1, 24, .inl (fun _ => 0))), (b 1 4, .inl (Γ.2.1.2.1, 24, .inl (fun _ => 0))), (b 1 5, .inr (8, [.ref (b 1 6), .int 0, .int 0])), (b 1 6, .inl (Γ.2.1.2.1, 8, .inl (fun _ => 0))), (b 2 0, .inr (4, [.ref (b 2 1), .ref (b 2 5)])), (b 2 1, .inr (1, [.ref (b 2 2), .ref (b 2 3), .ref (b 2 4), .int 0, .int 255, .int 0])), (b 2 2, .inl (Γ.2.1.2.1, 24, .inl (fun _ => 0))), (b 2 3, .inl (Γ.2.1.2.1, 24, .inl (fun _ => 0))), (b 2 4, .inl (Γ.2.1.2.1, 24, .inl (fun _ => 0))), (b 2 5, .inr (8, [.ref (b 2 6), .int 0, .int 0])), (b 2 6, .inl (Γ.2.1.2.1, 8, .inl (fun _ => 0))), (b 3 0, .inr (4, [.ref (b 3 1), .ref (b 3 5)])), (b 3 1, .inr (1, [.ref (b 3 2), .ref (b 3 3), .ref (b 3 4), .int 0, .int 255, .int 0])), (b 3 2, .inl (Γ.2.1.2.1, 24, .inl (fun _ => 0))), (b 3 3, .inl (Γ.2.1.2.1, 24, .inl (fun _ => 0))), (b 3 4, .inl (Γ.2.1.2.1, 24, .inl (fun _ => 0))), (b 3 5, .inr (8, [.ref (b 3 6), .int 0, .int 0])), (b 3 6, .inl (Γ.2.1.2.1, 8, .inl (fun _ => 0))), (b 4 0, .inr (4, [.ref (b 4 1), .ref (b 4 5)])), (b 4 1, .inr (1, [.ref (b 4 2), .ref (b 4 3), .ref (b 4 4), .int 0, .int 255, .int 0])), (b 4 2, .inl (Γ.2.1.2.1, 24, .inl (fun _ => 0))), (b 4 3, .inl (Γ.2.1.2.1, 24, .inl (fun _ => 0))), (b 4 4, .inl (Γ.2.1.2.1, 24, .inl (fun _ => 0))), (b 4 5, .inr (8, [.ref (b 4 6), .int 0, .int 0])), (b 4 6, .inl (Γ.2.1.2.1, 8, .inl (fun _ => 0))), (b 5 0, .inr (4, [.ref (b 5 1), .ref (b 5 5)])), (b 5 1, .inr (1, [.ref (b 5 2), .ref (b 5 3), .ref (b 5 4), .int 0, .int 255, .int 0])), (b 5 2, .inl (Γ.2.1.2.1, 24, .inl (fun _ => 0))), (b 5 3, .inl (Γ.2.1.2.1, 24, .inl (fun _ => 0))), (b 5 4, .inl (Γ.2.1.2.1, 24, .inl (fun _ => 0))), (b 5 5, .inr (8, [.ref (b 5 6), .int 0, .int 0])), (b 5 6, .inl (Γ.2.1.2.1, 8, .inl (fun _ => 0))), (a27 0, .inr (7, [.ref (a27 1), .ref (a27 2), .int 0])), (a27 1, .inl (Γ.2.1.2.1, 20, .inl (fun _ => 0))), (a27 2, .inl (Γ.2.1.2.1, 160, .inl (fun _ => 0))), (a38 0, .inr (3, [.ref (a38 1), .ref (a38 2), .ref (a38 3), .int 0])), (a38 1, .inl (Γ.2.1.2.1, 500, .inl (fun _ => 0))), (a38 2, .inl (Γ.2.1.2.1, 500, .inl (fun _ => 0))), (a38 3, .inl (Γ.2.1.2.1, 1024, .inl (fun _ => 0))), (a49 0, .inr (6, [.int 0, .ref (a49 1), .ref (a49 2), .ref (a49 3), .int 0, .ref (a49 4), .ref (a49 5), .ref (a49 6)])), (a49 1, .inl (Γ.2.1.2.1, 10, .inl (fun _ => 0))), (a49 2, .inl (Γ.2.1.2.1, 80, .inl (fun _ => 0))), (a49 3, .inl (Γ.2.1.2.1, 20, .inl (fun _ => 0))), (a49 4, .inl (Γ.2.1.2.1, 10, .inl (fun _ => 0))), (a49 5, .inl (Γ.2.1.2.1, 10, .inl (fun _ => 0))), (a49 6, .inl (Γ.2.1.2.1, 10, .inl (fun _ => 0))), (a60 0, .inr (6, [.int 0, .ref (a60 1), .ref (a60 2), .ref (a60 3), .int 0, .ref (a60 4), .ref (a60 5), .ref (a60 6)])), (a60 1, .inl (Γ.2.1.2.1, 10, .inl (fun _ => 0))), (a60 2, .inl (Γ.2.1.2.1, 80, .inl (fun _ => 0))), (a60 3, .inl (Γ.2.1.2.1, 20, .inl (fun _ => 0))), (a60 4, .inl (Γ.2.1.2.1, 10, .inl (fun _ => 0))), (a60 5, .inl (Γ.2.1.2.1, 10, .inl (fun _ => 0))), (a60 6, .inl (Γ.2.1.2.1, 10, .inl (fun _ => 0))), (a71 0, .inr (5, [.ref (a71 1), .int 0])), (a71 1, .inl (Γ.2.1.1, 120, .inl (fun _ => 0))), (a82 0, .inr (2, [.ref (a82 1), .int 0, .int 0, .int 0, .int 0, .int 0, .int 0])), (a82 1, .inr (1, [.ref (a82 2), .ref (a82 3), .ref (a82 4), .int 0, .int 255, .int 0])), (a82 2, .inl (Γ.2.1.2.1, 24, .inl (fun _ => 0))), (a82 3, .inl (Γ.2.1.2.1, 24, .inl (fun _ => 0))), (a82 4, .inl (Γ.2.1.2.1, 24, .inl (fun _ => 0)))]
set_option maxHeartbeats 8000000 in
set_option maxRecDepth 100000 in
theorem wFl_eq (Γ : ft_G) (h0 : Nat) (a5 : Nat → Nat) (h r : Nat) (b : Nat → Nat → Nat) (a27 a38 a49 a60 a71 a82 : Nat → Nat) : wWW Γ h0 a5 h r b a27 a38 a49 a60 a71 a82 = wFl Γ h0 a5 h r b a27 a38 a49 a60 a71 a82 := rfl
set_option maxHeartbeats 8000000 in
set_option maxRecDepth 100000 in
theorem ft_poolD {A : Nat → Prop} (Γ : ft_G) (h0 : Nat) (a5 : Nat → Nat) (h r : Nat) (b : Nat → Nat → Nat) (a27 a38 a49 a60 a71 a82 : Nat → Nat) (hD : va_D A (wWW Γ h0 a5 h r b a27 a38 a49 a60 a71 a82)) : ft_I 80 (adC h0 a5 h r b a27 a38 a49 a60 a71 a82) ∧ ∀ k, k < 80 → A (adC h0 a5 h r b a27 a38 a49 a60 a71 a82 k) := ft_adr (ws := wFl Γ h0 a5 h r b a27 a38 a49 a60 a71 a82) (L := adL h0 a5 h r b a27 a38 a49 a60 a71 a82) rfl (wFl_eq Γ h0 a5 h r b a27 a38 a49 a60 a71 a82 ▸ hD)
set_option maxHeartbeats 8000000 in
set_option maxRecDepth 100000 in
theorem ft_poolP0 (Γ : ft_G) (h0 : Nat) (a5 : Nat → Nat) (h r : Nat) (b : Nat → Nat → Nat) (a27 a38 a49 a60 a71 a82 : Nat → Nat) {H : Heap} (hP : va_P Γ.1 vwCl (wFl Γ h0 a5 h r b a27 a38 a49 a60 a71 a82) H) (k : Nat) (h1 : 0 ≤ k) (h2 : k < 10) : va_at Γ.1 vwCl (adC h0 a5 h r b a27 a38 a49 a60 a71 a82 k, cC_E (Γ.1, Γ.2.1, adC h0 a5 h r b a27 a38 a49 a60 a71 a82) sC0 k) H := by
  have : k = 0 ∨ k = 1 ∨ k = 2 ∨ k = 3 ∨ k = 4 ∨ k = 5 ∨ k = 6 ∨ k = 7 ∨ k = 8 ∨ k = 9 := by omega
  rcases this with rfl | rfl | rfl | rfl | rfl | rfl | rfl | rfl | rfl | rfl
  · rw [cC_E9 (k := 0) rfl]; exact hP 0 (h0, .inr (9, [.ref (a5 0), .ref h, .ref (a27 0), .ref (a38 0), .ref (a49 0), .ref (a60 0), .ref (a71 0), .ref (a82 0), .int 0, .int 0, .int 0, .int 0, .int 0, .int 0, .int 0])) rfl
  · rw [cC_E4 (k := 1) rfl]; exact hP 1 (a5 0, .inr (4, [.ref (a5 1), .ref (a5 5)])) rfl
  · rw [cC_E1 (k := 2) rfl]; exact hP 2 (a5 1, .inr (1, [.ref (a5 2), .ref (a5 3), .ref (a5 4), .int 0, .int 255, .int 0])) rfl
  · rw [cC_E12 (k := 3) rfl]; exact hP 3 (a5 2, .inl (Γ.2.1.2.1, 24, .inl (fun _ => 0))) rfl
  · rw [cC_E12 (k := 4) rfl]; exact hP 4 (a5 3, .inl (Γ.2.1.2.1, 24, .inl (fun _ => 0))) rfl
  · rw [cC_E12 (k := 5) rfl]; exact hP 5 (a5 4, .inl (Γ.2.1.2.1, 24, .inl (fun _ => 0))) rfl
  · rw [cC_E8 (k := 6) rfl]; exact hP 6 (a5 5, .inr (8, [.ref (a5 6), .int 0, .int 0])) rfl
  · rw [cC_E12 (k := 7) rfl]; exact hP 7 (a5 6, .inl (Γ.2.1.2.1, 8, .inl (fun _ => 0))) rfl
  · rw [cC_E0 (k := 8) rfl]; exact hP 8 (h, .inr (0, [.ref r, .int 0, .int 0])) rfl
  · rw [cC_E14 (k := 9) rfl]
    refine ft_refs (hP 9 (r, .inl (Γ.2.1.2.2.2, 6, .inr (.inr (.inr (.inr (fun j => some (b j 0))))))) rfl) (fun j hj => ?_)
    have : j = 0 ∨ j = 1 ∨ j = 2 ∨ j = 3 ∨ j = 4 ∨ j = 5 := by omega
    rcases this with e | e | e | e | e | e <;> subst e <;> rfl
set_option maxHeartbeats 8000000 in
set_option maxRecDepth 100000 in
theorem ft_poolP1 (Γ : ft_G) (h0 : Nat) (a5 : Nat → Nat) (h r : Nat) (b : Nat → Nat → Nat) (a27 a38 a49 a60 a71 a82 : Nat → Nat) {H : Heap} (hP : va_P Γ.1 vwCl (wFl Γ h0 a5 h r b a27 a38 a49 a60 a71 a82) H) (k : Nat) (h1 : 10 ≤ k) (h2 : k < 20) : va_at Γ.1 vwCl (adC h0 a5 h r b a27 a38 a49 a60 a71 a82 k, cC_E (Γ.1, Γ.2.1, adC h0 a5 h r b a27 a38 a49 a60 a71 a82) sC0 k) H := by
  have : k = 10 ∨ k = 11 ∨ k = 12 ∨ k = 13 ∨ k = 14 ∨ k = 15 ∨ k = 16 ∨ k = 17 ∨ k = 18 ∨ k = 19 := by omega
  rcases this with rfl | rfl | rfl | rfl | rfl | rfl | rfl | rfl | rfl | rfl
  · rw [cC_E4 (k := 10) rfl]; exact hP 10 (b 0 0, .inr (4, [.ref (b 0 1), .ref (b 0 5)])) rfl
  · rw [cC_E1 (k := 11) rfl]; exact hP 11 (b 0 1, .inr (1, [.ref (b 0 2), .ref (b 0 3), .ref (b 0 4), .int 0, .int 255, .int 0])) rfl
  · rw [cC_E12 (k := 12) rfl]; exact hP 12 (b 0 2, .inl (Γ.2.1.2.1, 24, .inl (fun _ => 0))) rfl
  · rw [cC_E12 (k := 13) rfl]; exact hP 13 (b 0 3, .inl (Γ.2.1.2.1, 24, .inl (fun _ => 0))) rfl
  · rw [cC_E12 (k := 14) rfl]; exact hP 14 (b 0 4, .inl (Γ.2.1.2.1, 24, .inl (fun _ => 0))) rfl
  · rw [cC_E8 (k := 15) rfl]; exact hP 15 (b 0 5, .inr (8, [.ref (b 0 6), .int 0, .int 0])) rfl
  · rw [cC_E12 (k := 16) rfl]; exact hP 16 (b 0 6, .inl (Γ.2.1.2.1, 8, .inl (fun _ => 0))) rfl
  · rw [cC_E4 (k := 17) rfl]; exact hP 17 (b 1 0, .inr (4, [.ref (b 1 1), .ref (b 1 5)])) rfl
  · rw [cC_E1 (k := 18) rfl]; exact hP 18 (b 1 1, .inr (1, [.ref (b 1 2), .ref (b 1 3), .ref (b 1 4), .int 0, .int 255, .int 0])) rfl
  · rw [cC_E12 (k := 19) rfl]; exact hP 19 (b 1 2, .inl (Γ.2.1.2.1, 24, .inl (fun _ => 0))) rfl
set_option maxHeartbeats 8000000 in
set_option maxRecDepth 100000 in
theorem ft_poolP2 (Γ : ft_G) (h0 : Nat) (a5 : Nat → Nat) (h r : Nat) (b : Nat → Nat → Nat) (a27 a38 a49 a60 a71 a82 : Nat → Nat) {H : Heap} (hP : va_P Γ.1 vwCl (wFl Γ h0 a5 h r b a27 a38 a49 a60 a71 a82) H) (k : Nat) (h1 : 20 ≤ k) (h2 : k < 30) : va_at Γ.1 vwCl (adC h0 a5 h r b a27 a38 a49 a60 a71 a82 k, cC_E (Γ.1, Γ.2.1, adC h0 a5 h r b a27 a38 a49 a60 a71 a82) sC0 k) H := by
  have : k = 20 ∨ k = 21 ∨ k = 22 ∨ k = 23 ∨ k = 24 ∨ k = 25 ∨ k = 26 ∨ k = 27 ∨ k = 28 ∨ k = 29 := by omega
  rcases this with rfl | rfl | rfl | rfl | rfl | rfl | rfl | rfl | rfl | rfl
  · rw [cC_E12 (k := 20) rfl]; exact hP 20 (b 1 3, .inl (Γ.2.1.2.1, 24, .inl (fun _ => 0))) rfl
  · rw [cC_E12 (k := 21) rfl]; exact hP 21 (b 1 4, .inl (Γ.2.1.2.1, 24, .inl (fun _ => 0))) rfl
  · rw [cC_E8 (k := 22) rfl]; exact hP 22 (b 1 5, .inr (8, [.ref (b 1 6), .int 0, .int 0])) rfl
  · rw [cC_E12 (k := 23) rfl]; exact hP 23 (b 1 6, .inl (Γ.2.1.2.1, 8, .inl (fun _ => 0))) rfl
  · rw [cC_E4 (k := 24) rfl]; exact hP 24 (b 2 0, .inr (4, [.ref (b 2 1), .ref (b 2 5)])) rfl
  · rw [cC_E1 (k := 25) rfl]; exact hP 25 (b 2 1, .inr (1, [.ref (b 2 2), .ref (b 2 3), .ref (b 2 4), .int 0, .int 255, .int 0])) rfl
  · rw [cC_E12 (k := 26) rfl]; exact hP 26 (b 2 2, .inl (Γ.2.1.2.1, 24, .inl (fun _ => 0))) rfl
  · rw [cC_E12 (k := 27) rfl]; exact hP 27 (b 2 3, .inl (Γ.2.1.2.1, 24, .inl (fun _ => 0))) rfl
  · rw [cC_E12 (k := 28) rfl]; exact hP 28 (b 2 4, .inl (Γ.2.1.2.1, 24, .inl (fun _ => 0))) rfl
  · rw [cC_E8 (k := 29) rfl]; exact hP 29 (b 2 5, .inr (8, [.ref (b 2 6), .int 0, .int 0])) rfl
set_option maxHeartbeats 8000000 in
set_option maxRecDepth 100000 in
theorem ft_poolP3 (Γ : ft_G) (h0 : Nat) (a5 : Nat → Nat) (h r : Nat) (b : Nat → Nat → Nat) (a27 a38 a49 a60 a71 a82 : Nat → Nat) {H : Heap} (hP : va_P Γ.1 vwCl (wFl Γ h0 a5 h r b a27 a38 a49 a60 a71 a82) H) (k : Nat) (h1 : 30 ≤ k) (h2 : k < 40) : va_at Γ.1 vwCl (adC h0 a5 h r b a27 a38 a49 a60 a71 a82 k, cC_E (Γ.1, Γ.2.1, adC h0 a5 h r b a27 a38 a49 a60 a71 a82) sC0 k) H := by
  have : k = 30 ∨ k = 31 ∨ k = 32 ∨ k = 33 ∨ k = 34 ∨ k = 35 ∨ k = 36 ∨ k = 37 ∨ k = 38 ∨ k = 39 := by omega
  rcases this with rfl | rfl | rfl | rfl | rfl | rfl | rfl | rfl | rfl | rfl
  · rw [cC_E12 (k := 30) rfl]; exact hP 30 (b 2 6, .inl (Γ.2.1.2.1, 8, .inl (fun _ => 0))) rfl
  · rw [cC_E4 (k := 31) rfl]; exact hP 31 (b 3 0, .inr (4, [.ref (b 3 1), .ref (b 3 5)])) rfl
  · rw [cC_E1 (k := 32) rfl]; exact hP 32 (b 3 1, .inr (1, [.ref (b 3 2), .ref (b 3 3), .ref (b 3 4), .int 0, .int 255, .int 0])) rfl
  · rw [cC_E12 (k := 33) rfl]; exact hP 33 (b 3 2, .inl (Γ.2.1.2.1, 24, .inl (fun _ => 0))) rfl
  · rw [cC_E12 (k := 34) rfl]; exact hP 34 (b 3 3, .inl (Γ.2.1.2.1, 24, .inl (fun _ => 0))) rfl
  · rw [cC_E12 (k := 35) rfl]; exact hP 35 (b 3 4, .inl (Γ.2.1.2.1, 24, .inl (fun _ => 0))) rfl
  · rw [cC_E8 (k := 36) rfl]; exact hP 36 (b 3 5, .inr (8, [.ref (b 3 6), .int 0, .int 0])) rfl
  · rw [cC_E12 (k := 37) rfl]; exact hP 37 (b 3 6, .inl (Γ.2.1.2.1, 8, .inl (fun _ => 0))) rfl
  · rw [cC_E4 (k := 38) rfl]; exact hP 38 (b 4 0, .inr (4, [.ref (b 4 1), .ref (b 4 5)])) rfl
  · rw [cC_E1 (k := 39) rfl]; exact hP 39 (b 4 1, .inr (1, [.ref (b 4 2), .ref (b 4 3), .ref (b 4 4), .int 0, .int 255, .int 0])) rfl
set_option maxHeartbeats 8000000 in
set_option maxRecDepth 100000 in
theorem ft_poolP4 (Γ : ft_G) (h0 : Nat) (a5 : Nat → Nat) (h r : Nat) (b : Nat → Nat → Nat) (a27 a38 a49 a60 a71 a82 : Nat → Nat) {H : Heap} (hP : va_P Γ.1 vwCl (wFl Γ h0 a5 h r b a27 a38 a49 a60 a71 a82) H) (k : Nat) (h1 : 40 ≤ k) (h2 : k < 50) : va_at Γ.1 vwCl (adC h0 a5 h r b a27 a38 a49 a60 a71 a82 k, cC_E (Γ.1, Γ.2.1, adC h0 a5 h r b a27 a38 a49 a60 a71 a82) sC0 k) H := by
  have : k = 40 ∨ k = 41 ∨ k = 42 ∨ k = 43 ∨ k = 44 ∨ k = 45 ∨ k = 46 ∨ k = 47 ∨ k = 48 ∨ k = 49 := by omega
  rcases this with rfl | rfl | rfl | rfl | rfl | rfl | rfl | rfl | rfl | rfl
  · rw [cC_E12 (k := 40) rfl]; exact hP 40 (b 4 2, .inl (Γ.2.1.2.1, 24, .inl (fun _ => 0))) rfl
  · rw [cC_E12 (k := 41) rfl]; exact hP 41 (b 4 3, .inl (Γ.2.1.2.1, 24, .inl (fun _ => 0))) rfl
  · rw [cC_E12 (k := 42) rfl]; exact hP 42 (b 4 4, .inl (Γ.2.1.2.1, 24, .inl (fun _ => 0))) rfl
  · rw [cC_E8 (k := 43) rfl]; exact hP 43 (b 4 5, .inr (8, [.ref (b 4 6), .int 0, .int 0])) rfl
  · rw [cC_E12 (k := 44) rfl]; exact hP 44 (b 4 6, .inl (Γ.2.1.2.1, 8, .inl (fun _ => 0))) rfl
  · rw [cC_E4 (k := 45) rfl]; exact hP 45 (b 5 0, .inr (4, [.ref (b 5 1), .ref (b 5 5)])) rfl
  · rw [cC_E1 (k := 46) rfl]; exact hP 46 (b 5 1, .inr (1, [.ref (b 5 2), .ref (b 5 3), .ref (b 5 4), .int 0, .int 255, .int 0])) rfl
  · rw [cC_E12 (k := 47) rfl]; exact hP 47 (b 5 2, .inl (Γ.2.1.2.1, 24, .inl (fun _ => 0))) rfl
  · rw [cC_E12 (k := 48) rfl]; exact hP 48 (b 5 3, .inl (Γ.2.1.2.1, 24, .inl (fun _ => 0))) rfl
  · rw [cC_E12 (k := 49) rfl]; exact hP 49 (b 5 4, .inl (Γ.2.1.2.1, 24, .inl (fun _ => 0))) rfl
set_option maxHeartbeats 8000000 in
set_option maxRecDepth 100000 in
theorem ft_poolP5 (Γ : ft_G) (h0 : Nat) (a5 : Nat → Nat) (h r : Nat) (b : Nat → Nat → Nat) (a27 a38 a49 a60 a71 a82 : Nat → Nat) {H : Heap} (hP : va_P Γ.1 vwCl (wFl Γ h0 a5 h r b a27 a38 a49 a60 a71 a82) H) (k : Nat) (h1 : 50 ≤ k) (h2 : k < 60) : va_at Γ.1 vwCl (adC h0 a5 h r b a27 a38 a49 a60 a71 a82 k, cC_E (Γ.1, Γ.2.1, adC h0 a5 h r b a27 a38 a49 a60 a71 a82) sC0 k) H := by
  have : k = 50 ∨ k = 51 ∨ k = 52 ∨ k = 53 ∨ k = 54 ∨ k = 55 ∨ k = 56 ∨ k = 57 ∨ k = 58 ∨ k = 59 := by omega
  rcases this with rfl | rfl | rfl | rfl | rfl | rfl | rfl | rfl | rfl | rfl
  · rw [cC_E8 (k := 50) rfl]; exact hP 50 (b 5 5, .inr (8, [.ref (b 5 6), .int 0, .int 0])) rfl
  · rw [cC_E12 (k := 51) rfl]; exact hP 51 (b 5 6, .inl (Γ.2.1.2.1, 8, .inl (fun _ => 0))) rfl
  · rw [cC_E7 (k := 52) rfl]; exact hP 52 (a27 0, .inr (7, [.ref (a27 1), .ref (a27 2), .int 0])) rfl
  · rw [cC_E12 (k := 53) rfl]; exact hP 53 (a27 1, .inl (Γ.2.1.2.1, 20, .inl (fun _ => 0))) rfl
  · rw [cC_E12 (k := 54) rfl]; exact hP 54 (a27 2, .inl (Γ.2.1.2.1, 160, .inl (fun _ => 0))) rfl
  · rw [cC_E3 (k := 55) rfl]; exact hP 55 (a38 0, .inr (3, [.ref (a38 1), .ref (a38 2), .ref (a38 3), .int 0])) rfl
  · rw [cC_E12 (k := 56) rfl]; exact hP 56 (a38 1, .inl (Γ.2.1.2.1, 500, .inl (fun _ => 0))) rfl
  · rw [cC_E12 (k := 57) rfl]; exact hP 57 (a38 2, .inl (Γ.2.1.2.1, 500, .inl (fun _ => 0))) rfl
  · rw [cC_E12 (k := 58) rfl]; exact hP 58 (a38 3, .inl (Γ.2.1.2.1, 1024, .inl (fun _ => 0))) rfl
  · rw [cC_E6 (k := 59) rfl]; exact hP 59 (a49 0, .inr (6, [.int 0, .ref (a49 1), .ref (a49 2), .ref (a49 3), .int 0, .ref (a49 4), .ref (a49 5), .ref (a49 6)])) rfl
set_option maxHeartbeats 8000000 in
set_option maxRecDepth 100000 in
theorem ft_poolP6 (Γ : ft_G) (h0 : Nat) (a5 : Nat → Nat) (h r : Nat) (b : Nat → Nat → Nat) (a27 a38 a49 a60 a71 a82 : Nat → Nat) {H : Heap} (hP : va_P Γ.1 vwCl (wFl Γ h0 a5 h r b a27 a38 a49 a60 a71 a82) H) (k : Nat) (h1 : 60 ≤ k) (h2 : k < 70) : va_at Γ.1 vwCl (adC h0 a5 h r b a27 a38 a49 a60 a71 a82 k, cC_E (Γ.1, Γ.2.1, adC h0 a5 h r b a27 a38 a49 a60 a71 a82) sC0 k) H := by
  have : k = 60 ∨ k = 61 ∨ k = 62 ∨ k = 63 ∨ k = 64 ∨ k = 65 ∨ k = 66 ∨ k = 67 ∨ k = 68 ∨ k = 69 := by omega
  rcases this with rfl | rfl | rfl | rfl | rfl | rfl | rfl | rfl | rfl | rfl
  · rw [cC_E12 (k := 60) rfl]; exact hP 60 (a49 1, .inl (Γ.2.1.2.1, 10, .inl (fun _ => 0))) rfl
  · rw [cC_E12 (k := 61) rfl]; exact hP 61 (a49 2, .inl (Γ.2.1.2.1, 80, .inl (fun _ => 0))) rfl
  · rw [cC_E12 (k := 62) rfl]; exact hP 62 (a49 3, .inl (Γ.2.1.2.1, 20, .inl (fun _ => 0))) rfl
  · rw [cC_E12 (k := 63) rfl]; exact hP 63 (a49 4, .inl (Γ.2.1.2.1, 10, .inl (fun _ => 0))) rfl
  · rw [cC_E12 (k := 64) rfl]; exact hP 64 (a49 5, .inl (Γ.2.1.2.1, 10, .inl (fun _ => 0))) rfl
  · rw [cC_E12 (k := 65) rfl]; exact hP 65 (a49 6, .inl (Γ.2.1.2.1, 10, .inl (fun _ => 0))) rfl
  · rw [cC_E6 (k := 66) rfl]; exact hP 66 (a60 0, .inr (6, [.int 0, .ref (a60 1), .ref (a60 2), .ref (a60 3), .int 0, .ref (a60 4), .ref (a60 5), .ref (a60 6)])) rfl
  · rw [cC_E12 (k := 67) rfl]; exact hP 67 (a60 1, .inl (Γ.2.1.2.1, 10, .inl (fun _ => 0))) rfl
  · rw [cC_E12 (k := 68) rfl]; exact hP 68 (a60 2, .inl (Γ.2.1.2.1, 80, .inl (fun _ => 0))) rfl
  · rw [cC_E12 (k := 69) rfl]; exact hP 69 (a60 3, .inl (Γ.2.1.2.1, 20, .inl (fun _ => 0))) rfl
set_option maxHeartbeats 8000000 in
set_option maxRecDepth 100000 in
theorem ft_poolP7 (Γ : ft_G) (h0 : Nat) (a5 : Nat → Nat) (h r : Nat) (b : Nat → Nat → Nat) (a27 a38 a49 a60 a71 a82 : Nat → Nat) {H : Heap} (hP : va_P Γ.1 vwCl (wFl Γ h0 a5 h r b a27 a38 a49 a60 a71 a82) H) (k : Nat) (h1 : 70 ≤ k) (h2 : k < 80) : va_at Γ.1 vwCl (adC h0 a5 h r b a27 a38 a49 a60 a71 a82 k, cC_E (Γ.1, Γ.2.1, adC h0 a5 h r b a27 a38 a49 a60 a71 a82) sC0 k) H := by
  have : k = 70 ∨ k = 71 ∨ k = 72 ∨ k = 73 ∨ k = 74 ∨ k = 75 ∨ k = 76 ∨ k = 77 ∨ k = 78 ∨ k = 79 := by omega
  rcases this with rfl | rfl | rfl | rfl | rfl | rfl | rfl | rfl | rfl | rfl
  · rw [cC_E12 (k := 70) rfl]; exact hP 70 (a60 4, .inl (Γ.2.1.2.1, 10, .inl (fun _ => 0))) rfl
  · rw [cC_E12 (k := 71) rfl]; exact hP 71 (a60 5, .inl (Γ.2.1.2.1, 10, .inl (fun _ => 0))) rfl
  · rw [cC_E12 (k := 72) rfl]; exact hP 72 (a60 6, .inl (Γ.2.1.2.1, 10, .inl (fun _ => 0))) rfl
  · rw [cC_E5 (k := 73) rfl]; exact hP 73 (a71 0, .inr (5, [.ref (a71 1), .int 0])) rfl
  · rw [cC_E11 (k := 74) rfl]; exact hP 74 (a71 1, .inl (Γ.2.1.1, 120, .inl (fun _ => 0))) rfl
  · rw [cC_E2 (k := 75) rfl]; exact hP 75 (a82 0, .inr (2, [.ref (a82 1), .int 0, .int 0, .int 0, .int 0, .int 0, .int 0])) rfl
  · rw [cC_E1 (k := 76) rfl]; exact hP 76 (a82 1, .inr (1, [.ref (a82 2), .ref (a82 3), .ref (a82 4), .int 0, .int 255, .int 0])) rfl
  · rw [cC_E12 (k := 77) rfl]; exact hP 77 (a82 2, .inl (Γ.2.1.2.1, 24, .inl (fun _ => 0))) rfl
  · rw [cC_E12 (k := 78) rfl]; exact hP 78 (a82 3, .inl (Γ.2.1.2.1, 24, .inl (fun _ => 0))) rfl
  · rw [cC_E12 (k := 79) rfl]; exact hP 79 (a82 4, .inl (Γ.2.1.2.1, 24, .inl (fun _ => 0))) rfl
theorem ft_poolP (Γ : ft_G) (h0 : Nat) (a5 : Nat → Nat) (h r : Nat) (b : Nat → Nat → Nat) (a27 a38 a49 a60 a71 a82 : Nat → Nat) {H : Heap} (hP : va_P Γ.1 vwCl (wWW Γ h0 a5 h r b a27 a38 a49 a60 a71 a82) H) : va_P Γ.1 vwCl (ft_W 80 (adC h0 a5 h r b a27 a38 a49 a60 a71 a82) (cC_E (Γ.1, Γ.2.1, adC h0 a5 h r b a27 a38 a49 a60 a71 a82) sC0)) H := fun k q hk => by
  obtain ⟨h1, rfl⟩ := ft_W_some hk
  rw [wFl_eq] at hP
  have : k < 10 ∨ (10 ≤ k ∧ k < 20) ∨ (20 ≤ k ∧ k < 30) ∨ (30 ≤ k ∧ k < 40) ∨ (40 ≤ k ∧ k < 50) ∨ (50 ≤ k ∧ k < 60) ∨ (60 ≤ k ∧ k < 70) ∨ 70 ≤ k := by omega
  rcases this with g | g | g | g | g | g | g | g
  · exact ft_poolP0 Γ h0 a5 h r b a27 a38 a49 a60 a71 a82 hP k (Nat.zero_le _) g
  · exact ft_poolP1 Γ h0 a5 h r b a27 a38 a49 a60 a71 a82 hP k g.1 g.2
  · exact ft_poolP2 Γ h0 a5 h r b a27 a38 a49 a60 a71 a82 hP k g.1 g.2
  · exact ft_poolP3 Γ h0 a5 h r b a27 a38 a49 a60 a71 a82 hP k g.1 g.2
  · exact ft_poolP4 Γ h0 a5 h r b a27 a38 a49 a60 a71 a82 hP k g.1 g.2
  · exact ft_poolP5 Γ h0 a5 h r b a27 a38 a49 a60 a71 a82 hP k g.1 g.2
  · exact ft_poolP6 Γ h0 a5 h r b a27 a38 a49 a60 a71 a82 hP k g.1 g.2
  · exact ft_poolP7 Γ h0 a5 h r b a27 a38 a49 a60 a71 a82 hP k g h1
