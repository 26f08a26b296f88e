/-! the model's calls -/
theorem rm_of {σ σ' : ft_St} {M : MM} (h : RepRM σ M) (h1 : σ'.1 0 1 = σ.1 0 1) (h5 : σ'.1 0 5 = σ.1 0 5) (h6 : σ'.1 0 6 = σ.1 0 6) (k2 : σ'.2.1 2 = σ.2.1 2) (k3 : σ'.2.1 3 = σ.2.1 3) (k4 : σ'.2.1 4 = σ.2.1 4) : RepRM σ' M := by
  refine ⟨h1.trans h.1, h5.trans h.2.1, h6.trans h.2.2.1, fun w hw => ?_⟩
  rw [k2, k3, k4]; exact h.2.2.2 w hw
theorem r_inW {σ : ft_St} {M : MM} {a : Int32} {Φ : Int32 → Prop} (hM : RepRM σ M) (hok : MOk M) (h1 : isW M a → Φ 1) (h0 : ¬ isW M a → Φ 0) : w_X10_in a 0 ((σ.1 0 1) - 1) Φ := by
  have h24 := hok.1
  rw [hM.1]
  rcases Nat.eq_zero_or_pos (mN M) with e | e
  · have hno : ¬ isW M a := by rintro ⟨n, hn, -⟩; omega
    unfold w_X10_in
    rw [e]
    intro J hJ
    refine ⟨fun _ => hJ (h0 hno), fun y => ⟨fun _ => hJ (h0 hno), fun y2 => absurd y2 (fun y3 => y3 ?_)⟩⟩
    have ea : (nI 0 - 1 : Int32) = -1 := by decide
    rw [ea]
    rw [Int32.lt_iff_toInt_lt] at y ⊢
    have e0 : (0 : Int32).toInt = 0 := by decide
    have e1 : (-1 : Int32).toInt = -1 := by decide
    omega
  · rw [nI_sub1 e]
    have eq : isN a (mN M - 1) ↔ isW M a := ⟨fun ⟨n, hn, e2⟩ => ⟨n, by omega, e2⟩, fun ⟨n, hn, e2⟩ => ⟨n, by omega, e2⟩⟩
    exact r_in (by omega) (fun y => h1 (eq.mp y)) (fun y => h0 (fun w => y (eq.mpr w)))
theorem r_way {σ : ft_St} {A : AA} {a d b : Int32} {Φ : Int32 → ft_St → Prop} (hR : RepR σ A) (hok : AOk A) (h : ∀ σ', RepR σ' (wayF A a d b).2 → Φ (wayF A a d b).1 σ') : w_X10_way a d b σ Φ := by
  unfold w_X10_way
  unfold wayF at h
  have hM := hR.1.1
  have hokM := hok.1.1
  have h24 := hokM.1
  have bad : ¬ (isN a 9 ∧ isN d 7 ∧ isN b 9) → w_X10_bad σ (fun (r3 : Int32) (s4 : ft_St) => Φ r3 s4) := fun y => by
    rw [cif_f y] at h
    exact r_badA hR h
  refine r_isPlace (fun y1 J2 hJ2 => ⟨fun z => absurd z (by decide), fun _ => ?_⟩) (fun y1 J2 hJ2 => ⟨fun _ => hJ2 (bad (fun w => y1 w.1)), fun z => absurd rfl z⟩)
  refine r_isDeed (fun y2 => ⟨fun z => absurd z (by decide), fun _ => ?_⟩) (fun y2 => ⟨fun _ => hJ2 (bad (fun w => y2 w.2.1)), fun z => absurd rfl z⟩)
  refine r_isPlace (fun y3 => ⟨fun _ => ?_, fun z => absurd z (by decide)⟩) (fun y3 => ⟨fun z => absurd rfl z, fun _ => hJ2 (bad (fun w => y3 w.2.2))⟩)
  rw [cif_t ⟨y1, y2, y3⟩] at h
  obtain ⟨ba, ea⟩ := y1.cl (by decide)
  obtain ⟨bd, ed⟩ := y2.cl (by decide)
  obtain ⟨bb, eb⟩ := y3.cl (by decide)
  have e24 : σ.1 0 1 = 24 ↔ mN (zM A.1) = 24 := by rw [hM.1]; exact nI_eq (b := 24) (by omega) (by decide)
  rw [e24]
  have key : w_X10_isThere (nI (cl a)) (nI (cl d)) (nI (cl b)) σ (fun (r7 : Int32) => (r7 = 0 → (¬ mN (zM A.1) = 24 → w_X10_leavesState σ (fun (s8 : ft_St) => w_X10_comesWay (nI (cl a)) (nI (cl d)) (nI (cl b)) s8 (fun (s9 : ft_St) => w_X10_begins s9 (fun (s10 : ft_St) => Φ ((s10.1 0 1) - 1) s10)))) ∧ (mN (zM A.1) = 24 → w_X10_full σ (fun (r11 : Int32) (s12 : ft_St) => Φ r11 s12))) ∧ (¬ r7 = 0 → w_X10_no σ (fun (r13 : Int32) (s14 : ft_St) => Φ r13 s14))) := by
    refine r_isThere hM hokM (by omega) (by omega) (by omega) ?_
    cases hb : hasB (zM A.1) (cl a) (cl d) (cl b)
    · rw [cif_f (by rw [hb]; decide)] at h
      refine ⟨fun _ => ⟨fun y => ?_, fun y => ?_⟩, fun z => absurd rfl z⟩
      · have hlt : mN (zM A.1) < 24 := by omega
        rw [cif_t hlt] at h
        refine r_leavesA hR hok (fun s8 hR8 k1 k2 => ?_)
        refine r_comesWay hR8.1.1 hlt (fun s9 hM9 hO9 => ?_)
        refine r_beginsA hM9 (addW_ok hokM hlt (by omega) (by omega) (by omega)) (hR8.2.oth hO9) (fun s10 hR10 e1 => ?_)
        rw [e1, hM9.1]
        have e2 : nI (mN (addW (zM A.1) (cl a) (cl d) (cl b))) - 1 = nI (mN (zM A.1)) := nI_sub1 (Nat.succ_pos _)
        rw [e2]
        exact h s10 hR10
      · rw [cif_f (by omega)] at h
        exact r_fullA hR h
    · rw [cif_t hb] at h
      exact ⟨fun z => absurd z (by decide), fun _ => r_noA hR h⟩
  rw [← ea, ← ed, ← eb] at key
  exact key
theorem r_drop {σ : ft_St} {A : AA} {w : Int32} {Φ : Int32 → ft_St → Prop} (hR : RepR σ A) (hok : AOk A) (h : ∀ σ', RepR σ' (dropF A w).2 → Φ (dropF A w).1 σ') : w_X10_drop w σ Φ := by
  unfold w_X10_drop
  unfold dropF at h
  have hM := hR.1.1
  have hokM := hok.1.1
  have h24 := hokM.1
  refine r_inW hM hokM (fun y => ⟨fun _ => ?_, fun z => absurd z (by decide)⟩) (fun y => ⟨fun z => absurd rfl z, fun _ => ?_⟩)
  rotate_left
  · rw [cif_f y] at h
    exact r_badA hR h
  rw [cif_t y] at h
  obtain ⟨bw, ew⟩ := y.cl hokM
  obtain ⟨v, hv⟩ : ∃ v, v = cl w := ⟨_, rfl⟩
  rw [← hv] at bw ew h
  refine r_leavesA hR hok (fun s2 hR2 k1 k2 s3 g3 => ?_)
  have hM2 := hR2.1.1
  obtain ⟨M, eM⟩ : ∃ M, M = zM A.1 := ⟨_, rfl⟩
  have eM2 : zM (A.1, keptB A).1 = M := eM.symm
  rw [eM2] at hM2
  rw [← eM] at bw h hokM h24
  rw [hM2.1, nI_sub1 (by omega)] at g3
  rw [ew]
  refine LP2.rule (fun x4 s5 => ∃ k, x4 = nI k ∧ v ≤ k ∧ k ≤ mN M - 1 ∧ s5.1 = s3.1 ∧ (∀ a, a ≠ 2 → a ≠ 3 → a ≠ 4 → s5.2.1 a = s3.2.1 a) ∧ ∀ j, j < mN M → (j < k → s5.2.1 2 j = nI (mF (remW M v) j) ∧ s5.2.1 3 j = nI (mD (remW M v) j) ∧ s5.2.1 4 j = nI (mT (remW M v) j)) ∧ (k ≤ j → s5.2.1 2 j = nI (mF M j) ∧ s5.2.1 3 j = nI (mD M j) ∧ s5.2.1 4 j = nI (mT M j))) (fun x4 _ => 24 - x4.toNatClampNeg) ?_ ⟨v, rfl, Nat.le_refl _, by omega, rfl, fun _ _ _ _ => rfl, fun j hj => ⟨fun hjv => ?_, fun _ => ?_⟩⟩
  · rintro X6 x4 s5 ⟨k, rfl, hvk, hk, f1, f2, f3⟩ ih
    have e1 : s5.1 0 1 = nI (mN M - 1) := by rw [f1, g3, sF_s]
    have hck : (nI k).toNatClampNeg = k := nI_clamp (by omega)
    have hck1 : (nI (k + 1)).toNatClampNeg = k + 1 := nI_clamp (by omega)
    have hle : s5.1 0 1 ≤ nI k ↔ mN M - 1 ≤ k := by rw [e1]; exact nI_leI (by omega) (by omega)
    rw [hle, nI_1 k, hck, hck1]
    refine ⟨fun z => ?_, fun z => ?_⟩
    · have ek : k = mN M - 1 := by omega
      have hM5 : RepRM s5 (remW M v) := by
        refine ⟨e1, ?_, ?_, fun j hj => ?_⟩
        · rw [f1, g3, sF_1, if_neg (by decide)]; exact hM2.2.1
        · rw [f1, g3, sF_1, if_neg (by decide)]; exact hM2.2.2.1
        · have hj : j < mN M - 1 := hj
          exact (f3 j (by omega)).1 (by omega)
      have hO : Oth s2 s5 := by
        have o1 : Oth s2 s3 := by rw [g3]; exact Oth.f _ (by decide)
        refine o1.trans ⟨⟨by rw [f1], by rw [f1], f2 5 (by decide) (by decide) (by decide)⟩, ⟨f2 6 (by decide) (by decide) (by decide), by rw [f1]⟩, f2 1 (by decide) (by decide) (by decide), f2 15 (by decide) (by decide) (by decide), by rw [f1]⟩
      refine r_beginsA hM5 (remW_ok hokM bw) (hR2.2.oth hO) (fun s7 hR7 e7 => ?_)
      rw [e7, e1]
      exact h s7 hR7
    · have hlt : k < mN M - 1 := by omega
      have i1 : vp_in (nI (k + 1)) 24 := vp_in_nI (by omega) (by decide)
      have i0 : vp_in (nI k) 24 := vp_in_nI (by omega) (by decide)
      refine ⟨i1, i0, fun s8 g8 => ⟨i1, i0, fun s9 g9 => ⟨i1, i0, fun s10 g10 => ?_⟩⟩⟩
      have a2 : s10.2.1 2 = upd (s5.2.1 2) k (s5.2.1 2 (k + 1)) := by rw [g10, g9, g8]; rfl
      have a3 : s10.2.1 3 = upd (s5.2.1 3) k (s5.2.1 3 (k + 1)) := by rw [g10, g9, g8]; rfl
      have a4 : s10.2.1 4 = upd (s5.2.1 4) k (s5.2.1 4 (k + 1)) := by rw [g10, g9, g8]; rfl
      have aa : ∀ a, a ≠ 2 → a ≠ 3 → a ≠ 4 → s10.2.1 a = s5.2.1 a := fun a q2 q3 q4 => by
        rw [g10, sA_n _ _ q4, g9, sA_n _ _ q3, g8, sA_n _ _ q2]
      have a1 : s10.1 = s5.1 := by rw [g10, g9, g8]; rfl
      refine ih _ _ ⟨k + 1, rfl, by omega, by omega, a1.trans f1, fun a q2 q3 q4 => (aa a q2 q3 q4).trans (f2 a q2 q3 q4), fun j hj => ⟨fun hjk => ?_, fun hkj => ?_⟩⟩ (by rw [hck, hck1]; omega)
      · rw [a2, a3, a4]
        by_cases e : j = k
        · subst e
          rw [upd_s, upd_s, upd_s]
          obtain ⟨u1, u2, u3⟩ := (f3 (j + 1) (by omega)).2 (by omega)
          rw [u1, u2, u3]
          show nI _ = nI (if j < v then mF M j else mF M (j + 1)) ∧ nI _ = nI (if j < v then mD M j else mD M (j + 1)) ∧ nI _ = nI (if j < v then mT M j else mT M (j + 1))
          rw [if_neg (by omega), if_neg (by omega), if_neg (by omega)]
          exact ⟨rfl, rfl, rfl⟩
        · rw [upd_n e, upd_n e, upd_n e]
          exact (f3 j hj).1 (by omega)
      · rw [a2, a3, a4, upd_n (by omega), upd_n (by omega), upd_n (by omega)]
        exact (f3 j hj).2 (by omega)
  · rw [g3, sF_2]
    have := hM2.2.2.2 j hj
    show _ = nI (if j < v then mF M j else mF M (j + 1)) ∧ _ = nI (if j < v then mD M j else mD M (j + 1)) ∧ _ = nI (if j < v then mT M j else mT M (j + 1))
    rw [if_pos hjv, if_pos hjv, if_pos hjv]
    exact this
  · rw [g3, sF_2]
    exact hM2.2.2.2 j hj
theorem r_anew {σ : ft_St} {A : AA} {Φ : Int32 → ft_St → Prop} (hR : RepR σ A) (hok : AOk A) (h : ∀ σ', RepR σ' (anewF A).2 → Φ (anewF A).1 σ') : w_X10_anew σ Φ := by
  unfold w_X10_anew
  have hokM := hok.1.1
  refine r_leavesA hR hok (fun s1 hR1 k1 k2 s2 g2 s3 g3 s4 g4 => ?_)
  have hM1 := hR1.1.1
  rw [hM1.1]
  have hM4 : RepRM s4 (anewM (zM A.1)) := by
    rw [g4, g3, g2]
    refine ⟨?_, ?_, sF_s _ _ _ _, fun w hw => absurd hw (Nat.not_lt_zero _)⟩
    · rw [sF_1, if_neg (by decide), sF_1, if_neg (by decide), sF_s]; rfl
    · rw [sF_1, if_neg (by decide), sF_s]; rfl
  have hO : Oth s1 s4 := by
    rw [g4, g3, g2]
    exact ((Oth.f _ (by decide)).trans (Oth.f _ (by decide))).trans (Oth.f _ (by decide))
  have hok4 : MOk (anewM (zM A.1)) := ⟨Nat.zero_le _, fun w hw => absurd hw (Nat.not_lt_zero _), fun i hi => by
    have hi : bt 255 i = true := hi
    rw [b_255] at hi; exact of_decide_eq_true hi, fun i hi => b0_8 i hi⟩
  exact r_beginsA hM4 hok4 (hR1.2.oth hO) (fun s5 hR5 _ => h s5 hR5)
theorem r_restarts {σ : ft_St} {A : AA} {Φ : Int32 → ft_St → Prop} (hR : RepR σ A) (hok : AOk A) (h : ∀ σ', RepR σ' (restartsF A).2 → Φ (restartsF A).1 σ') : w_X10_restarts σ Φ := by
  unfold w_X10_restarts
  refine r_leavesA hR hok (fun s1 hR1 k1 k2 => ?_)
  refine r_beginsA hR1.1.1 hok.1.1 hR1.2 (fun s2 hR2 _ => ?_)
  rw [hR2.1.2.1]
  exact r_verdict (h s2 hR2)
