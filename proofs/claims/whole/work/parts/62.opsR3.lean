theorem r_sees {σ : ft_St} {A : AA} {a : Int32} {Φ : Int32 → ft_St → Prop} (hR : RepR σ A) (hok : AOk A) (h : ∀ σ', RepR σ' (seesF A a).2 → Φ (seesF A a).1 σ') : w_X10_sees a σ Φ := by
  unfold w_X10_sees
  unfold seesF at h
  have hokM := hok.1.1
  have hM := hR.1.1
  refine r_isDeed (fun y => ⟨fun _ => ?_, fun z => absurd z (by decide)⟩) (fun y => ⟨fun z => absurd rfl z, fun _ => ?_⟩)
  rotate_left
  · rw [cif_f y] at h; exact r_badA hR h
  rw [cif_t y] at h
  obtain ⟨d, hd, rfl⟩ := y
  have hcl : cl (nI d) = d := nI_clamp (by omega)
  rw [hcl] at h
  obtain ⟨S, eS⟩ : ∃ S, S = AFC (zM A.1) (zK A.1) d := ⟨_, rfl⟩
  rw [← eS] at h
  refine r_isSeen (by omega) ?_
  rw [hM.2.1]
  intro J4 hJ4
  have main : J4 S := by
    refine hJ4 S ⟨fun z => ?_, fun z => ?_⟩
    rotate_left
    · rw [cif_t z] at h; exact r_noA hR h
    rw [cif_f z] at h
    refine r_leavesA hR hok (fun s5 hR5 k1 k2 s6 g6 => ?_)
    have hM5 : RepRM s5 (zM A.1) := hR5.1.1
    obtain ⟨z0, ez0⟩ : ∃ z, z = A.1 := ⟨_, rfl⟩
    have hZ5 : RepRZ s5 z0 := by rw [ez0]; exact hR5.1
    have hc8 : zC z0 ≤ 8 := by rw [ez0]; exact hok.1.2.1
    refine LP2.rule (fun x7 s8 => ∃ i : Nat, x7 = nI i ∧ i ≤ 7 ∧ s8.1 = s6.1 ∧ (∀ b, b ≠ 5 → s8.2.1 b = s6.2.1 b) ∧ ∀ j, j < 8 → s8.2.1 5 j = if i < j then s5.2.1 5 (j - 1) else s5.2.1 5 j) (fun x7 _ => x7.toNatClampNeg) ?_ ⟨7, rfl, Nat.le_refl _, rfl, fun _ _ => rfl, fun j hj => by rw [if_neg (by omega), g6]; rfl⟩
    rintro X9 x7 s8 ⟨i, rfl, hi, f1, f2, f3⟩ ih
    have hci : (nI i).toNatClampNeg = i := nI_clamp (by omega)
    have hle : nI i ≤ 0 ↔ i ≤ 0 := nI_leI (b := 0) (by omega) (by decide)
    rw [hle]
    refine ⟨fun w => ?_, fun w => ?_⟩
    · have ei : i = 0 := by omega
      subst ei
      refine ⟨vp_in_nI (n := 0) (by decide) (by decide), fun s10 g10 => ?_⟩
      have e8 : s10.1 0 8 = nI (zC z0) := by rw [g10, sA_1, f1, g6, sF_1, if_neg (by decide)]; exact hZ5.2.2.1
      have c0 : (0 : Int32).toNatClampNeg = 0 := by decide
      rw [c0] at g10
      rw [e8]
      have hle8 : (8 : Int32) ≤ nI (zC z0) ↔ 8 ≤ zC z0 := nI_leI (a := 8) (by decide) (by omega)
      rw [hle8]
      have fin : ∀ (x11 : Int32), nI (zC z0) + x11 = nI (if zC z0 < 8 then zC z0 + 1 else 8) → ∀ (s13 : ft_St), s13 = ft_sF s10 0 8 (nI (zC z0) + x11) → w_X10_verdict (s13.1 0 7) (fun (r14 : Int32) => Φ r14 s13) := by
        intro x11 e11 s13 g13
        rw [e11] at g13
        have e7 : s13.1 0 7 = S := by rw [g13, sF_1, if_neg (by decide), g10, sA_1, f1, g6, sF_s]
        rw [e7]
        refine r_verdict (h s13 ?_)
        have fl : ∀ j, j ≠ 7 → j ≠ 8 → s13.1 0 j = s5.1 0 j := fun j q7 q8 => by
          rw [g13, sF_1, if_neg q8, g10, sA_1, f1, g6, sF_1, if_neg q7]
        have rw' : ∀ b, b ≠ 5 → s13.2.1 b = s5.2.1 b := fun b hb => by
          rw [g13, sF_2, g10, sA_n _ _ hb, f2 b hb, g6, sF_2]
        have r5 : s13.2.1 5 = upd (s8.2.1 5) 0 (nI d) := by rw [g13, sF_2, g10, sA_s]
        refine ⟨⟨?_, e7, ?_, fun j hj => ?_⟩, ?_⟩
        · exact rm_of hM5 (fl 1 (by decide) (by decide)) (fl 5 (by decide) (by decide)) (fl 6 (by decide) (by decide)) (rw' 2 (by decide)) (rw' 3 (by decide)) (rw' 4 (by decide))
        · rw [g13, sF_s, ez0]; rfl
        · have hj : j < (if zC A.1 < 8 then zC A.1 + 1 else 8) := hj
          rw [← ez0] at hj
          have hj8 : j < 8 := by split at hj <;> omega
          rw [r5]
          show upd (s8.2.1 5) 0 (nI d) j = if j = 0 then nI d else zG A.1 (j - 1)
          by_cases e : j = 0
          · rw [e, upd_s, if_pos rfl]
          · rw [upd_n e, if_neg e, f3 j hj8, if_pos (by omega), ← ez0]
            exact hZ5.2.2.2 (j - 1) (by split at hj <;> omega)
        · obtain ⟨b1, b2, b3⟩ := hR5.2
          refine ⟨⟨b1.1, by rw [fl 10 (by decide) (by decide)]; exact b1.2.1, fun i hi => by rw [rw' 6 (by decide)]; exact b1.2.2 i hi⟩, ⟨by rw [fl 22 (by decide) (by decide)]; exact b2.1, fun i hi => by rw [rw' 15 (by decide)]; exact b2.2 i hi⟩, ?_⟩
          rw [rw' 1 (by decide)]; exact b3
      intro J12 hJ12
      refine ⟨fun v => hJ12 0 (fin 0 ?_), fun v => hJ12 1 (fin 1 ?_)⟩
      · rw [if_neg (by omega), show zC z0 = 8 by omega]; rfl
      · rw [if_pos (by omega)]; exact nI_1 _
    · have e1 : nI i - 1 = nI (i - 1) := nI_sub1 (by omega)
      have e2 : nI i + (-1) = nI (i - 1) := by rw [← e1]; exact (Int32.sub_eq_add_neg _ _).symm
      have hc1 : (nI (i - 1)).toNatClampNeg = i - 1 := nI_clamp (by omega)
      rw [e1, e2, hci, hc1]
      refine ⟨vp_in_nI (by omega) (by decide), vp_in_nI (by omega) (by decide), fun s15 g15 => ?_⟩
      refine ih _ _ ⟨i - 1, rfl, by omega, by rw [g15]; exact f1, fun b hb => by rw [g15, sA_n _ _ hb]; exact f2 b hb, fun j hj => ?_⟩ (by rw [hc1, hci]; omega)
      rw [g15, sA_s]
      by_cases e : j = i
      · subst e
        rw [upd_s, f3 (j - 1) (by omega), if_neg (by omega), if_pos (by omega)]
      · rw [upd_n e, f3 j hj]
        by_cases c : i < j
        · rw [if_pos c, if_pos (by omega)]
        · rw [if_neg c, if_neg (by omega)]
  unfold AFC at eS
  cases es : bt (mS (zM A.1)) d
  · rw [if_neg (by rw [es]; decide)] at eS
    rw [eS] at main
    exact ⟨fun _ => main, fun z => absurd rfl z⟩
  · rw [if_pos es] at eS
    refine ⟨fun z => absurd z (by decide), fun _ => ?_⟩
    rw [hR.1.2.1]
    refine r_sawBy hM hokM (by omega) ?_
    rw [← eS]; exact main
theorem r_known4 {σ : ft_St} {A : AA} {Φ : Int32 → Prop} (hR : RepR σ A) (hok : AOk A) (h : Φ (b01 (unsB (zM A.1) (zK A.1)))) : w_X10_stepped (σ.1 0 7) (255 &&& ((σ.1 0 5) ^^^ (-1))) σ (fun (r1 : Int32) => (r1 = 0 → Φ 0) ∧ (¬ r1 = 0 → Φ 1)) := by
  have hM := hR.1.1
  have hokM := hok.1.1
  rw [hR.1.2.1, hM.2.1]
  refine r_stepped hM hokM (fun r hr => ?_)
  have key : ¬ r = 0 ↔ unsP (zM A.1) (zK A.1) := by
    constructor
    · intro z
      have : ∃ j, bt r j = true := Classical.byContradiction (fun hno => z (b_eq0.mpr (fun i _ => by
        cases e : bt r i
        · rfl
        · exact absurd ⟨i, e⟩ hno)))
      obtain ⟨j, hj⟩ := this
      obtain ⟨i, hi, w, hw, hdp, hiw, -⟩ := (hr j).mp hj
      refine ⟨w, hw, ?_, ?_⟩
      · have hdp : bt (255 &&& (mS (zM A.1) ^^^ -1)) (mD (zM A.1) w) = true := hdp
        rw [b_and, b_255, Bool.and_eq_true, b_not _ (by have := (hokM.2.1 w hw).2.1; omega)] at hdp
        cases e : bt (mS (zM A.1)) (mD (zM A.1) w)
        · rfl
        · rw [e] at hdp; exact absurd hdp.2 (by decide)
      · rcases hiw with e | e
        · rw [← e]; exact Or.inl hi
        · rw [← e]; exact Or.inr hi
    · rintro ⟨w, hw, hs, hor⟩ z
      have b8 := (hokM.2.1 w hw).2.1
      have hdp : bt (255 &&& (mS (zM A.1) ^^^ -1)) (mD (zM A.1) w) = true := by
        rw [b_and, b_255, b_not _ (by omega), hs]; simp [b8]
      have : ∀ i, bt (zK A.1) i = true → (i = mF (zM A.1) w ∨ i = mF (zM A.1) w + 10) → False := by
        intro i hi hiw
        have := (hr (mkB (zM A.1) w i)).mpr ⟨i, hi, w, hw, hdp, hiw, rfl⟩
        rw [z, b_0] at this; cases this
      rcases hor with e | e
      · exact this _ e (Or.inl rfl)
      · exact this _ e (Or.inr rfl)
  refine ⟨fun z => ?_, fun z => ?_⟩
  · have : unsB (zM A.1) (zK A.1) = false := by
      cases e : unsB (zM A.1) (zK A.1)
      · rfl
      · exact absurd z (key.mpr (unsB_t.mp e))
    rw [this] at h; exact h
  · rw [unsB_t.mpr (key.mp z)] at h; exact h
theorem r_known3 {σ : ft_St} {A : AA} {Φ : Int32 → Prop} (hR : RepR σ A) (hok : AOk A) (h : Φ (NXT (zM A.1) (zK A.1))) : LP2 (fun (X6 : Int32 → Int32 → Prop) (x4 : Int32) (x5 : Int32) => (8 ≤ x5 → Φ x4) ∧ (¬ 8 ≤ x5 → w_X10_isSeen x5 σ (fun (r7 : Int32) => JN0 (fun (J8 : Prop) => (r7 = 0 → J8) ∧ (¬ r7 = 0 → w_X10_stepped (σ.1 0 7) (1 <<< (x5 &&& 31)) σ (fun (r9 : Int32) => (r9 = 0 → J8) ∧ (¬ r9 = 0 → X6 (x4 ||| (1 <<< (x5 &&& 31))) (x5 + 1))))) (X6 (x4 ||| 0) (x5 + 1))))) 0 0 := by
  have hM := hR.1.1
  have hokM := hok.1.1
  obtain ⟨M, eM⟩ : ∃ M, M = zM A.1 := ⟨_, rfl⟩
  obtain ⟨S, eS⟩ : ∃ S, S = zK A.1 := ⟨_, rfl⟩
  rw [← eM] at hM hokM
  rw [← eM, ← eS] at h
  rw [hR.1.2.1, ← eS]
  refine LP2.rule (fun x4 x5 => ∃ d, x5 = nI d ∧ d ≤ 8 ∧ x4 = bI (fun d => bt (mS M) d = true ∧ ¬ AFT M S d = 0) d) (fun _ x5 => 8 - x5.toNatClampNeg) ?_ ⟨0, rfl, by decide, rfl⟩
  rintro X6 x4 x5 ⟨d, rfl, hd, rfl⟩ ih
  have hcd : (nI d).toNatClampNeg = d := nI_clamp (by omega)
  have hle : (8 : Int32) ≤ nI d ↔ 8 ≤ d := nI_leI (a := 8) (by decide) (by omega)
  rw [hle]
  refine ⟨fun y => ?_, fun y => ?_⟩
  · have e : d = 8 := by omega
    subst e; exact h
  · have hlt : d < 8 := by omega
    have hmu : 8 - (nI d + 1).toNatClampNeg < 8 - (nI d).toNatClampNeg := by
      rw [nI_1 d, nI_clamp (by omega), hcd]; omega
    have yes : (bt (mS M) d = true ∧ ¬ AFT M S d = 0) → X6 (bI (fun d => bt (mS M) d = true ∧ ¬ AFT M S d = 0) d ||| (1 <<< (nI d &&& 31))) (nI d + 1) := fun q => ih _ _ ⟨d + 1, nI_1 d, by omega, by
      apply b_extI
      intro i hi
      rw [b_orI, bI_bt _ d (by omega) i hi, bI_bt _ (d + 1) (by omega) i hi, b_bitI (by omega) hi]
      constructor
      · rintro (⟨q1, q2⟩ | q1)
        · exact ⟨by omega, q2⟩
        · rw [q1]; exact ⟨by omega, q⟩
      · rintro ⟨q1, q2⟩
        by_cases e : i = d
        · exact Or.inr e
        · exact Or.inl ⟨by omega, q2⟩⟩ hmu
    have no : ¬ (bt (mS M) d = true ∧ ¬ AFT M S d = 0) → X6 (bI (fun d => bt (mS M) d = true ∧ ¬ AFT M S d = 0) d ||| 0) (nI d + 1) := fun q => ih _ _ ⟨d + 1, nI_1 d, by omega, by
      apply b_extI
      intro i hi
      rw [b_orI, bI_bt _ d (by omega) i hi, bI_bt _ (d + 1) (by omega) i hi, b_0]
      constructor
      · rintro (⟨q1, q2⟩ | q1)
        · exact ⟨by omega, q2⟩
        · cases q1
      · rintro ⟨q1, q2⟩
        by_cases e : i = d
        · rw [e] at q2; exact absurd q2 q
        · exact Or.inl ⟨by omega, q2⟩⟩ hmu
    refine r_isSeen (by omega) ?_
    rw [hM.2.1]
    intro J8 hJ8
    refine ⟨fun z => hJ8 (no (fun q => by rw [(b01_z _).mp z] at q; exact absurd q.1 (by decide))), fun z => ?_⟩
    have es := b01_t z
    refine r_stepD hM hokM hlt (fun r hr => ?_)
    have az := AFT_z hokM hr
    exact ⟨fun w => hJ8 (no (fun q => q.2 (az.mp w))), fun w => yes ⟨es, fun q => w (az.mpr q)⟩⟩
theorem ds5 {k : Int32} (h : isN k 4) : k = 0 ∨ k = 1 ∨ k = 2 ∨ k = 3 ∨ k = 4 := by
  obtain ⟨n, hn, rfl⟩ := h
  have : n = 0 ∨ n = 1 ∨ n = 2 ∨ n = 3 ∨ n = 4 := by omega
  rcases this with e | e | e | e | e <;> subst e
  · exact Or.inl rfl
  · exact Or.inr (Or.inl rfl)
  · exact Or.inr (Or.inr (Or.inl rfl))
  · exact Or.inr (Or.inr (Or.inr (Or.inl rfl)))
  · exact Or.inr (Or.inr (Or.inr (Or.inr rfl)))
theorem r_knownV {σ : ft_St} {A : AA} {k : Int32} {Φ : Int32 → Prop} (hR : RepR σ A) (hok : AOk A) (hk : isN k 4) (h : Φ (knownV A.1 k)) : w_X10_knownBy k σ Φ := by
  unfold w_X10_knownBy
  unfold knownV at h
  rcases ds5 hk with e | e | e | e | e <;> subst e
  · rw [if_pos rfl] at h
    refine ⟨fun _ => by rw [hR.1.2.1]; exact h, fun z => absurd z (by decide), fun z => absurd z (by decide), fun z => absurd z (by decide), fun z => absurd z (by decide)⟩
  · rw [if_neg (by decide), if_pos rfl] at h
    refine ⟨fun z => absurd z (by decide), fun _ => by rw [hR.1.2.1]; exact r_verdict h, fun z => absurd z (by decide), fun z => absurd z (by decide), fun z => absurd z (by decide)⟩
  · rw [if_neg (by decide), if_neg (by decide), if_pos rfl] at h
    refine ⟨fun z => absurd z (by decide), fun z => absurd z (by decide), fun _ => by rw [hR.1.2.1]; exact r_ones h, fun z => absurd z (by decide), fun z => absurd z (by decide)⟩
  · rw [if_neg (by decide), if_neg (by decide), if_neg (by decide), if_pos rfl] at h
    refine ⟨fun z => absurd z (by decide), fun z => absurd z (by decide), fun z => absurd z (by decide), fun _ => r_known3 hR hok h, fun z => absurd z (by decide)⟩
  · rw [if_neg (by decide), if_neg (by decide), if_neg (by decide), if_neg (by decide)] at h
    refine ⟨fun z => absurd z (by decide), fun z => absurd z (by decide), fun z => absurd z (by decide), fun z => absurd z (by decide), fun _ => r_known4 hR hok h⟩
theorem r_known {σ : ft_St} {A : AA} {k : Int32} {Φ : Int32 → ft_St → Prop} (hR : RepR σ A) (hok : AOk A) (h : ∀ σ', RepR σ' (knownF A k).2 → Φ (knownF A k).1 σ') : w_X10_known k σ Φ := by
  unfold w_X10_known
  unfold knownF at h
  refine r_in (m := 4) (by decide) (fun y => ⟨fun z => absurd z (by decide), fun _ => ?_⟩) (fun y => ⟨fun _ => ?_, fun z => absurd rfl z⟩)
  · rw [cif_t y] at h; exact r_knownV hR hok y (h σ hR)
  · rw [cif_f y] at h; exact r_badA hR h
